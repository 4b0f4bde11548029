theorem d_Mo_pack_60 : decode b_Mo_pack 60 = .ok (.putfield 191, 3) := by decide +kernel
theorem d_Mo_pack_63 : decode b_Mo_pack 63 = .ok (.iconst 0, 1) := by decide +kernel
theorem d_Mo_pack_64 : decode b_Mo_pack 64 = .ok (.istore_n 3, 1) := by decide +kernel
theorem d_Mo_pack_65 : decode b_Mo_pack 65 = .ok (.iconst 0, 1) := by decide +kernel
theorem d_Mo_pack_66 : decode b_Mo_pack 66 = .ok (.istore 4, 2) := by decide +kernel
theorem d_Mo_pack_68 : decode b_Mo_pack 68 = .ok (.iload 4, 2) := by decide +kernel
theorem d_Mo_pack_70 : decode b_Mo_pack 70 = .ok (.ifCond .ne 125, 3) := by decide +kernel
theorem d_Mo_pack_73 : decode b_Mo_pack 73 = .ok (.iload_n 3, 1) := by decide +kernel
theorem d_Mo_pack_74 : decode b_Mo_pack 74 = .ok (.sipush 4096, 3) := by decide +kernel
theorem d_Mo_pack_77 : decode b_Mo_pack 77 = .ok (.iadd, 1) := by decide +kernel
theorem d_Mo_pack_78 : decode b_Mo_pack 78 = .ok (.aload_n 0, 1) := by decide +kernel
theorem d_Mo_pack_79 : decode b_Mo_pack 79 = .ok (.getfield 65, 3) := by decide +kernel
theorem d_Mo_pack_82 : decode b_Mo_pack 82 = .ok (.if_icmp .ge 11, 3) := by decide +kernel
theorem d_Mo_pack_85 : decode b_Mo_pack 85 = .ok (.iload_n 3, 1) := by decide +kernel
theorem d_Mo_pack_86 : decode b_Mo_pack 86 = .ok (.sipush 4096, 3) := by decide +kernel
theorem d_Mo_pack_89 : decode b_Mo_pack 89 = .ok (.iadd, 1) := by decide +kernel
theorem d_Mo_pack_90 : decode b_Mo_pack 90 = .ok (.goto 7, 3) := by decide +kernel
theorem d_Mo_pack_93 : decode b_Mo_pack 93 = .ok (.aload_n 0, 1) := by decide +kernel
theorem d_Mo_pack_94 : decode b_Mo_pack 94 = .ok (.getfield 65, 3) := by decide +kernel
theorem d_Mo_pack_97 : decode b_Mo_pack 97 = .ok (.istore 5, 2) := by decide +kernel
theorem d_Mo_pack_99 : decode b_Mo_pack 99 = .ok (.iload 5, 2) := by decide +kernel
theorem d_Mo_pack_101 : decode b_Mo_pack 101 = .ok (.aload_n 0, 1) := by decide +kernel
theorem d_Mo_pack_102 : decode b_Mo_pack 102 = .ok (.getfield 65, 3) := by decide +kernel
theorem d_Mo_pack_105 : decode b_Mo_pack 105 = .ok (.if_icmp .ne 7, 3) := by decide +kernel
theorem d_Mo_pack_108 : decode b_Mo_pack 108 = .ok (.iconst 1, 1) := by decide +kernel
theorem d_Mo_pack_109 : decode b_Mo_pack 109 = .ok (.goto 4, 3) := by decide +kernel
theorem d_Mo_pack_112 : decode b_Mo_pack 112 = .ok (.iconst 0, 1) := by decide +kernel
theorem d_Mo_pack_113 : decode b_Mo_pack 113 = .ok (.istore 4, 2) := by decide +kernel
theorem d_Mo_pack_115 : decode b_Mo_pack 115 = .ok (.aload_n 0, 1) := by decide +kernel
theorem d_Mo_pack_116 : decode b_Mo_pack 116 = .ok (.iload_n 3, 1) := by decide +kernel
theorem d_Mo_pack_117 : decode b_Mo_pack 117 = .ok (.iload 5, 2) := by decide +kernel
theorem d_Mo_pack_119 : decode b_Mo_pack 119 = .ok (.iload_n 1, 1) := by decide +kernel
theorem d_Mo_pack_120 : decode b_Mo_pack 120 = .ok (.iload_n 2, 1) := by decide +kernel
theorem d_Mo_pack_121 : decode b_Mo_pack 121 = .ok (.invokevirtual 237, 3) := by decide +kernel
theorem d_Mo_pack_124 : decode b_Mo_pack 124 = .ok (.iconst 0, 1) := by decide +kernel
theorem d_Mo_pack_125 : decode b_Mo_pack 125 = .ok (.istore 6, 2) := by decide +kernel
theorem d_Mo_pack_127 : decode b_Mo_pack 127 = .ok (.iload 6, 2) := by decide +kernel
theorem d_Mo_pack_129 : decode b_Mo_pack 129 = .ok (.aload_n 0, 1) := by decide +kernel
theorem d_Mo_pack_130 : decode b_Mo_pack 130 = .ok (.getfield 164, 3) := by decide +kernel
theorem d_Mo_pack_133 : decode b_Mo_pack 133 = .ok (.if_icmp .ge 37, 3) := by decide +kernel
theorem d_Mo_pack_136 : decode b_Mo_pack 136 = .ok (.aload_n 0, 1) := by decide +kernel
theorem d_Mo_pack_137 : decode b_Mo_pack 137 = .ok (.getfield 28, 3) := by decide +kernel
theorem d_Mo_pack_140 : decode b_Mo_pack 140 = .ok (.iload 6, 2) := by decide +kernel
theorem d_Mo_pack_142 : decode b_Mo_pack 142 = .ok (.iaload, 1) := by decide +kernel
theorem d_Mo_pack_143 : decode b_Mo_pack 143 = .ok (.ifCond .le 7, 3) := by decide +kernel
theorem d_Mo_pack_146 : decode b_Mo_pack 146 = .ok (.iconst 4, 1) := by decide +kernel
theorem d_Mo_pack_147 : decode b_Mo_pack 147 = .ok (.goto 4, 3) := by decide +kernel
theorem d_Mo_pack_150 : decode b_Mo_pack 150 = .ok (.iconst 5, 1) := by decide +kernel
theorem d_Mo_pack_151 : decode b_Mo_pack 151 = .ok (.istore 7, 2) := by decide +kernel
theorem d_Mo_pack_153 : decode b_Mo_pack 153 = .ok (.aload_n 0, 1) := by decide +kernel
theorem d_Mo_pack_154 : decode b_Mo_pack 154 = .ok (.getfield 16, 3) := by decide +kernel
theorem d_Mo_pack_157 : decode b_Mo_pack 157 = .ok (.iload 7, 2) := by decide +kernel
theorem d_Mo_pack_159 : decode b_Mo_pack 159 = .ok (.dup2, 1) := by decide +kernel
theorem d_Mo_pack_160 : decode b_Mo_pack 160 = .ok (.iaload, 1) := by decide +kernel
theorem d_Mo_pack_161 : decode b_Mo_pack 161 = .ok (.iconst 1, 1) := by decide +kernel
theorem d_Mo_pack_162 : decode b_Mo_pack 162 = .ok (.iadd, 1) := by decide +kernel
theorem d_Mo_pack_163 : decode b_Mo_pack 163 = .ok (.iastore, 1) := by decide +kernel
theorem d_Mo_pack_164 : decode b_Mo_pack 164 = .ok (.iinc 6 1, 3) := by decide +kernel
theorem d_Mo_pack_167 : decode b_Mo_pack 167 = .ok (.goto (-40), 3) := by decide +kernel
theorem d_Mo_pack_170 : decode b_Mo_pack 170 = .ok (.aload_n 0, 1) := by decide +kernel
theorem d_Mo_pack_171 : decode b_Mo_pack 171 = .ok (.getfield 16, 3) := by decide +kernel
theorem d_Mo_pack_174 : decode b_Mo_pack 174 = .ok (.iconst 0, 1) := by decide +kernel
theorem d_Mo_pack_175 : decode b_Mo_pack 175 = .ok (.dup2, 1) := by decide +kernel
theorem d_Mo_pack_176 : decode b_Mo_pack 176 = .ok (.iaload, 1) := by decide +kernel
theorem d_Mo_pack_177 : decode b_Mo_pack 177 = .ok (.iconst 1, 1) := by decide +kernel
theorem d_Mo_pack_178 : decode b_Mo_pack 178 = .ok (.iadd, 1) := by decide +kernel
theorem d_Mo_pack_179 : decode b_Mo_pack 179 = .ok (.iastore, 1) := by decide +kernel
theorem d_Mo_pack_180 : decode b_Mo_pack 180 = .ok (.aload_n 0, 1) := by decide +kernel
theorem d_Mo_pack_181 : decode b_Mo_pack 181 = .ok (.iload_n 3, 1) := by decide +kernel
theorem d_Mo_pack_182 : decode b_Mo_pack 182 = .ok (.iload 5, 2) := by decide +kernel
theorem d_Mo_pack_184 : decode b_Mo_pack 184 = .ok (.iload 4, 2) := by decide +kernel
theorem d_Mo_pack_186 : decode b_Mo_pack 186 = .ok (.invokevirtual 241, 3) := by decide +kernel
theorem d_Mo_pack_189 : decode b_Mo_pack 189 = .ok (.iload 5, 2) := by decide +kernel
theorem d_Mo_pack_191 : decode b_Mo_pack 191 = .ok (.istore_n 3, 1) := by decide +kernel
theorem d_Mo_pack_192 : decode b_Mo_pack 192 = .ok (.goto (-124), 3) := by decide +kernel
theorem d_Mo_pack_195 : decode b_Mo_pack 195 = .ok (.aload_n 0, 1) := by decide +kernel
theorem d_Mo_pack_196 : decode b_Mo_pack 196 = .ok (.getfield 191, 3) := by decide +kernel
theorem d_Mo_pack_199 : decode b_Mo_pack 199 = .ok (.bipush 8, 2) := by decide +kernel
theorem d_Mo_pack_201 : decode b_Mo_pack 201 = .ok (.irem, 1) := by decide +kernel
theorem d_Mo_pack_202 : decode b_Mo_pack 202 = .ok (.ifCond .eq 11, 3) := by decide +kernel
theorem d_Mo_pack_205 : decode b_Mo_pack 205 = .ok (.aload_n 0, 1) := by decide +kernel
theorem d_Mo_pack_206 : decode b_Mo_pack 206 = .ok (.iconst 0, 1) := by decide +kernel
theorem d_Mo_pack_207 : decode b_Mo_pack 207 = .ok (.invokevirtual 194, 3) := by decide +kernel
theorem d_Mo_pack_210 : decode b_Mo_pack 210 = .ok (.goto (-15), 3) := by decide +kernel
theorem d_Mo_pack_213 : decode b_Mo_pack 213 = .ok (.aload_n 0, 1) := by decide +kernel
theorem d_Mo_pack_214 : decode b_Mo_pack 214 = .ok (.getfield 7, 3) := by decide +kernel
theorem d_Mo_pack_217 : decode b_Mo_pack 217 = .ok (.aload_n 0, 1) := by decide +kernel
theorem d_Mo_pack_218 : decode b_Mo_pack 218 = .ok (.getfield 65, 3) := by decide +kernel
theorem d_Mo_pack_221 : decode b_Mo_pack 221 = .ok (.invokestatic 159, 3) := by decide +kernel
theorem d_Mo_pack_224 : decode b_Mo_pack 224 = .ok (.lstore 5, 2) := by decide +kernel
theorem d_Mo_pack_226 : decode b_Mo_pack 226 = .ok (.bipush 24, 2) := by decide +kernel
theorem d_Mo_pack_228 : decode b_Mo_pack 228 = .ok (.istore 7, 2) := by decide +kernel
theorem d_Mo_pack_230 : decode b_Mo_pack 230 = .ok (.iload 7, 2) := by decide +kernel
theorem d_Mo_pack_232 : decode b_Mo_pack 232 = .ok (.ifCond .lt 25, 3) := by decide +kernel
theorem d_Mo_pack_235 : decode b_Mo_pack 235 = .ok (.aload_n 0, 1) := by decide +kernel
theorem d_Mo_pack_236 : decode b_Mo_pack 236 = .ok (.lload 5, 2) := by decide +kernel
theorem d_Mo_pack_238 : decode b_Mo_pack 238 = .ok (.iload 7, 2) := by decide +kernel
theorem d_Mo_pack_240 : decode b_Mo_pack 240 = .ok (.lshr, 1) := by decide +kernel
theorem d_Mo_pack_241 : decode b_Mo_pack 241 = .ok (.ldc2_w 69, 3) := by decide +kernel
theorem d_Mo_pack_244 : decode b_Mo_pack 244 = .ok (.land, 1) := by decide +kernel
theorem d_Mo_pack_245 : decode b_Mo_pack 245 = .ok (.l2i, 1) := by decide +kernel
theorem d_Mo_pack_246 : decode b_Mo_pack 246 = .ok (.bipush 8, 2) := by decide +kernel
theorem d_Mo_pack_248 : decode b_Mo_pack 248 = .ok (.invokevirtual 204, 3) := by decide +kernel
theorem d_Mo_pack_251 : decode b_Mo_pack 251 = .ok (.iinc 7 (-8), 3) := by decide +kernel
theorem d_Mo_pack_254 : decode b_Mo_pack 254 = .ok (.goto (-24), 3) := by decide +kernel
theorem d_Mo_pack_257 : decode b_Mo_pack 257 = .ok (.aload_n 0, 1) := by decide +kernel
theorem d_Mo_pack_258 : decode b_Mo_pack 258 = .ok (.getfield 72, 3) := by decide +kernel
theorem d_Mo_pack_261 : decode b_Mo_pack 261 = .ok (.ireturn, 1) := by decide +kernel
theorem d_Mo_told_0 : decode b_Mo_told 0 = .ok (.iload_n 1, 1) := by decide +kernel
theorem d_Mo_told_1 : decode b_Mo_told 1 = .ok (.ifCond .lt 9, 3) := by decide +kernel
theorem d_Mo_told_4 : decode b_Mo_told 4 = .ok (.iload_n 1, 1) := by decide +kernel
theorem d_Mo_told_5 : decode b_Mo_told 5 = .ok (.bipush 7, 2) := by decide +kernel
theorem d_Mo_told_7 : decode b_Mo_told 7 = .ok (.if_icmp .le 8, 3) := by decide +kernel
theorem d_Mo_told_10 : decode b_Mo_told 10 = .ok (.bipush (-2), 2) := by decide +kernel
theorem d_Mo_told_12 : decode b_Mo_told 12 = .ok (.goto 9, 3) := by decide +kernel
theorem d_Mo_told_15 : decode b_Mo_told 15 = .ok (.aload_n 0, 1) := by decide +kernel
theorem d_Mo_told_16 : decode b_Mo_told 16 = .ok (.getfield 16, 3) := by decide +kernel
theorem d_Mo_told_19 : decode b_Mo_told 19 = .ok (.iload_n 1, 1) := by decide +kernel
theorem d_Mo_told_20 : decode b_Mo_told 20 = .ok (.iaload, 1) := by decide +kernel
theorem d_Mo_told_21 : decode b_Mo_told 21 = .ok (.ireturn, 1) := by decide +kernel
theorem d_Mo_length_0 : decode b_Mo_length 0 = .ok (.iload_n 1, 1) := by decide +kernel
theorem d_Mo_length_1 : decode b_Mo_length 1 = .ok (.ifCond .lt 28, 3) := by decide +kernel
theorem d_Mo_length_4 : decode b_Mo_length 4 = .ok (.iload_n 1, 1) := by decide +kernel
theorem d_Mo_length_5 : decode b_Mo_length 5 = .ok (.iconst 1, 1) := by decide +kernel
theorem d_Mo_length_6 : decode b_Mo_length 6 = .ok (.if_icmp .gt 23, 3) := by decide +kernel
theorem d_Mo_length_9 : decode b_Mo_length 9 = .ok (.iload_n 2, 1) := by decide +kernel
theorem d_Mo_length_10 : decode b_Mo_length 10 = .ok (.ifCond .lt 19, 3) := by decide +kernel
theorem d_Mo_length_13 : decode b_Mo_length 13 = .ok (.iload_n 2, 1) := by decide +kernel
theorem d_Mo_length_14 : decode b_Mo_length 14 = .ok (.iload_n 1, 1) := by decide +kernel
theorem d_Mo_length_15 : decode b_Mo_length 15 = .ok (.ifCond .ne 9, 3) := by decide +kernel
theorem d_Mo_length_18 : decode b_Mo_length 18 = .ok (.sipush 285, 3) := by decide +kernel
theorem d_Mo_length_21 : decode b_Mo_length 21 = .ok (.goto 5, 3) := by decide +kernel
theorem d_Mo_length_24 : decode b_Mo_length 24 = .ok (.bipush 29, 2) := by decide +kernel
theorem d_Mo_length_26 : decode b_Mo_length 26 = .ok (.if_icmp .le 6, 3) := by decide +kernel
theorem d_Mo_length_29 : decode b_Mo_length 29 = .ok (.bipush (-2), 2) := by decide +kernel
theorem d_Mo_length_31 : decode b_Mo_length 31 = .ok (.ireturn, 1) := by decide +kernel
theorem d_Mo_length_32 : decode b_Mo_length 32 = .ok (.aload_n 0, 1) := by decide +kernel
theorem d_Mo_length_33 : decode b_Mo_length 33 = .ok (.getfield 62, 3) := by decide +kernel
theorem d_Mo_length_36 : decode b_Mo_length 36 = .ok (.sipush 288, 3) := by decide +kernel
theorem d_Mo_length_39 : decode b_Mo_length 39 = .ok (.iload_n 1, 1) := by decide +kernel
theorem d_Mo_length_40 : decode b_Mo_length 40 = .ok (.imul, 1) := by decide +kernel
theorem d_Mo_length_41 : decode b_Mo_length 41 = .ok (.iload_n 2, 1) := by decide +kernel
theorem d_Mo_length_42 : decode b_Mo_length 42 = .ok (.iadd, 1) := by decide +kernel
theorem d_Mo_length_43 : decode b_Mo_length 43 = .ok (.iaload, 1) := by decide +kernel
theorem d_Mo_length_44 : decode b_Mo_length 44 = .ok (.ireturn, 1) := by decide +kernel
theorem d_Law_law_0 : decode code 0 = .ok (.new 7, 3) := by decide +kernel
theorem d_Law_law_3 : decode code 3 = .ok (.dup, 1) := by decide +kernel
theorem d_Law_law_4 : decode code 4 = .ok (.invokespecial 9, 3) := by decide +kernel
theorem d_Law_law_7 : decode code 7 = .ok (.astore_n 1, 1) := by decide +kernel
theorem d_Law_law_8 : decode code 8 = .ok (.new 10, 3) := by decide +kernel
theorem d_Law_law_11 : decode code 11 = .ok (.dup, 1) := by decide +kernel
theorem d_Law_law_12 : decode code 12 = .ok (.invokespecial 12, 3) := by decide +kernel
theorem d_Law_law_15 : decode code 15 = .ok (.astore_n 2, 1) := by decide +kernel
theorem d_Law_law_16 : decode code 16 = .ok (.iconst 0, 1) := by decide +kernel
theorem d_Law_law_17 : decode code 17 = .ok (.istore_n 3, 1) := by decide +kernel
theorem d_Law_law_18 : decode code 18 = .ok (.iload_n 3, 1) := by decide +kernel
theorem d_Law_law_19 : decode code 19 = .ok (.aload_n 0, 1) := by decide +kernel
theorem d_Law_law_20 : decode code 20 = .ok (.arraylength, 1) := by decide +kernel
theorem d_Law_law_21 : decode code 21 = .ok (.iconst 4, 1) := by decide +kernel
theorem d_Law_law_22 : decode code 22 = .ok (.isub, 1) := by decide +kernel
theorem d_Law_law_23 : decode code 23 = .ok (.if_icmp .gt 441, 3) := by decide +kernel
theorem d_Law_law_26 : decode code 26 = .ok (.aload_n 0, 1) := by decide +kernel
theorem d_Law_law_27 : decode code 27 = .ok (.iload_n 3, 1) := by decide +kernel
theorem d_Law_law_28 : decode code 28 = .ok (.iaload, 1) := by decide +kernel
theorem d_Law_law_29 : decode code 29 = .ok (.bipush 15, 2) := by decide +kernel
theorem d_Law_law_31 : decode code 31 = .ok (.iand, 1) := by decide +kernel
theorem d_Law_law_32 : decode code 32 = .ok (.tableswitch 426 0 11 #[64, 127, 170, 203, 226, 239, 262, 295, 344, 357, 370, 393], 64) := by decide +kernel
theorem d_Law_law_96 : decode code 96 = .ok (.aload_n 1, 1) := by decide +kernel
theorem d_Law_law_97 : decode code 97 = .ok (.aload_n 0, 1) := by decide +kernel
theorem d_Law_law_98 : decode code 98 = .ok (.iload_n 3, 1) := by decide +kernel
theorem d_Law_law_99 : decode code 99 = .ok (.iconst 1, 1) := by decide +kernel
theorem d_Law_law_100 : decode code 100 = .ok (.iadd, 1) := by decide +kernel
theorem d_Law_law_101 : decode code 101 = .ok (.iaload, 1) := by decide +kernel
theorem d_Law_law_102 : decode code 102 = .ok (.i2l, 1) := by decide +kernel
theorem d_Law_law_103 : decode code 103 = .ok (.bipush 32, 2) := by decide +kernel
theorem d_Law_law_105 : decode code 105 = .ok (.lshl, 1) := by decide +kernel
theorem d_Law_law_106 : decode code 106 = .ok (.aload_n 0, 1) := by decide +kernel
theorem d_Law_law_107 : decode code 107 = .ok (.iload_n 3, 1) := by decide +kernel
theorem d_Law_law_108 : decode code 108 = .ok (.iconst 2, 1) := by decide +kernel
theorem d_Law_law_109 : decode code 109 = .ok (.iadd, 1) := by decide +kernel
theorem d_Law_law_110 : decode code 110 = .ok (.iaload, 1) := by decide +kernel
theorem d_Law_law_111 : decode code 111 = .ok (.i2l, 1) := by decide +kernel
theorem d_Law_law_112 : decode code 112 = .ok (.ldc2_w 13, 3) := by decide +kernel
theorem d_Law_law_115 : decode code 115 = .ok (.land, 1) := by decide +kernel
theorem d_Law_law_116 : decode code 116 = .ok (.lor, 1) := by decide +kernel
theorem d_Law_law_117 : decode code 117 = .ok (.aload_n 0, 1) := by decide +kernel
theorem d_Law_law_118 : decode code 118 = .ok (.iload_n 3, 1) := by decide +kernel
theorem d_Law_law_119 : decode code 119 = .ok (.iconst 3, 1) := by decide +kernel
theorem d_Law_law_120 : decode code 120 = .ok (.iadd, 1) := by decide +kernel
theorem d_Law_law_121 : decode code 121 = .ok (.iaload, 1) := by decide +kernel
theorem d_Law_law_122 : decode code 122 = .ok (.invokevirtual 15, 3) := by decide +kernel
theorem d_Law_law_125 : decode code 125 = .ok (.aload_n 2, 1) := by decide +kernel
theorem d_Law_law_126 : decode code 126 = .ok (.aload_n 0, 1) := by decide +kernel
theorem d_Law_law_127 : decode code 127 = .ok (.iload_n 3, 1) := by decide +kernel
theorem d_Law_law_128 : decode code 128 = .ok (.iconst 1, 1) := by decide +kernel
theorem d_Law_law_129 : decode code 129 = .ok (.iadd, 1) := by decide +kernel
theorem d_Law_law_130 : decode code 130 = .ok (.iaload, 1) := by decide +kernel
theorem d_Law_law_131 : decode code 131 = .ok (.i2l, 1) := by decide +kernel
theorem d_Law_law_132 : decode code 132 = .ok (.bipush 32, 2) := by decide +kernel
theorem d_Law_law_134 : decode code 134 = .ok (.lshl, 1) := by decide +kernel
theorem d_Law_law_135 : decode code 135 = .ok (.aload_n 0, 1) := by decide +kernel
theorem d_Law_law_136 : decode code 136 = .ok (.iload_n 3, 1) := by decide +kernel
theorem d_Law_law_137 : decode code 137 = .ok (.iconst 2, 1) := by decide +kernel
theorem d_Law_law_138 : decode code 138 = .ok (.iadd, 1) := by decide +kernel
theorem d_Law_law_139 : decode code 139 = .ok (.iaload, 1) := by decide +kernel
theorem d_Law_law_140 : decode code 140 = .ok (.i2l, 1) := by decide +kernel
theorem d_Law_law_141 : decode code 141 = .ok (.ldc2_w 13, 3) := by decide +kernel
theorem d_Law_law_144 : decode code 144 = .ok (.land, 1) := by decide +kernel
theorem d_Law_law_145 : decode code 145 = .ok (.lor, 1) := by decide +kernel
theorem d_Law_law_146 : decode code 146 = .ok (.aload_n 0, 1) := by decide +kernel
theorem d_Law_law_147 : decode code 147 = .ok (.iload_n 3, 1) := by decide +kernel
theorem d_Law_law_148 : decode code 148 = .ok (.iconst 3, 1) := by decide +kernel
theorem d_Law_law_149 : decode code 149 = .ok (.iadd, 1) := by decide +kernel
theorem d_Law_law_150 : decode code 150 = .ok (.iaload, 1) := by decide +kernel
theorem d_Law_law_151 : decode code 151 = .ok (.invokevirtual 19, 3) := by decide +kernel
theorem d_Law_law_154 : decode code 154 = .ok (.if_icmp .eq 304, 3) := by decide +kernel
theorem d_Law_law_157 : decode code 157 = .ok (.iconst 0, 1) := by decide +kernel
theorem d_Law_law_158 : decode code 158 = .ok (.ireturn, 1) := by decide +kernel
theorem d_Law_law_159 : decode code 159 = .ok (.aload_n 1, 1) := by decide +kernel
theorem d_Law_law_160 : decode code 160 = .ok (.aload_n 0, 1) := by decide +kernel
theorem d_Law_law_161 : decode code 161 = .ok (.iload_n 3, 1) := by decide +kernel
theorem d_Law_law_162 : decode code 162 = .ok (.iconst 1, 1) := by decide +kernel
theorem d_Law_law_163 : decode code 163 = .ok (.iadd, 1) := by decide +kernel
theorem d_Law_law_164 : decode code 164 = .ok (.iaload, 1) := by decide +kernel
theorem d_Law_law_165 : decode code 165 = .ok (.aload_n 0, 1) := by decide +kernel
theorem d_Law_law_166 : decode code 166 = .ok (.iload_n 3, 1) := by decide +kernel
theorem d_Law_law_167 : decode code 167 = .ok (.iconst 2, 1) := by decide +kernel
theorem d_Law_law_168 : decode code 168 = .ok (.iadd, 1) := by decide +kernel
theorem d_Law_law_169 : decode code 169 = .ok (.iaload, 1) := by decide +kernel
theorem d_Law_law_170 : decode code 170 = .ok (.aload_n 0, 1) := by decide +kernel
theorem d_Law_law_171 : decode code 171 = .ok (.iload_n 3, 1) := by decide +kernel
theorem d_Law_law_172 : decode code 172 = .ok (.iconst 3, 1) := by decide +kernel
theorem d_Law_law_173 : decode code 173 = .ok (.iadd, 1) := by decide +kernel
theorem d_Law_law_174 : decode code 174 = .ok (.iaload, 1) := by decide +kernel
theorem d_Law_law_175 : decode code 175 = .ok (.invokevirtual 20, 3) := by decide +kernel
theorem d_Law_law_178 : decode code 178 = .ok (.aload_n 2, 1) := by decide +kernel
theorem d_Law_law_179 : decode code 179 = .ok (.aload_n 0, 1) := by decide +kernel
theorem d_Law_law_180 : decode code 180 = .ok (.iload_n 3, 1) := by decide +kernel
theorem d_Law_law_181 : decode code 181 = .ok (.iconst 1, 1) := by decide +kernel
theorem d_Law_law_182 : decode code 182 = .ok (.iadd, 1) := by decide +kernel
theorem d_Law_law_183 : decode code 183 = .ok (.iaload, 1) := by decide +kernel
theorem d_Law_law_184 : decode code 184 = .ok (.aload_n 0, 1) := by decide +kernel
theorem d_Law_law_185 : decode code 185 = .ok (.iload_n 3, 1) := by decide +kernel
theorem d_Law_law_186 : decode code 186 = .ok (.iconst 2, 1) := by decide +kernel
theorem d_Law_law_187 : decode code 187 = .ok (.iadd, 1) := by decide +kernel
theorem d_Law_law_188 : decode code 188 = .ok (.iaload, 1) := by decide +kernel
theorem d_Law_law_189 : decode code 189 = .ok (.aload_n 0, 1) := by decide +kernel
theorem d_Law_law_190 : decode code 190 = .ok (.iload_n 3, 1) := by decide +kernel
theorem d_Law_law_191 : decode code 191 = .ok (.iconst 3, 1) := by decide +kernel
theorem d_Law_law_192 : decode code 192 = .ok (.iadd, 1) := by decide +kernel
theorem d_Law_law_193 : decode code 193 = .ok (.iaload, 1) := by decide +kernel
theorem d_Law_law_194 : decode code 194 = .ok (.invokevirtual 24, 3) := by decide +kernel
theorem d_Law_law_197 : decode code 197 = .ok (.if_icmp .eq 261, 3) := by decide +kernel
theorem d_Law_law_200 : decode code 200 = .ok (.iconst 0, 1) := by decide +kernel
theorem d_Law_law_201 : decode code 201 = .ok (.ireturn, 1) := by decide +kernel
theorem d_Law_law_202 : decode code 202 = .ok (.aload_n 1, 1) := by decide +kernel
theorem d_Law_law_203 : decode code 203 = .ok (.aload_n 0, 1) := by decide +kernel
theorem d_Law_law_204 : decode code 204 = .ok (.iload_n 3, 1) := by decide +kernel
theorem d_Law_law_205 : decode code 205 = .ok (.iconst 1, 1) := by decide +kernel
theorem d_Law_law_206 : decode code 206 = .ok (.iadd, 1) := by decide +kernel
theorem d_Law_law_207 : decode code 207 = .ok (.iaload, 1) := by decide +kernel
theorem d_Law_law_208 : decode code 208 = .ok (.aload_n 0, 1) := by decide +kernel
theorem d_Law_law_209 : decode code 209 = .ok (.iload_n 3, 1) := by decide +kernel
theorem d_Law_law_210 : decode code 210 = .ok (.iconst 2, 1) := by decide +kernel
theorem d_Law_law_211 : decode code 211 = .ok (.iadd, 1) := by decide +kernel
theorem d_Law_law_212 : decode code 212 = .ok (.iaload, 1) := by decide +kernel
theorem d_Law_law_213 : decode code 213 = .ok (.invokevirtual 25, 3) := by decide +kernel
theorem d_Law_law_216 : decode code 216 = .ok (.aload_n 2, 1) := by decide +kernel
theorem d_Law_law_217 : decode code 217 = .ok (.aload_n 0, 1) := by decide +kernel
theorem d_Law_law_218 : decode code 218 = .ok (.iload_n 3, 1) := by decide +kernel
theorem d_Law_law_219 : decode code 219 = .ok (.iconst 1, 1) := by decide +kernel
theorem d_Law_law_220 : decode code 220 = .ok (.iadd, 1) := by decide +kernel
theorem d_Law_law_221 : decode code 221 = .ok (.iaload, 1) := by decide +kernel
theorem d_Law_law_222 : decode code 222 = .ok (.aload_n 0, 1) := by decide +kernel
theorem d_Law_law_223 : decode code 223 = .ok (.iload_n 3, 1) := by decide +kernel
theorem d_Law_law_224 : decode code 224 = .ok (.iconst 2, 1) := by decide +kernel
theorem d_Law_law_225 : decode code 225 = .ok (.iadd, 1) := by decide +kernel
theorem d_Law_law_226 : decode code 226 = .ok (.iaload, 1) := by decide +kernel
theorem d_Law_law_227 : decode code 227 = .ok (.invokevirtual 29, 3) := by decide +kernel
theorem d_Law_law_230 : decode code 230 = .ok (.if_icmp .eq 228, 3) := by decide +kernel
theorem d_Law_law_233 : decode code 233 = .ok (.iconst 0, 1) := by decide +kernel
theorem d_Law_law_234 : decode code 234 = .ok (.ireturn, 1) := by decide +kernel
theorem d_Law_law_235 : decode code 235 = .ok (.aload_n 1, 1) := by decide +kernel
theorem d_Law_law_236 : decode code 236 = .ok (.aload_n 0, 1) := by decide +kernel
theorem d_Law_law_237 : decode code 237 = .ok (.iload_n 3, 1) := by decide +kernel
theorem d_Law_law_238 : decode code 238 = .ok (.iconst 1, 1) := by decide +kernel
theorem d_Law_law_239 : decode code 239 = .ok (.iadd, 1) := by decide +kernel
theorem d_Law_law_240 : decode code 240 = .ok (.iaload, 1) := by decide +kernel
theorem d_Law_law_241 : decode code 241 = .ok (.invokevirtual 30, 3) := by decide +kernel
theorem d_Law_law_244 : decode code 244 = .ok (.aload_n 2, 1) := by decide +kernel
theorem d_Law_law_245 : decode code 245 = .ok (.aload_n 0, 1) := by decide +kernel
theorem d_Law_law_246 : decode code 246 = .ok (.iload_n 3, 1) := by decide +kernel
theorem d_Law_law_247 : decode code 247 = .ok (.iconst 1, 1) := by decide +kernel
theorem d_Law_law_248 : decode code 248 = .ok (.iadd, 1) := by decide +kernel
theorem d_Law_law_249 : decode code 249 = .ok (.iaload, 1) := by decide +kernel
theorem d_Law_law_250 : decode code 250 = .ok (.invokevirtual 34, 3) := by decide +kernel
theorem d_Law_law_253 : decode code 253 = .ok (.if_icmp .eq 205, 3) := by decide +kernel
theorem d_Law_law_256 : decode code 256 = .ok (.iconst 0, 1) := by decide +kernel
theorem d_Law_law_257 : decode code 257 = .ok (.ireturn, 1) := by decide +kernel
theorem d_Law_law_258 : decode code 258 = .ok (.aload_n 1, 1) := by decide +kernel
theorem d_Law_law_259 : decode code 259 = .ok (.invokevirtual 35, 3) := by decide +kernel
theorem d_Law_law_262 : decode code 262 = .ok (.aload_n 2, 1) := by decide +kernel
theorem d_Law_law_263 : decode code 263 = .ok (.invokevirtual 39, 3) := by decide +kernel
theorem d_Law_law_266 : decode code 266 = .ok (.if_icmp .eq 192, 3) := by decide +kernel
theorem d_Law_law_269 : decode code 269 = .ok (.iconst 0, 1) := by decide +kernel
theorem d_Law_law_270 : decode code 270 = .ok (.ireturn, 1) := by decide +kernel
theorem d_Law_law_271 : decode code 271 = .ok (.aload_n 1, 1) := by decide +kernel
theorem d_Law_law_272 : decode code 272 = .ok (.aload_n 0, 1) := by decide +kernel
theorem d_Law_law_273 : decode code 273 = .ok (.iload_n 3, 1) := by decide +kernel
theorem d_Law_law_274 : decode code 274 = .ok (.iconst 1, 1) := by decide +kernel
theorem d_Law_law_275 : decode code 275 = .ok (.iadd, 1) := by decide +kernel
theorem d_Law_law_276 : decode code 276 = .ok (.iaload, 1) := by decide +kernel
theorem d_Law_law_277 : decode code 277 = .ok (.invokevirtual 40, 3) := by decide +kernel
theorem d_Law_law_280 : decode code 280 = .ok (.aload_n 2, 1) := by decide +kernel
theorem d_Law_law_281 : decode code 281 = .ok (.aload_n 0, 1) := by decide +kernel
theorem d_Law_law_282 : decode code 282 = .ok (.iload_n 3, 1) := by decide +kernel
theorem d_Law_law_283 : decode code 283 = .ok (.iconst 1, 1) := by decide +kernel
theorem d_Law_law_284 : decode code 284 = .ok (.iadd, 1) := by decide +kernel
theorem d_Law_law_285 : decode code 285 = .ok (.iaload, 1) := by decide +kernel
theorem d_Law_law_286 : decode code 286 = .ok (.invokevirtual 43, 3) := by decide +kernel
theorem d_Law_law_289 : decode code 289 = .ok (.if_icmp .eq 169, 3) := by decide +kernel
theorem d_Law_law_292 : decode code 292 = .ok (.iconst 0, 1) := by decide +kernel
theorem d_Law_law_293 : decode code 293 = .ok (.ireturn, 1) := by decide +kernel
theorem d_Law_law_294 : decode code 294 = .ok (.aload_n 1, 1) := by decide +kernel
theorem d_Law_law_295 : decode code 295 = .ok (.aload_n 0, 1) := by decide +kernel
theorem d_Law_law_296 : decode code 296 = .ok (.iload_n 3, 1) := by decide +kernel
theorem d_Law_law_297 : decode code 297 = .ok (.iconst 1, 1) := by decide +kernel
theorem d_Law_law_298 : decode code 298 = .ok (.iadd, 1) := by decide +kernel
theorem d_Law_law_299 : decode code 299 = .ok (.iaload, 1) := by decide +kernel
theorem d_Law_law_300 : decode code 300 = .ok (.aload_n 0, 1) := by decide +kernel
theorem d_Law_law_301 : decode code 301 = .ok (.iload_n 3, 1) := by decide +kernel
theorem d_Law_law_302 : decode code 302 = .ok (.iconst 2, 1) := by decide +kernel
theorem d_Law_law_303 : decode code 303 = .ok (.iadd, 1) := by decide +kernel
theorem d_Law_law_304 : decode code 304 = .ok (.iaload, 1) := by decide +kernel
theorem d_Law_law_305 : decode code 305 = .ok (.invokevirtual 44, 3) := by decide +kernel
theorem d_Law_law_308 : decode code 308 = .ok (.aload_n 2, 1) := by decide +kernel
theorem d_Law_law_309 : decode code 309 = .ok (.aload_n 0, 1) := by decide +kernel
theorem d_Law_law_310 : decode code 310 = .ok (.iload_n 3, 1) := by decide +kernel
theorem d_Law_law_311 : decode code 311 = .ok (.iconst 1, 1) := by decide +kernel
theorem d_Law_law_312 : decode code 312 = .ok (.iadd, 1) := by decide +kernel
theorem d_Law_law_313 : decode code 313 = .ok (.iaload, 1) := by decide +kernel
theorem d_Law_law_314 : decode code 314 = .ok (.aload_n 0, 1) := by decide +kernel
theorem d_Law_law_315 : decode code 315 = .ok (.iload_n 3, 1) := by decide +kernel
theorem d_Law_law_316 : decode code 316 = .ok (.iconst 2, 1) := by decide +kernel
theorem d_Law_law_317 : decode code 317 = .ok (.iadd, 1) := by decide +kernel
theorem d_Law_law_318 : decode code 318 = .ok (.iaload, 1) := by decide +kernel
theorem d_Law_law_319 : decode code 319 = .ok (.invokevirtual 47, 3) := by decide +kernel
theorem d_Law_law_322 : decode code 322 = .ok (.if_icmp .eq 136, 3) := by decide +kernel
theorem d_Law_law_325 : decode code 325 = .ok (.iconst 0, 1) := by decide +kernel
theorem d_Law_law_326 : decode code 326 = .ok (.ireturn, 1) := by decide +kernel
theorem d_Law_law_327 : decode code 327 = .ok (.aload_n 1, 1) := by decide +kernel
theorem d_Law_law_328 : decode code 328 = .ok (.aload_n 0, 1) := by decide +kernel
theorem d_Law_law_329 : decode code 329 = .ok (.iload_n 3, 1) := by decide +kernel
theorem d_Law_law_330 : decode code 330 = .ok (.iconst 1, 1) := by decide +kernel
theorem d_Law_law_331 : decode code 331 = .ok (.iadd, 1) := by decide +kernel
theorem d_Law_law_332 : decode code 332 = .ok (.iaload, 1) := by decide +kernel
theorem d_Law_law_333 : decode code 333 = .ok (.aload_n 0, 1) := by decide +kernel
theorem d_Law_law_334 : decode code 334 = .ok (.iload_n 3, 1) := by decide +kernel
theorem d_Law_law_335 : decode code 335 = .ok (.iconst 2, 1) := by decide +kernel
theorem d_Law_law_336 : decode code 336 = .ok (.iadd, 1) := by decide +kernel
theorem d_Law_law_337 : decode code 337 = .ok (.iaload, 1) := by decide +kernel
theorem d_Law_law_338 : decode code 338 = .ok (.ifCond .eq 7, 3) := by decide +kernel
theorem d_Law_law_341 : decode code 341 = .ok (.iconst 1, 1) := by decide +kernel
theorem d_Law_law_342 : decode code 342 = .ok (.goto 4, 3) := by decide +kernel
theorem d_Law_law_345 : decode code 345 = .ok (.iconst 0, 1) := by decide +kernel
theorem d_Law_law_346 : decode code 346 = .ok (.invokevirtual 48, 3) := by decide +kernel
theorem d_Law_law_349 : decode code 349 = .ok (.aload_n 2, 1) := by decide +kernel
theorem d_Law_law_350 : decode code 350 = .ok (.aload_n 0, 1) := by decide +kernel
theorem d_Law_law_351 : decode code 351 = .ok (.iload_n 3, 1) := by decide +kernel
theorem d_Law_law_352 : decode code 352 = .ok (.iconst 1, 1) := by decide +kernel
theorem d_Law_law_353 : decode code 353 = .ok (.iadd, 1) := by decide +kernel
theorem d_Law_law_354 : decode code 354 = .ok (.iaload, 1) := by decide +kernel
theorem d_Law_law_355 : decode code 355 = .ok (.aload_n 0, 1) := by decide +kernel
theorem d_Law_law_356 : decode code 356 = .ok (.iload_n 3, 1) := by decide +kernel
theorem d_Law_law_357 : decode code 357 = .ok (.iconst 2, 1) := by decide +kernel
theorem d_Law_law_358 : decode code 358 = .ok (.iadd, 1) := by decide +kernel
theorem d_Law_law_359 : decode code 359 = .ok (.iaload, 1) := by decide +kernel
theorem d_Law_law_360 : decode code 360 = .ok (.ifCond .eq 7, 3) := by decide +kernel
theorem d_Law_law_363 : decode code 363 = .ok (.iconst 1, 1) := by decide +kernel
theorem d_Law_law_364 : decode code 364 = .ok (.goto 4, 3) := by decide +kernel
theorem d_Law_law_367 : decode code 367 = .ok (.iconst 0, 1) := by decide +kernel
theorem d_Law_law_368 : decode code 368 = .ok (.invokevirtual 52, 3) := by decide +kernel
theorem d_Law_law_371 : decode code 371 = .ok (.if_icmp .eq 87, 3) := by decide +kernel
theorem d_Law_law_374 : decode code 374 = .ok (.iconst 0, 1) := by decide +kernel
theorem d_Law_law_375 : decode code 375 = .ok (.ireturn, 1) := by decide +kernel
theorem d_Law_law_376 : decode code 376 = .ok (.aload_n 1, 1) := by decide +kernel
theorem d_Law_law_377 : decode code 377 = .ok (.invokevirtual 53, 3) := by decide +kernel
theorem d_Law_law_380 : decode code 380 = .ok (.aload_n 2, 1) := by decide +kernel
theorem d_Law_law_381 : decode code 381 = .ok (.invokevirtual 56, 3) := by decide +kernel
theorem d_Law_law_384 : decode code 384 = .ok (.if_icmp .eq 74, 3) := by decide +kernel
theorem d_Law_law_387 : decode code 387 = .ok (.iconst 0, 1) := by decide +kernel
theorem d_Law_law_388 : decode code 388 = .ok (.ireturn, 1) := by decide +kernel
theorem d_Law_law_389 : decode code 389 = .ok (.aload_n 1, 1) := by decide +kernel
theorem d_Law_law_390 : decode code 390 = .ok (.invokevirtual 57, 3) := by decide +kernel
theorem d_Law_law_393 : decode code 393 = .ok (.aload_n 2, 1) := by decide +kernel
theorem d_Law_law_394 : decode code 394 = .ok (.invokevirtual 60, 3) := by decide +kernel
theorem d_Law_law_397 : decode code 397 = .ok (.if_icmp .eq 61, 3) := by decide +kernel
theorem d_Law_law_400 : decode code 400 = .ok (.iconst 0, 1) := by decide +kernel
theorem d_Law_law_401 : decode code 401 = .ok (.ireturn, 1) := by decide +kernel
theorem d_Law_law_402 : decode code 402 = .ok (.aload_n 1, 1) := by decide +kernel
theorem d_Law_law_403 : decode code 403 = .ok (.aload_n 0, 1) := by decide +kernel
theorem d_Law_law_404 : decode code 404 = .ok (.iload_n 3, 1) := by decide +kernel
theorem d_Law_law_405 : decode code 405 = .ok (.iconst 1, 1) := by decide +kernel
theorem d_Law_law_406 : decode code 406 = .ok (.iadd, 1) := by decide +kernel
theorem d_Law_law_407 : decode code 407 = .ok (.iaload, 1) := by decide +kernel
theorem d_Law_law_408 : decode code 408 = .ok (.invokevirtual 61, 3) := by decide +kernel
theorem d_Law_law_411 : decode code 411 = .ok (.aload_n 2, 1) := by decide +kernel
theorem d_Law_law_412 : decode code 412 = .ok (.aload_n 0, 1) := by decide +kernel
theorem d_Law_law_413 : decode code 413 = .ok (.iload_n 3, 1) := by decide +kernel
theorem d_Law_law_414 : decode code 414 = .ok (.iconst 1, 1) := by decide +kernel
theorem d_Law_law_415 : decode code 415 = .ok (.iadd, 1) := by decide +kernel
theorem d_Law_law_416 : decode code 416 = .ok (.iaload, 1) := by decide +kernel
theorem d_Law_law_417 : decode code 417 = .ok (.invokevirtual 64, 3) := by decide +kernel
theorem d_Law_law_420 : decode code 420 = .ok (.if_icmp .eq 38, 3) := by decide +kernel
theorem d_Law_law_423 : decode code 423 = .ok (.iconst 0, 1) := by decide +kernel
theorem d_Law_law_424 : decode code 424 = .ok (.ireturn, 1) := by decide +kernel
theorem d_Law_law_425 : decode code 425 = .ok (.aload_n 1, 1) := by decide +kernel
theorem d_Law_law_426 : decode code 426 = .ok (.aload_n 0, 1) := by decide +kernel
theorem d_Law_law_427 : decode code 427 = .ok (.iload_n 3, 1) := by decide +kernel
theorem d_Law_law_428 : decode code 428 = .ok (.iconst 1, 1) := by decide +kernel
theorem d_Law_law_429 : decode code 429 = .ok (.iadd, 1) := by decide +kernel
theorem d_Law_law_430 : decode code 430 = .ok (.iaload, 1) := by decide +kernel
theorem d_Law_law_431 : decode code 431 = .ok (.aload_n 0, 1) := by decide +kernel
theorem d_Law_law_432 : decode code 432 = .ok (.iload_n 3, 1) := by decide +kernel
theorem d_Law_law_433 : decode code 433 = .ok (.iconst 2, 1) := by decide +kernel
theorem d_Law_law_434 : decode code 434 = .ok (.iadd, 1) := by decide +kernel
theorem d_Law_law_435 : decode code 435 = .ok (.iaload, 1) := by decide +kernel
theorem d_Law_law_436 : decode code 436 = .ok (.invokevirtual 65, 3) := by decide +kernel
theorem d_Law_law_439 : decode code 439 = .ok (.aload_n 2, 1) := by decide +kernel
theorem d_Law_law_440 : decode code 440 = .ok (.aload_n 0, 1) := by decide +kernel
theorem d_Law_law_441 : decode code 441 = .ok (.iload_n 3, 1) := by decide +kernel
theorem d_Law_law_442 : decode code 442 = .ok (.iconst 1, 1) := by decide +kernel
theorem d_Law_law_443 : decode code 443 = .ok (.iadd, 1) := by decide +kernel
theorem d_Law_law_444 : decode code 444 = .ok (.iaload, 1) := by decide +kernel
theorem d_Law_law_445 : decode code 445 = .ok (.aload_n 0, 1) := by decide +kernel
theorem d_Law_law_446 : decode code 446 = .ok (.iload_n 3, 1) := by decide +kernel
theorem d_Law_law_447 : decode code 447 = .ok (.iconst 2, 1) := by decide +kernel
theorem d_Law_law_448 : decode code 448 = .ok (.iadd, 1) := by decide +kernel
theorem d_Law_law_449 : decode code 449 = .ok (.iaload, 1) := by decide +kernel
theorem d_Law_law_450 : decode code 450 = .ok (.invokevirtual 68, 3) := by decide +kernel
theorem d_Law_law_453 : decode code 453 = .ok (.if_icmp .eq 5, 3) := by decide +kernel
theorem d_Law_law_456 : decode code 456 = .ok (.iconst 0, 1) := by decide +kernel
theorem d_Law_law_457 : decode code 457 = .ok (.ireturn, 1) := by decide +kernel
theorem d_Law_law_458 : decode code 458 = .ok (.iinc 3 4, 3) := by decide +kernel
theorem d_Law_law_461 : decode code 461 = .ok (.goto (-443), 3) := by decide +kernel
theorem d_Law_law_464 : decode code 464 = .ok (.iconst 1, 1) := by decide +kernel
theorem d_Law_law_465 : decode code 465 = .ok (.ireturn, 1) := by decide +kernel
