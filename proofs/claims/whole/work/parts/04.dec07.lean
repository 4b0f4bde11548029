theorem d_Mo_findLengths_5 : decode b_Mo_findLengths 5 = .ok (.iload_n 3, 1) := by decide +kernel
theorem d_Mo_findLengths_6 : decode b_Mo_findLengths 6 = .ok (.if_icmp .ge 17, 3) := by decide +kernel
theorem d_Mo_findLengths_9 : decode b_Mo_findLengths 9 = .ok (.aload 5, 2) := by decide +kernel
theorem d_Mo_findLengths_11 : decode b_Mo_findLengths 11 = .ok (.iload_n 2, 1) := by decide +kernel
theorem d_Mo_findLengths_12 : decode b_Mo_findLengths 12 = .ok (.iload 6, 2) := by decide +kernel
theorem d_Mo_findLengths_14 : decode b_Mo_findLengths 14 = .ok (.iadd, 1) := by decide +kernel
theorem d_Mo_findLengths_15 : decode b_Mo_findLengths 15 = .ok (.iconst 0, 1) := by decide +kernel
theorem d_Mo_findLengths_16 : decode b_Mo_findLengths 16 = .ok (.iastore, 1) := by decide +kernel
theorem d_Mo_findLengths_17 : decode b_Mo_findLengths 17 = .ok (.iinc 6 1, 3) := by decide +kernel
theorem d_Mo_findLengths_20 : decode b_Mo_findLengths 20 = .ok (.goto (-17), 3) := by decide +kernel
theorem d_Mo_findLengths_23 : decode b_Mo_findLengths 23 = .ok (.aload_n 0, 1) := by decide +kernel
theorem d_Mo_findLengths_24 : decode b_Mo_findLengths 24 = .ok (.aload_n 1, 1) := by decide +kernel
theorem d_Mo_findLengths_25 : decode b_Mo_findLengths 25 = .ok (.iload_n 2, 1) := by decide +kernel
theorem d_Mo_findLengths_26 : decode b_Mo_findLengths 26 = .ok (.iload_n 3, 1) := by decide +kernel
theorem d_Mo_findLengths_27 : decode b_Mo_findLengths 27 = .ok (.invokevirtual 177, 3) := by decide +kernel
theorem d_Mo_findLengths_30 : decode b_Mo_findLengths 30 = .ok (.istore 6, 2) := by decide +kernel
theorem d_Mo_findLengths_32 : decode b_Mo_findLengths 32 = .ok (.iload 6, 2) := by decide +kernel
theorem d_Mo_findLengths_34 : decode b_Mo_findLengths 34 = .ok (.iconst 1, 1) := by decide +kernel
theorem d_Mo_findLengths_35 : decode b_Mo_findLengths 35 = .ok (.if_icmp .ne 15, 3) := by decide +kernel
theorem d_Mo_findLengths_38 : decode b_Mo_findLengths 38 = .ok (.aload 5, 2) := by decide +kernel
theorem d_Mo_findLengths_40 : decode b_Mo_findLengths 40 = .ok (.iload_n 2, 1) := by decide +kernel
theorem d_Mo_findLengths_41 : decode b_Mo_findLengths 41 = .ok (.aload_n 0, 1) := by decide +kernel
theorem d_Mo_findLengths_42 : decode b_Mo_findLengths 42 = .ok (.getfield 46, 3) := by decide +kernel
theorem d_Mo_findLengths_45 : decode b_Mo_findLengths 45 = .ok (.iconst 0, 1) := by decide +kernel
theorem d_Mo_findLengths_46 : decode b_Mo_findLengths 46 = .ok (.iaload, 1) := by decide +kernel
theorem d_Mo_findLengths_47 : decode b_Mo_findLengths 47 = .ok (.iadd, 1) := by decide +kernel
theorem d_Mo_findLengths_48 : decode b_Mo_findLengths 48 = .ok (.iconst 1, 1) := by decide +kernel
theorem d_Mo_findLengths_49 : decode b_Mo_findLengths 49 = .ok (.iastore, 1) := by decide +kernel
theorem d_Mo_findLengths_50 : decode b_Mo_findLengths 50 = .ok (.iload 6, 2) := by decide +kernel
theorem d_Mo_findLengths_52 : decode b_Mo_findLengths 52 = .ok (.iconst 2, 1) := by decide +kernel
theorem d_Mo_findLengths_53 : decode b_Mo_findLengths 53 = .ok (.if_icmp .ge 4, 3) := by decide +kernel
theorem d_Mo_findLengths_56 : decode b_Mo_findLengths 56 = .ok (.return_, 1) := by decide +kernel
theorem d_Mo_findLengths_57 : decode b_Mo_findLengths 57 = .ok (.iconst 0, 1) := by decide +kernel
theorem d_Mo_findLengths_58 : decode b_Mo_findLengths 58 = .ok (.istore 7, 2) := by decide +kernel
theorem d_Mo_findLengths_60 : decode b_Mo_findLengths 60 = .ok (.iload 7, 2) := by decide +kernel
theorem d_Mo_findLengths_62 : decode b_Mo_findLengths 62 = .ok (.iload 4, 2) := by decide +kernel
theorem d_Mo_findLengths_64 : decode b_Mo_findLengths 64 = .ok (.if_icmp .ge 19, 3) := by decide +kernel
theorem d_Mo_findLengths_67 : decode b_Mo_findLengths 67 = .ok (.aload_n 0, 1) := by decide +kernel
theorem d_Mo_findLengths_68 : decode b_Mo_findLengths 68 = .ok (.aload_n 1, 1) := by decide +kernel
theorem d_Mo_findLengths_69 : decode b_Mo_findLengths 69 = .ok (.iload_n 2, 1) := by decide +kernel
theorem d_Mo_findLengths_70 : decode b_Mo_findLengths 70 = .ok (.iload 6, 2) := by decide +kernel
theorem d_Mo_findLengths_72 : decode b_Mo_findLengths 72 = .ok (.iload 7, 2) := by decide +kernel
theorem d_Mo_findLengths_74 : decode b_Mo_findLengths 74 = .ok (.invokevirtual 180, 3) := by decide +kernel
theorem d_Mo_findLengths_77 : decode b_Mo_findLengths 77 = .ok (.iinc 7 1, 3) := by decide +kernel
theorem d_Mo_findLengths_80 : decode b_Mo_findLengths 80 = .ok (.goto (-20), 3) := by decide +kernel
theorem d_Mo_findLengths_83 : decode b_Mo_findLengths 83 = .ok (.iconst 2, 1) := by decide +kernel
theorem d_Mo_findLengths_84 : decode b_Mo_findLengths 84 = .ok (.iload 6, 2) := by decide +kernel
theorem d_Mo_findLengths_86 : decode b_Mo_findLengths 86 = .ok (.imul, 1) := by decide +kernel
theorem d_Mo_findLengths_87 : decode b_Mo_findLengths 87 = .ok (.iconst 2, 1) := by decide +kernel
theorem d_Mo_findLengths_88 : decode b_Mo_findLengths 88 = .ok (.isub, 1) := by decide +kernel
theorem d_Mo_findLengths_89 : decode b_Mo_findLengths 89 = .ok (.istore 7, 2) := by decide +kernel
theorem d_Mo_findLengths_91 : decode b_Mo_findLengths 91 = .ok (.iload 4, 2) := by decide +kernel
theorem d_Mo_findLengths_93 : decode b_Mo_findLengths 93 = .ok (.iconst 1, 1) := by decide +kernel
theorem d_Mo_findLengths_94 : decode b_Mo_findLengths 94 = .ok (.isub, 1) := by decide +kernel
theorem d_Mo_findLengths_95 : decode b_Mo_findLengths 95 = .ok (.istore 8, 2) := by decide +kernel
theorem d_Mo_findLengths_97 : decode b_Mo_findLengths 97 = .ok (.iload 8, 2) := by decide +kernel
theorem d_Mo_findLengths_99 : decode b_Mo_findLengths 99 = .ok (.ifCond .lt 97, 3) := by decide +kernel
theorem d_Mo_findLengths_102 : decode b_Mo_findLengths 102 = .ok (.iconst 0, 1) := by decide +kernel
theorem d_Mo_findLengths_103 : decode b_Mo_findLengths 103 = .ok (.istore 9, 2) := by decide +kernel
theorem d_Mo_findLengths_105 : decode b_Mo_findLengths 105 = .ok (.iconst 0, 1) := by decide +kernel
theorem d_Mo_findLengths_106 : decode b_Mo_findLengths 106 = .ok (.istore 10, 2) := by decide +kernel
theorem d_Mo_findLengths_108 : decode b_Mo_findLengths 108 = .ok (.iload 10, 2) := by decide +kernel
theorem d_Mo_findLengths_110 : decode b_Mo_findLengths 110 = .ok (.iload 7, 2) := by decide +kernel
theorem d_Mo_findLengths_112 : decode b_Mo_findLengths 112 = .ok (.if_icmp .ge 37, 3) := by decide +kernel
theorem d_Mo_findLengths_115 : decode b_Mo_findLengths 115 = .ok (.aload_n 0, 1) := by decide +kernel
theorem d_Mo_findLengths_116 : decode b_Mo_findLengths 116 = .ok (.getfield 55, 3) := by decide +kernel
theorem d_Mo_findLengths_119 : decode b_Mo_findLengths 119 = .ok (.sipush 600, 3) := by decide +kernel
theorem d_Mo_findLengths_122 : decode b_Mo_findLengths 122 = .ok (.iload 8, 2) := by decide +kernel
theorem d_Mo_findLengths_124 : decode b_Mo_findLengths 124 = .ok (.imul, 1) := by decide +kernel
theorem d_Mo_findLengths_125 : decode b_Mo_findLengths 125 = .ok (.iload 10, 2) := by decide +kernel
theorem d_Mo_findLengths_127 : decode b_Mo_findLengths 127 = .ok (.iadd, 1) := by decide +kernel
theorem d_Mo_findLengths_128 : decode b_Mo_findLengths 128 = .ok (.baload, 1) := by decide +kernel
theorem d_Mo_findLengths_129 : decode b_Mo_findLengths 129 = .ok (.ifCond .eq 10, 3) := by decide +kernel
theorem d_Mo_findLengths_132 : decode b_Mo_findLengths 132 = .ok (.iload 9, 2) := by decide +kernel
theorem d_Mo_findLengths_134 : decode b_Mo_findLengths 134 = .ok (.iconst 1, 1) := by decide +kernel
theorem d_Mo_findLengths_135 : decode b_Mo_findLengths 135 = .ok (.iadd, 1) := by decide +kernel
theorem d_Mo_findLengths_136 : decode b_Mo_findLengths 136 = .ok (.goto 5, 3) := by decide +kernel
theorem d_Mo_findLengths_139 : decode b_Mo_findLengths 139 = .ok (.iload 9, 2) := by decide +kernel
theorem d_Mo_findLengths_141 : decode b_Mo_findLengths 141 = .ok (.istore 9, 2) := by decide +kernel
theorem d_Mo_findLengths_143 : decode b_Mo_findLengths 143 = .ok (.iinc 10 1, 3) := by decide +kernel
theorem d_Mo_findLengths_146 : decode b_Mo_findLengths 146 = .ok (.goto (-38), 3) := by decide +kernel
theorem d_Mo_findLengths_149 : decode b_Mo_findLengths 149 = .ok (.iconst 0, 1) := by decide +kernel
theorem d_Mo_findLengths_150 : decode b_Mo_findLengths 150 = .ok (.istore 10, 2) := by decide +kernel
theorem d_Mo_findLengths_152 : decode b_Mo_findLengths 152 = .ok (.iload 10, 2) := by decide +kernel
theorem d_Mo_findLengths_154 : decode b_Mo_findLengths 154 = .ok (.iload 9, 2) := by decide +kernel
theorem d_Mo_findLengths_156 : decode b_Mo_findLengths 156 = .ok (.if_icmp .ge 25, 3) := by decide +kernel
theorem d_Mo_findLengths_159 : decode b_Mo_findLengths 159 = .ok (.aload 5, 2) := by decide +kernel
theorem d_Mo_findLengths_161 : decode b_Mo_findLengths 161 = .ok (.iload_n 2, 1) := by decide +kernel
theorem d_Mo_findLengths_162 : decode b_Mo_findLengths 162 = .ok (.aload_n 0, 1) := by decide +kernel
theorem d_Mo_findLengths_163 : decode b_Mo_findLengths 163 = .ok (.getfield 46, 3) := by decide +kernel
theorem d_Mo_findLengths_166 : decode b_Mo_findLengths 166 = .ok (.iload 10, 2) := by decide +kernel
theorem d_Mo_findLengths_168 : decode b_Mo_findLengths 168 = .ok (.iaload, 1) := by decide +kernel
theorem d_Mo_findLengths_169 : decode b_Mo_findLengths 169 = .ok (.iadd, 1) := by decide +kernel
theorem d_Mo_findLengths_170 : decode b_Mo_findLengths 170 = .ok (.dup2, 1) := by decide +kernel
theorem d_Mo_findLengths_171 : decode b_Mo_findLengths 171 = .ok (.iaload, 1) := by decide +kernel
theorem d_Mo_findLengths_172 : decode b_Mo_findLengths 172 = .ok (.iconst 1, 1) := by decide +kernel
theorem d_Mo_findLengths_173 : decode b_Mo_findLengths 173 = .ok (.iadd, 1) := by decide +kernel
theorem d_Mo_findLengths_174 : decode b_Mo_findLengths 174 = .ok (.iastore, 1) := by decide +kernel
theorem d_Mo_findLengths_175 : decode b_Mo_findLengths 175 = .ok (.iinc 10 1, 3) := by decide +kernel
theorem d_Mo_findLengths_178 : decode b_Mo_findLengths 178 = .ok (.goto (-26), 3) := by decide +kernel
theorem d_Mo_findLengths_181 : decode b_Mo_findLengths 181 = .ok (.iconst 2, 1) := by decide +kernel
theorem d_Mo_findLengths_182 : decode b_Mo_findLengths 182 = .ok (.iload 7, 2) := by decide +kernel
theorem d_Mo_findLengths_184 : decode b_Mo_findLengths 184 = .ok (.iload 9, 2) := by decide +kernel
theorem d_Mo_findLengths_186 : decode b_Mo_findLengths 186 = .ok (.isub, 1) := by decide +kernel
theorem d_Mo_findLengths_187 : decode b_Mo_findLengths 187 = .ok (.imul, 1) := by decide +kernel
theorem d_Mo_findLengths_188 : decode b_Mo_findLengths 188 = .ok (.istore 7, 2) := by decide +kernel
theorem d_Mo_findLengths_190 : decode b_Mo_findLengths 190 = .ok (.iinc 8 (-1), 3) := by decide +kernel
theorem d_Mo_findLengths_193 : decode b_Mo_findLengths 193 = .ok (.goto (-96), 3) := by decide +kernel
theorem d_Mo_findLengths_196 : decode b_Mo_findLengths 196 = .ok (.return_, 1) := by decide +kernel
theorem d_Mo_tell_0 : decode b_Mo_tell 0 = .ok (.aload_n 0, 1) := by decide +kernel
theorem d_Mo_tell_1 : decode b_Mo_tell 1 = .ok (.getfield 40, 3) := by decide +kernel
theorem d_Mo_tell_4 : decode b_Mo_tell 4 = .ok (.aload_n 0, 1) := by decide +kernel
theorem d_Mo_tell_5 : decode b_Mo_tell 5 = .ok (.getfield 184, 3) := by decide +kernel
theorem d_Mo_tell_8 : decode b_Mo_tell 8 = .ok (.iload_n 1, 1) := by decide +kernel
theorem d_Mo_tell_9 : decode b_Mo_tell 9 = .ok (.iastore, 1) := by decide +kernel
theorem d_Mo_tell_10 : decode b_Mo_tell 10 = .ok (.aload_n 0, 1) := by decide +kernel
theorem d_Mo_tell_11 : decode b_Mo_tell 11 = .ok (.getfield 43, 3) := by decide +kernel
theorem d_Mo_tell_14 : decode b_Mo_tell 14 = .ok (.aload_n 0, 1) := by decide +kernel
theorem d_Mo_tell_15 : decode b_Mo_tell 15 = .ok (.getfield 184, 3) := by decide +kernel
theorem d_Mo_tell_18 : decode b_Mo_tell 18 = .ok (.iload_n 2, 1) := by decide +kernel
theorem d_Mo_tell_19 : decode b_Mo_tell 19 = .ok (.iastore, 1) := by decide +kernel
theorem d_Mo_tell_20 : decode b_Mo_tell 20 = .ok (.aload_n 0, 1) := by decide +kernel
theorem d_Mo_tell_21 : decode b_Mo_tell 21 = .ok (.dup, 1) := by decide +kernel
theorem d_Mo_tell_22 : decode b_Mo_tell 22 = .ok (.getfield 184, 3) := by decide +kernel
theorem d_Mo_tell_25 : decode b_Mo_tell 25 = .ok (.iconst 1, 1) := by decide +kernel
theorem d_Mo_tell_26 : decode b_Mo_tell 26 = .ok (.iadd, 1) := by decide +kernel
theorem d_Mo_tell_27 : decode b_Mo_tell 27 = .ok (.putfield 184, 3) := by decide +kernel
theorem d_Mo_tell_30 : decode b_Mo_tell 30 = .ok (.aload_n 0, 1) := by decide +kernel
theorem d_Mo_tell_31 : decode b_Mo_tell 31 = .ok (.getfield 37, 3) := by decide +kernel
theorem d_Mo_tell_34 : decode b_Mo_tell 34 = .ok (.iload_n 1, 1) := by decide +kernel
theorem d_Mo_tell_35 : decode b_Mo_tell 35 = .ok (.dup2, 1) := by decide +kernel
theorem d_Mo_tell_36 : decode b_Mo_tell 36 = .ok (.iaload, 1) := by decide +kernel
theorem d_Mo_tell_37 : decode b_Mo_tell 37 = .ok (.iconst 1, 1) := by decide +kernel
theorem d_Mo_tell_38 : decode b_Mo_tell 38 = .ok (.iadd, 1) := by decide +kernel
theorem d_Mo_tell_39 : decode b_Mo_tell 39 = .ok (.iastore, 1) := by decide +kernel
theorem d_Mo_tell_40 : decode b_Mo_tell 40 = .ok (.return_, 1) := by decide +kernel
theorem d_Mo_tellRow_0 : decode b_Mo_tellRow 0 = .ok (.aload_n 0, 1) := by decide +kernel
theorem d_Mo_tellRow_1 : decode b_Mo_tellRow 1 = .ok (.iconst 0, 1) := by decide +kernel
theorem d_Mo_tellRow_2 : decode b_Mo_tellRow 2 = .ok (.putfield 184, 3) := by decide +kernel
theorem d_Mo_tellRow_5 : decode b_Mo_tellRow 5 = .ok (.iconst 0, 1) := by decide +kernel
theorem d_Mo_tellRow_6 : decode b_Mo_tellRow 6 = .ok (.istore_n 2, 1) := by decide +kernel
theorem d_Mo_tellRow_7 : decode b_Mo_tellRow 7 = .ok (.iload_n 2, 1) := by decide +kernel
theorem d_Mo_tellRow_8 : decode b_Mo_tellRow 8 = .ok (.bipush 19, 2) := by decide +kernel
theorem d_Mo_tellRow_10 : decode b_Mo_tellRow 10 = .ok (.if_icmp .ge 16, 3) := by decide +kernel
theorem d_Mo_tellRow_13 : decode b_Mo_tellRow 13 = .ok (.aload_n 0, 1) := by decide +kernel
theorem d_Mo_tellRow_14 : decode b_Mo_tellRow 14 = .ok (.getfield 37, 3) := by decide +kernel
theorem d_Mo_tellRow_17 : decode b_Mo_tellRow 17 = .ok (.iload_n 2, 1) := by decide +kernel
theorem d_Mo_tellRow_18 : decode b_Mo_tellRow 18 = .ok (.iconst 0, 1) := by decide +kernel
theorem d_Mo_tellRow_19 : decode b_Mo_tellRow 19 = .ok (.iastore, 1) := by decide +kernel
theorem d_Mo_tellRow_20 : decode b_Mo_tellRow 20 = .ok (.iinc 2 1, 3) := by decide +kernel
theorem d_Mo_tellRow_23 : decode b_Mo_tellRow 23 = .ok (.goto (-16), 3) := by decide +kernel
theorem d_Mo_tellRow_26 : decode b_Mo_tellRow 26 = .ok (.iconst 0, 1) := by decide +kernel
theorem d_Mo_tellRow_27 : decode b_Mo_tellRow 27 = .ok (.istore_n 2, 1) := by decide +kernel
theorem d_Mo_tellRow_28 : decode b_Mo_tellRow 28 = .ok (.iload_n 2, 1) := by decide +kernel
theorem d_Mo_tellRow_29 : decode b_Mo_tellRow 29 = .ok (.iload_n 1, 1) := by decide +kernel
theorem d_Mo_tellRow_30 : decode b_Mo_tellRow 30 = .ok (.if_icmp .ge 188, 3) := by decide +kernel
theorem d_Mo_tellRow_33 : decode b_Mo_tellRow 33 = .ok (.aload_n 0, 1) := by decide +kernel
theorem d_Mo_tellRow_34 : decode b_Mo_tellRow 34 = .ok (.getfield 25, 3) := by decide +kernel
theorem d_Mo_tellRow_37 : decode b_Mo_tellRow 37 = .ok (.iload_n 2, 1) := by decide +kernel
theorem d_Mo_tellRow_38 : decode b_Mo_tellRow 38 = .ok (.iaload, 1) := by decide +kernel
theorem d_Mo_tellRow_39 : decode b_Mo_tellRow 39 = .ok (.istore_n 3, 1) := by decide +kernel
theorem d_Mo_tellRow_40 : decode b_Mo_tellRow 40 = .ok (.iconst 0, 1) := by decide +kernel
theorem d_Mo_tellRow_41 : decode b_Mo_tellRow 41 = .ok (.istore 4, 2) := by decide +kernel
theorem d_Mo_tellRow_43 : decode b_Mo_tellRow 43 = .ok (.iload_n 2, 1) := by decide +kernel
theorem d_Mo_tellRow_44 : decode b_Mo_tellRow 44 = .ok (.iload 4, 2) := by decide +kernel
theorem d_Mo_tellRow_46 : decode b_Mo_tellRow 46 = .ok (.iadd, 1) := by decide +kernel
theorem d_Mo_tellRow_47 : decode b_Mo_tellRow 47 = .ok (.iload_n 1, 1) := by decide +kernel
theorem d_Mo_tellRow_48 : decode b_Mo_tellRow 48 = .ok (.if_icmp .ge 22, 3) := by decide +kernel
theorem d_Mo_tellRow_51 : decode b_Mo_tellRow 51 = .ok (.aload_n 0, 1) := by decide +kernel
theorem d_Mo_tellRow_52 : decode b_Mo_tellRow 52 = .ok (.getfield 25, 3) := by decide +kernel
theorem d_Mo_tellRow_55 : decode b_Mo_tellRow 55 = .ok (.iload_n 2, 1) := by decide +kernel
theorem d_Mo_tellRow_56 : decode b_Mo_tellRow 56 = .ok (.iload 4, 2) := by decide +kernel
theorem d_Mo_tellRow_58 : decode b_Mo_tellRow 58 = .ok (.iadd, 1) := by decide +kernel
theorem d_Mo_tellRow_59 : decode b_Mo_tellRow 59 = .ok (.iaload, 1) := by decide +kernel
theorem d_Mo_tellRow_60 : decode b_Mo_tellRow 60 = .ok (.iload_n 3, 1) := by decide +kernel
theorem d_Mo_tellRow_61 : decode b_Mo_tellRow 61 = .ok (.if_icmp .ne 9, 3) := by decide +kernel
theorem d_Mo_tellRow_64 : decode b_Mo_tellRow 64 = .ok (.iinc 4 1, 3) := by decide +kernel
theorem d_Mo_tellRow_67 : decode b_Mo_tellRow 67 = .ok (.goto (-24), 3) := by decide +kernel
theorem d_Mo_tellRow_70 : decode b_Mo_tellRow 70 = .ok (.iload_n 2, 1) := by decide +kernel
theorem d_Mo_tellRow_71 : decode b_Mo_tellRow 71 = .ok (.iload 4, 2) := by decide +kernel
theorem d_Mo_tellRow_73 : decode b_Mo_tellRow 73 = .ok (.iadd, 1) := by decide +kernel
theorem d_Mo_tellRow_74 : decode b_Mo_tellRow 74 = .ok (.istore_n 2, 1) := by decide +kernel
theorem d_Mo_tellRow_75 : decode b_Mo_tellRow 75 = .ok (.iload_n 3, 1) := by decide +kernel
theorem d_Mo_tellRow_76 : decode b_Mo_tellRow 76 = .ok (.ifCond .ne 71, 3) := by decide +kernel
theorem d_Mo_tellRow_79 : decode b_Mo_tellRow 79 = .ok (.iload 4, 2) := by decide +kernel
theorem d_Mo_tellRow_81 : decode b_Mo_tellRow 81 = .ok (.bipush 11, 2) := by decide +kernel
theorem d_Mo_tellRow_83 : decode b_Mo_tellRow 83 = .ok (.if_icmp .lt 42, 3) := by decide +kernel
theorem d_Mo_tellRow_86 : decode b_Mo_tellRow 86 = .ok (.iload 4, 2) := by decide +kernel
theorem d_Mo_tellRow_88 : decode b_Mo_tellRow 88 = .ok (.sipush 138, 3) := by decide +kernel
theorem d_Mo_tellRow_91 : decode b_Mo_tellRow 91 = .ok (.if_icmp .ge 8, 3) := by decide +kernel
theorem d_Mo_tellRow_94 : decode b_Mo_tellRow 94 = .ok (.iload 4, 2) := by decide +kernel
theorem d_Mo_tellRow_96 : decode b_Mo_tellRow 96 = .ok (.goto 6, 3) := by decide +kernel
theorem d_Mo_tellRow_99 : decode b_Mo_tellRow 99 = .ok (.sipush 138, 3) := by decide +kernel
theorem d_Mo_tellRow_102 : decode b_Mo_tellRow 102 = .ok (.istore 5, 2) := by decide +kernel
theorem d_Mo_tellRow_104 : decode b_Mo_tellRow 104 = .ok (.aload_n 0, 1) := by decide +kernel
theorem d_Mo_tellRow_105 : decode b_Mo_tellRow 105 = .ok (.bipush 18, 2) := by decide +kernel
theorem d_Mo_tellRow_107 : decode b_Mo_tellRow 107 = .ok (.iload 5, 2) := by decide +kernel
theorem d_Mo_tellRow_109 : decode b_Mo_tellRow 109 = .ok (.bipush 11, 2) := by decide +kernel
theorem d_Mo_tellRow_111 : decode b_Mo_tellRow 111 = .ok (.isub, 1) := by decide +kernel
theorem d_Mo_tellRow_112 : decode b_Mo_tellRow 112 = .ok (.invokevirtual 187, 3) := by decide +kernel
theorem d_Mo_tellRow_115 : decode b_Mo_tellRow 115 = .ok (.iload 4, 2) := by decide +kernel
theorem d_Mo_tellRow_117 : decode b_Mo_tellRow 117 = .ok (.iload 5, 2) := by decide +kernel
theorem d_Mo_tellRow_119 : decode b_Mo_tellRow 119 = .ok (.isub, 1) := by decide +kernel
theorem d_Mo_tellRow_120 : decode b_Mo_tellRow 120 = .ok (.istore 4, 2) := by decide +kernel
theorem d_Mo_tellRow_122 : decode b_Mo_tellRow 122 = .ok (.goto (-43), 3) := by decide +kernel
theorem d_Mo_tellRow_125 : decode b_Mo_tellRow 125 = .ok (.iload 4, 2) := by decide +kernel
theorem d_Mo_tellRow_127 : decode b_Mo_tellRow 127 = .ok (.iconst 3, 1) := by decide +kernel
theorem d_Mo_tellRow_128 : decode b_Mo_tellRow 128 = .ok (.if_icmp .lt 70, 3) := by decide +kernel
theorem d_Mo_tellRow_131 : decode b_Mo_tellRow 131 = .ok (.aload_n 0, 1) := by decide +kernel
theorem d_Mo_tellRow_132 : decode b_Mo_tellRow 132 = .ok (.bipush 17, 2) := by decide +kernel
theorem d_Mo_tellRow_134 : decode b_Mo_tellRow 134 = .ok (.iload 4, 2) := by decide +kernel
theorem d_Mo_tellRow_136 : decode b_Mo_tellRow 136 = .ok (.iconst 3, 1) := by decide +kernel
theorem d_Mo_tellRow_137 : decode b_Mo_tellRow 137 = .ok (.isub, 1) := by decide +kernel
theorem d_Mo_tellRow_138 : decode b_Mo_tellRow 138 = .ok (.invokevirtual 187, 3) := by decide +kernel
theorem d_Mo_tellRow_141 : decode b_Mo_tellRow 141 = .ok (.iconst 0, 1) := by decide +kernel
theorem d_Mo_tellRow_142 : decode b_Mo_tellRow 142 = .ok (.istore 4, 2) := by decide +kernel
theorem d_Mo_tellRow_144 : decode b_Mo_tellRow 144 = .ok (.goto 54, 3) := by decide +kernel
theorem d_Mo_tellRow_147 : decode b_Mo_tellRow 147 = .ok (.aload_n 0, 1) := by decide +kernel
theorem d_Mo_tellRow_148 : decode b_Mo_tellRow 148 = .ok (.iload_n 3, 1) := by decide +kernel
theorem d_Mo_tellRow_149 : decode b_Mo_tellRow 149 = .ok (.iconst 0, 1) := by decide +kernel
theorem d_Mo_tellRow_150 : decode b_Mo_tellRow 150 = .ok (.invokevirtual 187, 3) := by decide +kernel
theorem d_Mo_tellRow_153 : decode b_Mo_tellRow 153 = .ok (.iinc 4 (-1), 3) := by decide +kernel
theorem d_Mo_tellRow_156 : decode b_Mo_tellRow 156 = .ok (.iload 4, 2) := by decide +kernel
theorem d_Mo_tellRow_158 : decode b_Mo_tellRow 158 = .ok (.iconst 3, 1) := by decide +kernel
theorem d_Mo_tellRow_159 : decode b_Mo_tellRow 159 = .ok (.if_icmp .lt 39, 3) := by decide +kernel
theorem d_Mo_tellRow_162 : decode b_Mo_tellRow 162 = .ok (.iload 4, 2) := by decide +kernel
theorem d_Mo_tellRow_164 : decode b_Mo_tellRow 164 = .ok (.bipush 6, 2) := by decide +kernel
theorem d_Mo_tellRow_166 : decode b_Mo_tellRow 166 = .ok (.if_icmp .ge 8, 3) := by decide +kernel
theorem d_Mo_tellRow_169 : decode b_Mo_tellRow 169 = .ok (.iload 4, 2) := by decide +kernel
theorem d_Mo_tellRow_171 : decode b_Mo_tellRow 171 = .ok (.goto 5, 3) := by decide +kernel
theorem d_Mo_tellRow_174 : decode b_Mo_tellRow 174 = .ok (.bipush 6, 2) := by decide +kernel
theorem d_Mo_tellRow_176 : decode b_Mo_tellRow 176 = .ok (.istore 5, 2) := by decide +kernel
theorem d_Mo_tellRow_178 : decode b_Mo_tellRow 178 = .ok (.aload_n 0, 1) := by decide +kernel
theorem d_Mo_tellRow_179 : decode b_Mo_tellRow 179 = .ok (.bipush 16, 2) := by decide +kernel
theorem d_Mo_tellRow_181 : decode b_Mo_tellRow 181 = .ok (.iload 5, 2) := by decide +kernel
theorem d_Mo_tellRow_183 : decode b_Mo_tellRow 183 = .ok (.iconst 3, 1) := by decide +kernel
theorem d_Mo_tellRow_184 : decode b_Mo_tellRow 184 = .ok (.isub, 1) := by decide +kernel
theorem d_Mo_tellRow_185 : decode b_Mo_tellRow 185 = .ok (.invokevirtual 187, 3) := by decide +kernel
theorem d_Mo_tellRow_188 : decode b_Mo_tellRow 188 = .ok (.iload 4, 2) := by decide +kernel
theorem d_Mo_tellRow_190 : decode b_Mo_tellRow 190 = .ok (.iload 5, 2) := by decide +kernel
theorem d_Mo_tellRow_192 : decode b_Mo_tellRow 192 = .ok (.isub, 1) := by decide +kernel
theorem d_Mo_tellRow_193 : decode b_Mo_tellRow 193 = .ok (.istore 4, 2) := by decide +kernel
theorem d_Mo_tellRow_195 : decode b_Mo_tellRow 195 = .ok (.goto (-39), 3) := by decide +kernel
theorem d_Mo_tellRow_198 : decode b_Mo_tellRow 198 = .ok (.iload 4, 2) := by decide +kernel
theorem d_Mo_tellRow_200 : decode b_Mo_tellRow 200 = .ok (.ifCond .le 15, 3) := by decide +kernel
theorem d_Mo_tellRow_203 : decode b_Mo_tellRow 203 = .ok (.aload_n 0, 1) := by decide +kernel
theorem d_Mo_tellRow_204 : decode b_Mo_tellRow 204 = .ok (.iload_n 3, 1) := by decide +kernel
theorem d_Mo_tellRow_205 : decode b_Mo_tellRow 205 = .ok (.iconst 0, 1) := by decide +kernel
theorem d_Mo_tellRow_206 : decode b_Mo_tellRow 206 = .ok (.invokevirtual 187, 3) := by decide +kernel
theorem d_Mo_tellRow_209 : decode b_Mo_tellRow 209 = .ok (.iinc 4 (-1), 3) := by decide +kernel
theorem d_Mo_tellRow_212 : decode b_Mo_tellRow 212 = .ok (.goto (-14), 3) := by decide +kernel
theorem d_Mo_tellRow_215 : decode b_Mo_tellRow 215 = .ok (.goto (-187), 3) := by decide +kernel
theorem d_Mo_tellRow_218 : decode b_Mo_tellRow 218 = .ok (.return_, 1) := by decide +kernel
theorem d_Mo_stepBits_0 : decode b_Mo_stepBits 0 = .ok (.iload_n 0, 1) := by decide +kernel
theorem d_Mo_stepBits_1 : decode b_Mo_stepBits 1 = .ok (.bipush 16, 2) := by decide +kernel
theorem d_Mo_stepBits_3 : decode b_Mo_stepBits 3 = .ok (.if_icmp .ne 7, 3) := by decide +kernel
theorem d_Mo_stepBits_6 : decode b_Mo_stepBits 6 = .ok (.iconst 2, 1) := by decide +kernel
theorem d_Mo_stepBits_7 : decode b_Mo_stepBits 7 = .ok (.goto 25, 3) := by decide +kernel
theorem d_Mo_stepBits_10 : decode b_Mo_stepBits 10 = .ok (.iload_n 0, 1) := by decide +kernel
theorem d_Mo_stepBits_11 : decode b_Mo_stepBits 11 = .ok (.bipush 17, 2) := by decide +kernel
theorem d_Mo_stepBits_13 : decode b_Mo_stepBits 13 = .ok (.if_icmp .ne 7, 3) := by decide +kernel
theorem d_Mo_stepBits_16 : decode b_Mo_stepBits 16 = .ok (.iconst 3, 1) := by decide +kernel
theorem d_Mo_stepBits_17 : decode b_Mo_stepBits 17 = .ok (.goto 15, 3) := by decide +kernel
theorem d_Mo_stepBits_20 : decode b_Mo_stepBits 20 = .ok (.iload_n 0, 1) := by decide +kernel
theorem d_Mo_stepBits_21 : decode b_Mo_stepBits 21 = .ok (.bipush 18, 2) := by decide +kernel
theorem d_Mo_stepBits_23 : decode b_Mo_stepBits 23 = .ok (.if_icmp .ne 8, 3) := by decide +kernel
theorem d_Mo_stepBits_26 : decode b_Mo_stepBits 26 = .ok (.bipush 7, 2) := by decide +kernel
theorem d_Mo_stepBits_28 : decode b_Mo_stepBits 28 = .ok (.goto 4, 3) := by decide +kernel
theorem d_Mo_stepBits_31 : decode b_Mo_stepBits 31 = .ok (.iconst 0, 1) := by decide +kernel
theorem d_Mo_stepBits_32 : decode b_Mo_stepBits 32 = .ok (.ireturn, 1) := by decide +kernel
theorem d_Mo_needed_0 : decode b_Mo_needed 0 = .ok (.iload_n 2, 1) := by decide +kernel
theorem d_Mo_needed_1 : decode b_Mo_needed 1 = .ok (.istore 4, 2) := by decide +kernel
theorem d_Mo_needed_3 : decode b_Mo_needed 3 = .ok (.iload 4, 2) := by decide +kernel
theorem d_Mo_needed_5 : decode b_Mo_needed 5 = .ok (.iload_n 3, 1) := by decide +kernel
theorem d_Mo_needed_6 : decode b_Mo_needed 6 = .ok (.if_icmp .le 20, 3) := by decide +kernel
theorem d_Mo_needed_9 : decode b_Mo_needed 9 = .ok (.aload_n 0, 1) := by decide +kernel
theorem d_Mo_needed_10 : decode b_Mo_needed 10 = .ok (.iload_n 1, 1) := by decide +kernel
theorem d_Mo_needed_11 : decode b_Mo_needed 11 = .ok (.iload 4, 2) := by decide +kernel
theorem d_Mo_needed_13 : decode b_Mo_needed 13 = .ok (.iadd, 1) := by decide +kernel
theorem d_Mo_needed_14 : decode b_Mo_needed 14 = .ok (.iconst 1, 1) := by decide +kernel
theorem d_Mo_needed_15 : decode b_Mo_needed 15 = .ok (.isub, 1) := by decide +kernel
theorem d_Mo_needed_16 : decode b_Mo_needed 16 = .ok (.iaload, 1) := by decide +kernel
theorem d_Mo_needed_17 : decode b_Mo_needed 17 = .ok (.ifCond .ne 9, 3) := by decide +kernel
theorem d_Mo_needed_20 : decode b_Mo_needed 20 = .ok (.iinc 4 (-1), 3) := by decide +kernel
theorem d_Mo_needed_23 : decode b_Mo_needed 23 = .ok (.goto (-20), 3) := by decide +kernel
theorem d_Mo_needed_26 : decode b_Mo_needed 26 = .ok (.iload 4, 2) := by decide +kernel
theorem d_Mo_needed_28 : decode b_Mo_needed 28 = .ok (.ireturn, 1) := by decide +kernel
theorem d_Mo_writeBit_0 : decode b_Mo_writeBit 0 = .ok (.aload_n 0, 1) := by decide +kernel
theorem d_Mo_writeBit_1 : decode b_Mo_writeBit 1 = .ok (.getfield 191, 3) := by decide +kernel
theorem d_Mo_writeBit_4 : decode b_Mo_writeBit 4 = .ok (.bipush 8, 2) := by decide +kernel
theorem d_Mo_writeBit_6 : decode b_Mo_writeBit 6 = .ok (.irem, 1) := by decide +kernel
theorem d_Mo_writeBit_7 : decode b_Mo_writeBit 7 = .ok (.ifCond .ne 23, 3) := by decide +kernel
theorem d_Mo_writeBit_10 : decode b_Mo_writeBit 10 = .ok (.aload_n 0, 1) := by decide +kernel
theorem d_Mo_writeBit_11 : decode b_Mo_writeBit 11 = .ok (.getfield 13, 3) := by decide +kernel
theorem d_Mo_writeBit_14 : decode b_Mo_writeBit 14 = .ok (.aload_n 0, 1) := by decide +kernel
theorem d_Mo_writeBit_15 : decode b_Mo_writeBit 15 = .ok (.getfield 72, 3) := by decide +kernel
theorem d_Mo_writeBit_18 : decode b_Mo_writeBit 18 = .ok (.iconst 0, 1) := by decide +kernel
theorem d_Mo_writeBit_19 : decode b_Mo_writeBit 19 = .ok (.iastore, 1) := by decide +kernel
theorem d_Mo_writeBit_20 : decode b_Mo_writeBit 20 = .ok (.aload_n 0, 1) := by decide +kernel
theorem d_Mo_writeBit_21 : decode b_Mo_writeBit 21 = .ok (.dup, 1) := by decide +kernel
theorem d_Mo_writeBit_22 : decode b_Mo_writeBit 22 = .ok (.getfield 72, 3) := by decide +kernel
theorem d_Mo_writeBit_25 : decode b_Mo_writeBit 25 = .ok (.iconst 1, 1) := by decide +kernel
theorem d_Mo_writeBit_26 : decode b_Mo_writeBit 26 = .ok (.iadd, 1) := by decide +kernel
theorem d_Mo_writeBit_27 : decode b_Mo_writeBit 27 = .ok (.putfield 72, 3) := by decide +kernel
theorem d_Mo_writeBit_30 : decode b_Mo_writeBit 30 = .ok (.aload_n 0, 1) := by decide +kernel
theorem d_Mo_writeBit_31 : decode b_Mo_writeBit 31 = .ok (.getfield 13, 3) := by decide +kernel
theorem d_Mo_writeBit_34 : decode b_Mo_writeBit 34 = .ok (.aload_n 0, 1) := by decide +kernel
theorem d_Mo_writeBit_35 : decode b_Mo_writeBit 35 = .ok (.getfield 72, 3) := by decide +kernel
theorem d_Mo_writeBit_38 : decode b_Mo_writeBit 38 = .ok (.iconst 1, 1) := by decide +kernel
theorem d_Mo_writeBit_39 : decode b_Mo_writeBit 39 = .ok (.isub, 1) := by decide +kernel
theorem d_Mo_writeBit_40 : decode b_Mo_writeBit 40 = .ok (.aload_n 0, 1) := by decide +kernel
theorem d_Mo_writeBit_41 : decode b_Mo_writeBit 41 = .ok (.getfield 13, 3) := by decide +kernel
theorem d_Mo_writeBit_44 : decode b_Mo_writeBit 44 = .ok (.aload_n 0, 1) := by decide +kernel
theorem d_Mo_writeBit_45 : decode b_Mo_writeBit 45 = .ok (.getfield 72, 3) := by decide +kernel
theorem d_Mo_writeBit_48 : decode b_Mo_writeBit 48 = .ok (.iconst 1, 1) := by decide +kernel
theorem d_Mo_writeBit_49 : decode b_Mo_writeBit 49 = .ok (.isub, 1) := by decide +kernel
theorem d_Mo_writeBit_50 : decode b_Mo_writeBit 50 = .ok (.iaload, 1) := by decide +kernel
theorem d_Mo_writeBit_51 : decode b_Mo_writeBit 51 = .ok (.iload_n 1, 1) := by decide +kernel
theorem d_Mo_writeBit_52 : decode b_Mo_writeBit 52 = .ok (.aload_n 0, 1) := by decide +kernel
theorem d_Mo_writeBit_53 : decode b_Mo_writeBit 53 = .ok (.getfield 191, 3) := by decide +kernel
theorem d_Mo_writeBit_56 : decode b_Mo_writeBit 56 = .ok (.bipush 8, 2) := by decide +kernel
theorem d_Mo_writeBit_58 : decode b_Mo_writeBit 58 = .ok (.irem, 1) := by decide +kernel
theorem d_Mo_writeBit_59 : decode b_Mo_writeBit 59 = .ok (.ishl, 1) := by decide +kernel
theorem d_Mo_writeBit_60 : decode b_Mo_writeBit 60 = .ok (.ior, 1) := by decide +kernel
theorem d_Mo_writeBit_61 : decode b_Mo_writeBit 61 = .ok (.iastore, 1) := by decide +kernel
theorem d_Mo_writeBit_62 : decode b_Mo_writeBit 62 = .ok (.aload_n 0, 1) := by decide +kernel
theorem d_Mo_writeBit_63 : decode b_Mo_writeBit 63 = .ok (.dup, 1) := by decide +kernel
theorem d_Mo_writeBit_64 : decode b_Mo_writeBit 64 = .ok (.getfield 191, 3) := by decide +kernel
theorem d_Mo_writeBit_67 : decode b_Mo_writeBit 67 = .ok (.iconst 1, 1) := by decide +kernel
theorem d_Mo_writeBit_68 : decode b_Mo_writeBit 68 = .ok (.iadd, 1) := by decide +kernel
theorem d_Mo_writeBit_69 : decode b_Mo_writeBit 69 = .ok (.putfield 191, 3) := by decide +kernel
theorem d_Mo_writeBit_72 : decode b_Mo_writeBit 72 = .ok (.return_, 1) := by decide +kernel
theorem d_Mo_writeNumber_0 : decode b_Mo_writeNumber 0 = .ok (.iconst 0, 1) := by decide +kernel
theorem d_Mo_writeNumber_1 : decode b_Mo_writeNumber 1 = .ok (.istore_n 3, 1) := by decide +kernel
theorem d_Mo_writeNumber_2 : decode b_Mo_writeNumber 2 = .ok (.iload_n 3, 1) := by decide +kernel
theorem d_Mo_writeNumber_3 : decode b_Mo_writeNumber 3 = .ok (.iload_n 2, 1) := by decide +kernel
theorem d_Mo_writeNumber_4 : decode b_Mo_writeNumber 4 = .ok (.if_icmp .ge 18, 3) := by decide +kernel
theorem d_Mo_writeNumber_7 : decode b_Mo_writeNumber 7 = .ok (.aload_n 0, 1) := by decide +kernel
theorem d_Mo_writeNumber_8 : decode b_Mo_writeNumber 8 = .ok (.iload_n 1, 1) := by decide +kernel
theorem d_Mo_writeNumber_9 : decode b_Mo_writeNumber 9 = .ok (.iload_n 3, 1) := by decide +kernel
theorem d_Mo_writeNumber_10 : decode b_Mo_writeNumber 10 = .ok (.ishr, 1) := by decide +kernel
theorem d_Mo_writeNumber_11 : decode b_Mo_writeNumber 11 = .ok (.iconst 1, 1) := by decide +kernel
theorem d_Mo_writeNumber_12 : decode b_Mo_writeNumber 12 = .ok (.iand, 1) := by decide +kernel
theorem d_Mo_writeNumber_13 : decode b_Mo_writeNumber 13 = .ok (.invokevirtual 194, 3) := by decide +kernel
theorem d_Mo_writeNumber_16 : decode b_Mo_writeNumber 16 = .ok (.iinc 3 1, 3) := by decide +kernel
theorem d_Mo_writeNumber_19 : decode b_Mo_writeNumber 19 = .ok (.goto (-17), 3) := by decide +kernel
theorem d_Mo_writeNumber_22 : decode b_Mo_writeNumber 22 = .ok (.return_, 1) := by decide +kernel
theorem d_Mo_writeCode_0 : decode b_Mo_writeCode 0 = .ok (.aload_n 1, 1) := by decide +kernel
theorem d_Mo_writeCode_1 : decode b_Mo_writeCode 1 = .ok (.iload_n 2, 1) := by decide +kernel
theorem d_Mo_writeCode_2 : decode b_Mo_writeCode 2 = .ok (.iload_n 3, 1) := by decide +kernel
theorem d_Mo_writeCode_3 : decode b_Mo_writeCode 3 = .ok (.iload 4, 2) := by decide +kernel
theorem d_Mo_writeCode_5 : decode b_Mo_writeCode 5 = .ok (.invokestatic 197, 3) := by decide +kernel
theorem d_Mo_writeCode_8 : decode b_Mo_writeCode 8 = .ok (.istore 5, 2) := by decide +kernel
theorem d_Mo_writeCode_10 : decode b_Mo_writeCode 10 = .ok (.aload_n 1, 1) := by decide +kernel
theorem d_Mo_writeCode_11 : decode b_Mo_writeCode 11 = .ok (.iload_n 2, 1) := by decide +kernel
theorem d_Mo_writeCode_12 : decode b_Mo_writeCode 12 = .ok (.iload 4, 2) := by decide +kernel
theorem d_Mo_writeCode_14 : decode b_Mo_writeCode 14 = .ok (.iadd, 1) := by decide +kernel
theorem d_Mo_writeCode_15 : decode b_Mo_writeCode 15 = .ok (.iaload, 1) := by decide +kernel
theorem d_Mo_writeCode_16 : decode b_Mo_writeCode 16 = .ok (.iconst 1, 1) := by decide +kernel
theorem d_Mo_writeCode_17 : decode b_Mo_writeCode 17 = .ok (.isub, 1) := by decide +kernel
theorem d_Mo_writeCode_18 : decode b_Mo_writeCode 18 = .ok (.istore 6, 2) := by decide +kernel
theorem d_Mo_writeCode_20 : decode b_Mo_writeCode 20 = .ok (.iload 6, 2) := by decide +kernel
theorem d_Mo_writeCode_22 : decode b_Mo_writeCode 22 = .ok (.ifCond .lt 20, 3) := by decide +kernel
theorem d_Mo_writeCode_25 : decode b_Mo_writeCode 25 = .ok (.aload_n 0, 1) := by decide +kernel
theorem d_Mo_writeCode_26 : decode b_Mo_writeCode 26 = .ok (.iload 5, 2) := by decide +kernel
theorem d_Mo_writeCode_28 : decode b_Mo_writeCode 28 = .ok (.iload 6, 2) := by decide +kernel
theorem d_Mo_writeCode_30 : decode b_Mo_writeCode 30 = .ok (.ishr, 1) := by decide +kernel
theorem d_Mo_writeCode_31 : decode b_Mo_writeCode 31 = .ok (.iconst 1, 1) := by decide +kernel
theorem d_Mo_writeCode_32 : decode b_Mo_writeCode 32 = .ok (.iand, 1) := by decide +kernel
theorem d_Mo_writeCode_33 : decode b_Mo_writeCode 33 = .ok (.invokevirtual 194, 3) := by decide +kernel
theorem d_Mo_writeCode_36 : decode b_Mo_writeCode 36 = .ok (.iinc 6 (-1), 3) := by decide +kernel
theorem d_Mo_writeCode_39 : decode b_Mo_writeCode 39 = .ok (.goto (-19), 3) := by decide +kernel
theorem d_Mo_writeCode_42 : decode b_Mo_writeCode 42 = .ok (.return_, 1) := by decide +kernel
theorem d_Mo_bitsOfTokens_0 : decode b_Mo_bitsOfTokens 0 = .ok (.aload_n 1, 1) := by decide +kernel
theorem d_Mo_bitsOfTokens_1 : decode b_Mo_bitsOfTokens 1 = .ok (.sipush 256, 3) := by decide +kernel
theorem d_Mo_bitsOfTokens_4 : decode b_Mo_bitsOfTokens 4 = .ok (.iaload, 1) := by decide +kernel
theorem d_Mo_bitsOfTokens_5 : decode b_Mo_bitsOfTokens 5 = .ok (.istore_n 2, 1) := by decide +kernel
theorem d_Mo_bitsOfTokens_6 : decode b_Mo_bitsOfTokens 6 = .ok (.iconst 0, 1) := by decide +kernel
theorem d_Mo_bitsOfTokens_7 : decode b_Mo_bitsOfTokens 7 = .ok (.istore_n 3, 1) := by decide +kernel
theorem d_Mo_bitsOfTokens_8 : decode b_Mo_bitsOfTokens 8 = .ok (.iload_n 3, 1) := by decide +kernel
theorem d_Mo_bitsOfTokens_9 : decode b_Mo_bitsOfTokens 9 = .ok (.aload_n 0, 1) := by decide +kernel
theorem d_Mo_bitsOfTokens_10 : decode b_Mo_bitsOfTokens 10 = .ok (.getfield 164, 3) := by decide +kernel
theorem d_Mo_bitsOfTokens_13 : decode b_Mo_bitsOfTokens 13 = .ok (.if_icmp .ge 82, 3) := by decide +kernel
theorem d_Mo_bitsOfTokens_16 : decode b_Mo_bitsOfTokens 16 = .ok (.aload_n 0, 1) := by decide +kernel
theorem d_Mo_bitsOfTokens_17 : decode b_Mo_bitsOfTokens 17 = .ok (.getfield 28, 3) := by decide +kernel
theorem d_Mo_bitsOfTokens_20 : decode b_Mo_bitsOfTokens 20 = .ok (.iload_n 3, 1) := by decide +kernel
theorem d_Mo_bitsOfTokens_21 : decode b_Mo_bitsOfTokens 21 = .ok (.iaload, 1) := by decide +kernel
theorem d_Mo_bitsOfTokens_22 : decode b_Mo_bitsOfTokens 22 = .ok (.ifCond .ne 17, 3) := by decide +kernel
theorem d_Mo_bitsOfTokens_25 : decode b_Mo_bitsOfTokens 25 = .ok (.iload_n 2, 1) := by decide +kernel
theorem d_Mo_bitsOfTokens_26 : decode b_Mo_bitsOfTokens 26 = .ok (.aload_n 1, 1) := by decide +kernel
theorem d_Mo_bitsOfTokens_27 : decode b_Mo_bitsOfTokens 27 = .ok (.aload_n 0, 1) := by decide +kernel
theorem d_Mo_bitsOfTokens_28 : decode b_Mo_bitsOfTokens 28 = .ok (.getfield 31, 3) := by decide +kernel
theorem d_Mo_bitsOfTokens_31 : decode b_Mo_bitsOfTokens 31 = .ok (.iload_n 3, 1) := by decide +kernel
theorem d_Mo_bitsOfTokens_32 : decode b_Mo_bitsOfTokens 32 = .ok (.iaload, 1) := by decide +kernel
theorem d_Mo_bitsOfTokens_33 : decode b_Mo_bitsOfTokens 33 = .ok (.iaload, 1) := by decide +kernel
theorem d_Mo_bitsOfTokens_34 : decode b_Mo_bitsOfTokens 34 = .ok (.iadd, 1) := by decide +kernel
theorem d_Mo_bitsOfTokens_35 : decode b_Mo_bitsOfTokens 35 = .ok (.istore_n 2, 1) := by decide +kernel
theorem d_Mo_bitsOfTokens_36 : decode b_Mo_bitsOfTokens 36 = .ok (.goto 53, 3) := by decide +kernel
theorem d_Mo_bitsOfTokens_39 : decode b_Mo_bitsOfTokens 39 = .ok (.aload_n 0, 1) := by decide +kernel
theorem d_Mo_bitsOfTokens_40 : decode b_Mo_bitsOfTokens 40 = .ok (.getfield 28, 3) := by decide +kernel
theorem d_Mo_bitsOfTokens_43 : decode b_Mo_bitsOfTokens 43 = .ok (.iload_n 3, 1) := by decide +kernel
theorem d_Mo_bitsOfTokens_44 : decode b_Mo_bitsOfTokens 44 = .ok (.iaload, 1) := by decide +kernel
theorem d_Mo_bitsOfTokens_45 : decode b_Mo_bitsOfTokens 45 = .ok (.invokestatic 171, 3) := by decide +kernel
theorem d_Mo_bitsOfTokens_48 : decode b_Mo_bitsOfTokens 48 = .ok (.istore 4, 2) := by decide +kernel
theorem d_Mo_bitsOfTokens_50 : decode b_Mo_bitsOfTokens 50 = .ok (.aload_n 0, 1) := by decide +kernel
theorem d_Mo_bitsOfTokens_51 : decode b_Mo_bitsOfTokens 51 = .ok (.getfield 31, 3) := by decide +kernel
theorem d_Mo_bitsOfTokens_54 : decode b_Mo_bitsOfTokens 54 = .ok (.iload_n 3, 1) := by decide +kernel
theorem d_Mo_bitsOfTokens_55 : decode b_Mo_bitsOfTokens 55 = .ok (.iaload, 1) := by decide +kernel
theorem d_Mo_bitsOfTokens_56 : decode b_Mo_bitsOfTokens 56 = .ok (.invokestatic 174, 3) := by decide +kernel
theorem d_Mo_bitsOfTokens_59 : decode b_Mo_bitsOfTokens 59 = .ok (.istore 5, 2) := by decide +kernel
theorem d_Mo_bitsOfTokens_61 : decode b_Mo_bitsOfTokens 61 = .ok (.iload_n 2, 1) := by decide +kernel
theorem d_Mo_bitsOfTokens_62 : decode b_Mo_bitsOfTokens 62 = .ok (.aload_n 1, 1) := by decide +kernel
theorem d_Mo_bitsOfTokens_63 : decode b_Mo_bitsOfTokens 63 = .ok (.iload 4, 2) := by decide +kernel
theorem d_Mo_bitsOfTokens_65 : decode b_Mo_bitsOfTokens 65 = .ok (.iaload, 1) := by decide +kernel
theorem d_Mo_bitsOfTokens_66 : decode b_Mo_bitsOfTokens 66 = .ok (.iadd, 1) := by decide +kernel
theorem d_Mo_bitsOfTokens_67 : decode b_Mo_bitsOfTokens 67 = .ok (.iload 4, 2) := by decide +kernel
theorem d_Mo_bitsOfTokens_69 : decode b_Mo_bitsOfTokens 69 = .ok (.invokestatic 119, 3) := by decide +kernel
theorem d_Mo_bitsOfTokens_72 : decode b_Mo_bitsOfTokens 72 = .ok (.iadd, 1) := by decide +kernel
theorem d_Mo_bitsOfTokens_73 : decode b_Mo_bitsOfTokens 73 = .ok (.aload_n 1, 1) := by decide +kernel
theorem d_Mo_bitsOfTokens_74 : decode b_Mo_bitsOfTokens 74 = .ok (.sipush 288, 3) := by decide +kernel
theorem d_Mo_bitsOfTokens_77 : decode b_Mo_bitsOfTokens 77 = .ok (.iload 5, 2) := by decide +kernel
theorem d_Mo_bitsOfTokens_79 : decode b_Mo_bitsOfTokens 79 = .ok (.iadd, 1) := by decide +kernel
theorem d_Mo_bitsOfTokens_80 : decode b_Mo_bitsOfTokens 80 = .ok (.iaload, 1) := by decide +kernel
theorem d_Mo_bitsOfTokens_81 : decode b_Mo_bitsOfTokens 81 = .ok (.iadd, 1) := by decide +kernel
theorem d_Mo_bitsOfTokens_82 : decode b_Mo_bitsOfTokens 82 = .ok (.iload 5, 2) := by decide +kernel
theorem d_Mo_bitsOfTokens_84 : decode b_Mo_bitsOfTokens 84 = .ok (.invokestatic 122, 3) := by decide +kernel
theorem d_Mo_bitsOfTokens_87 : decode b_Mo_bitsOfTokens 87 = .ok (.iadd, 1) := by decide +kernel
theorem d_Mo_bitsOfTokens_88 : decode b_Mo_bitsOfTokens 88 = .ok (.istore_n 2, 1) := by decide +kernel
theorem d_Mo_bitsOfTokens_89 : decode b_Mo_bitsOfTokens 89 = .ok (.iinc 3 1, 3) := by decide +kernel
theorem d_Mo_bitsOfTokens_92 : decode b_Mo_bitsOfTokens 92 = .ok (.goto (-84), 3) := by decide +kernel
theorem d_Mo_bitsOfTokens_95 : decode b_Mo_bitsOfTokens 95 = .ok (.iload_n 2, 1) := by decide +kernel
theorem d_Mo_bitsOfTokens_96 : decode b_Mo_bitsOfTokens 96 = .ok (.ireturn, 1) := by decide +kernel
theorem d_Mo_writeTokens_0 : decode b_Mo_writeTokens 0 = .ok (.iconst 0, 1) := by decide +kernel
theorem d_Mo_writeTokens_1 : decode b_Mo_writeTokens 1 = .ok (.istore_n 1, 1) := by decide +kernel
theorem d_Mo_writeTokens_2 : decode b_Mo_writeTokens 2 = .ok (.iload_n 1, 1) := by decide +kernel
theorem d_Mo_writeTokens_3 : decode b_Mo_writeTokens 3 = .ok (.aload_n 0, 1) := by decide +kernel
theorem d_Mo_writeTokens_4 : decode b_Mo_writeTokens 4 = .ok (.getfield 164, 3) := by decide +kernel
theorem d_Mo_writeTokens_7 : decode b_Mo_writeTokens 7 = .ok (.if_icmp .ge 124, 3) := by decide +kernel
theorem d_Mo_writeTokens_10 : decode b_Mo_writeTokens 10 = .ok (.aload_n 0, 1) := by decide +kernel
theorem d_Mo_writeTokens_11 : decode b_Mo_writeTokens 11 = .ok (.getfield 28, 3) := by decide +kernel
theorem d_Mo_writeTokens_14 : decode b_Mo_writeTokens 14 = .ok (.iload_n 1, 1) := by decide +kernel
theorem d_Mo_writeTokens_15 : decode b_Mo_writeTokens 15 = .ok (.iaload, 1) := by decide +kernel
theorem d_Mo_writeTokens_16 : decode b_Mo_writeTokens 16 = .ok (.ifCond .ne 24, 3) := by decide +kernel
theorem d_Mo_writeTokens_19 : decode b_Mo_writeTokens 19 = .ok (.aload_n 0, 1) := by decide +kernel
theorem d_Mo_writeTokens_20 : decode b_Mo_writeTokens 20 = .ok (.aload_n 0, 1) := by decide +kernel
theorem d_Mo_writeTokens_21 : decode b_Mo_writeTokens 21 = .ok (.getfield 19, 3) := by decide +kernel
theorem d_Mo_writeTokens_24 : decode b_Mo_writeTokens 24 = .ok (.iconst 0, 1) := by decide +kernel
theorem d_Mo_writeTokens_25 : decode b_Mo_writeTokens 25 = .ok (.sipush 288, 3) := by decide +kernel
theorem d_Mo_writeTokens_28 : decode b_Mo_writeTokens 28 = .ok (.aload_n 0, 1) := by decide +kernel
theorem d_Mo_writeTokens_29 : decode b_Mo_writeTokens 29 = .ok (.getfield 31, 3) := by decide +kernel
theorem d_Mo_writeTokens_32 : decode b_Mo_writeTokens 32 = .ok (.iload_n 1, 1) := by decide +kernel
theorem d_Mo_writeTokens_33 : decode b_Mo_writeTokens 33 = .ok (.iaload, 1) := by decide +kernel
theorem d_Mo_writeTokens_34 : decode b_Mo_writeTokens 34 = .ok (.invokevirtual 201, 3) := by decide +kernel
theorem d_Mo_writeTokens_37 : decode b_Mo_writeTokens 37 = .ok (.goto 88, 3) := by decide +kernel
theorem d_Mo_writeTokens_40 : decode b_Mo_writeTokens 40 = .ok (.aload_n 0, 1) := by decide +kernel
theorem d_Mo_writeTokens_41 : decode b_Mo_writeTokens 41 = .ok (.getfield 28, 3) := by decide +kernel
theorem d_Mo_writeTokens_44 : decode b_Mo_writeTokens 44 = .ok (.iload_n 1, 1) := by decide +kernel
theorem d_Mo_writeTokens_45 : decode b_Mo_writeTokens 45 = .ok (.iaload, 1) := by decide +kernel
theorem d_Mo_writeTokens_46 : decode b_Mo_writeTokens 46 = .ok (.invokestatic 171, 3) := by decide +kernel
theorem d_Mo_writeTokens_49 : decode b_Mo_writeTokens 49 = .ok (.istore_n 2, 1) := by decide +kernel
theorem d_Mo_writeTokens_50 : decode b_Mo_writeTokens 50 = .ok (.aload_n 0, 1) := by decide +kernel
theorem d_Mo_writeTokens_51 : decode b_Mo_writeTokens 51 = .ok (.getfield 31, 3) := by decide +kernel
theorem d_Mo_writeTokens_54 : decode b_Mo_writeTokens 54 = .ok (.iload_n 1, 1) := by decide +kernel
theorem d_Mo_writeTokens_55 : decode b_Mo_writeTokens 55 = .ok (.iaload, 1) := by decide +kernel
theorem d_Mo_writeTokens_56 : decode b_Mo_writeTokens 56 = .ok (.invokestatic 174, 3) := by decide +kernel
theorem d_Mo_writeTokens_59 : decode b_Mo_writeTokens 59 = .ok (.istore_n 3, 1) := by decide +kernel
theorem d_Mo_writeTokens_60 : decode b_Mo_writeTokens 60 = .ok (.aload_n 0, 1) := by decide +kernel
theorem d_Mo_writeTokens_61 : decode b_Mo_writeTokens 61 = .ok (.aload_n 0, 1) := by decide +kernel
theorem d_Mo_writeTokens_62 : decode b_Mo_writeTokens 62 = .ok (.getfield 19, 3) := by decide +kernel
theorem d_Mo_writeTokens_65 : decode b_Mo_writeTokens 65 = .ok (.iconst 0, 1) := by decide +kernel
theorem d_Mo_writeTokens_66 : decode b_Mo_writeTokens 66 = .ok (.sipush 288, 3) := by decide +kernel
theorem d_Mo_writeTokens_69 : decode b_Mo_writeTokens 69 = .ok (.iload_n 2, 1) := by decide +kernel
theorem d_Mo_writeTokens_70 : decode b_Mo_writeTokens 70 = .ok (.invokevirtual 201, 3) := by decide +kernel
theorem d_Mo_writeTokens_73 : decode b_Mo_writeTokens 73 = .ok (.aload_n 0, 1) := by decide +kernel
theorem d_Mo_writeTokens_74 : decode b_Mo_writeTokens 74 = .ok (.aload_n 0, 1) := by decide +kernel
theorem d_Mo_writeTokens_75 : decode b_Mo_writeTokens 75 = .ok (.getfield 28, 3) := by decide +kernel
theorem d_Mo_writeTokens_78 : decode b_Mo_writeTokens 78 = .ok (.iload_n 1, 1) := by decide +kernel
theorem d_Mo_writeTokens_79 : decode b_Mo_writeTokens 79 = .ok (.iaload, 1) := by decide +kernel
theorem d_Mo_writeTokens_80 : decode b_Mo_writeTokens 80 = .ok (.iload_n 2, 1) := by decide +kernel
theorem d_Mo_writeTokens_81 : decode b_Mo_writeTokens 81 = .ok (.invokestatic 131, 3) := by decide +kernel
theorem d_Mo_writeTokens_84 : decode b_Mo_writeTokens 84 = .ok (.isub, 1) := by decide +kernel
theorem d_Mo_writeTokens_85 : decode b_Mo_writeTokens 85 = .ok (.iload_n 2, 1) := by decide +kernel
theorem d_Mo_writeTokens_86 : decode b_Mo_writeTokens 86 = .ok (.invokestatic 119, 3) := by decide +kernel
theorem d_Mo_writeTokens_89 : decode b_Mo_writeTokens 89 = .ok (.invokevirtual 204, 3) := by decide +kernel
theorem d_Mo_writeTokens_92 : decode b_Mo_writeTokens 92 = .ok (.aload_n 0, 1) := by decide +kernel
theorem d_Mo_writeTokens_93 : decode b_Mo_writeTokens 93 = .ok (.aload_n 0, 1) := by decide +kernel
theorem d_Mo_writeTokens_94 : decode b_Mo_writeTokens 94 = .ok (.getfield 19, 3) := by decide +kernel
theorem d_Mo_writeTokens_97 : decode b_Mo_writeTokens 97 = .ok (.sipush 288, 3) := by decide +kernel
theorem d_Mo_writeTokens_100 : decode b_Mo_writeTokens 100 = .ok (.bipush 32, 2) := by decide +kernel
theorem d_Mo_writeTokens_102 : decode b_Mo_writeTokens 102 = .ok (.iload_n 3, 1) := by decide +kernel
theorem d_Mo_writeTokens_103 : decode b_Mo_writeTokens 103 = .ok (.invokevirtual 201, 3) := by decide +kernel
theorem d_Mo_writeTokens_106 : decode b_Mo_writeTokens 106 = .ok (.aload_n 0, 1) := by decide +kernel
theorem d_Mo_writeTokens_107 : decode b_Mo_writeTokens 107 = .ok (.aload_n 0, 1) := by decide +kernel
theorem d_Mo_writeTokens_108 : decode b_Mo_writeTokens 108 = .ok (.getfield 31, 3) := by decide +kernel
theorem d_Mo_writeTokens_111 : decode b_Mo_writeTokens 111 = .ok (.iload_n 1, 1) := by decide +kernel
theorem d_Mo_writeTokens_112 : decode b_Mo_writeTokens 112 = .ok (.iaload, 1) := by decide +kernel
theorem d_Mo_writeTokens_113 : decode b_Mo_writeTokens 113 = .ok (.iload_n 3, 1) := by decide +kernel
theorem d_Mo_writeTokens_114 : decode b_Mo_writeTokens 114 = .ok (.invokestatic 134, 3) := by decide +kernel
theorem d_Mo_writeTokens_117 : decode b_Mo_writeTokens 117 = .ok (.isub, 1) := by decide +kernel
theorem d_Mo_writeTokens_118 : decode b_Mo_writeTokens 118 = .ok (.iload_n 3, 1) := by decide +kernel
theorem d_Mo_writeTokens_119 : decode b_Mo_writeTokens 119 = .ok (.invokestatic 122, 3) := by decide +kernel
theorem d_Mo_writeTokens_122 : decode b_Mo_writeTokens 122 = .ok (.invokevirtual 204, 3) := by decide +kernel
theorem d_Mo_writeTokens_125 : decode b_Mo_writeTokens 125 = .ok (.iinc 1 1, 3) := by decide +kernel
theorem d_Mo_writeTokens_128 : decode b_Mo_writeTokens 128 = .ok (.goto (-126), 3) := by decide +kernel
theorem d_Mo_writeTokens_131 : decode b_Mo_writeTokens 131 = .ok (.aload_n 0, 1) := by decide +kernel
theorem d_Mo_writeTokens_132 : decode b_Mo_writeTokens 132 = .ok (.aload_n 0, 1) := by decide +kernel
theorem d_Mo_writeTokens_133 : decode b_Mo_writeTokens 133 = .ok (.getfield 19, 3) := by decide +kernel
theorem d_Mo_writeTokens_136 : decode b_Mo_writeTokens 136 = .ok (.iconst 0, 1) := by decide +kernel
theorem d_Mo_writeTokens_137 : decode b_Mo_writeTokens 137 = .ok (.sipush 288, 3) := by decide +kernel
theorem d_Mo_writeTokens_140 : decode b_Mo_writeTokens 140 = .ok (.sipush 256, 3) := by decide +kernel
theorem d_Mo_writeTokens_143 : decode b_Mo_writeTokens 143 = .ok (.invokevirtual 201, 3) := by decide +kernel
theorem d_Mo_writeTokens_146 : decode b_Mo_writeTokens 146 = .ok (.return_, 1) := by decide +kernel
theorem d_Mo_writeStored_0 : decode b_Mo_writeStored 0 = .ok (.aload_n 0, 1) := by decide +kernel
theorem d_Mo_writeStored_1 : decode b_Mo_writeStored 1 = .ok (.iconst 0, 1) := by decide +kernel
theorem d_Mo_writeStored_2 : decode b_Mo_writeStored 2 = .ok (.iconst 2, 1) := by decide +kernel
theorem d_Mo_writeStored_3 : decode b_Mo_writeStored 3 = .ok (.invokevirtual 204, 3) := by decide +kernel
theorem d_Mo_writeStored_6 : decode b_Mo_writeStored 6 = .ok (.aload_n 0, 1) := by decide +kernel
theorem d_Mo_writeStored_7 : decode b_Mo_writeStored 7 = .ok (.getfield 191, 3) := by decide +kernel
theorem d_Mo_writeStored_10 : decode b_Mo_writeStored 10 = .ok (.bipush 8, 2) := by decide +kernel
theorem d_Mo_writeStored_12 : decode b_Mo_writeStored 12 = .ok (.irem, 1) := by decide +kernel
theorem d_Mo_writeStored_13 : decode b_Mo_writeStored 13 = .ok (.ifCond .eq 11, 3) := by decide +kernel
theorem d_Mo_writeStored_16 : decode b_Mo_writeStored 16 = .ok (.aload_n 0, 1) := by decide +kernel
theorem d_Mo_writeStored_17 : decode b_Mo_writeStored 17 = .ok (.iconst 0, 1) := by decide +kernel
theorem d_Mo_writeStored_18 : decode b_Mo_writeStored 18 = .ok (.invokevirtual 194, 3) := by decide +kernel
theorem d_Mo_writeStored_21 : decode b_Mo_writeStored 21 = .ok (.goto (-15), 3) := by decide +kernel
theorem d_Mo_writeStored_24 : decode b_Mo_writeStored 24 = .ok (.aload_n 0, 1) := by decide +kernel
theorem d_Mo_writeStored_25 : decode b_Mo_writeStored 25 = .ok (.iload_n 2, 1) := by decide +kernel
theorem d_Mo_writeStored_26 : decode b_Mo_writeStored 26 = .ok (.iload_n 1, 1) := by decide +kernel
theorem d_Mo_writeStored_27 : decode b_Mo_writeStored 27 = .ok (.isub, 1) := by decide +kernel
theorem d_Mo_writeStored_28 : decode b_Mo_writeStored 28 = .ok (.bipush 16, 2) := by decide +kernel
theorem d_Mo_writeStored_30 : decode b_Mo_writeStored 30 = .ok (.invokevirtual 204, 3) := by decide +kernel
theorem d_Mo_writeStored_33 : decode b_Mo_writeStored 33 = .ok (.aload_n 0, 1) := by decide +kernel
theorem d_Mo_writeStored_34 : decode b_Mo_writeStored 34 = .ok (.ldc 140, 2) := by decide +kernel
theorem d_Mo_writeStored_36 : decode b_Mo_writeStored 36 = .ok (.iload_n 2, 1) := by decide +kernel
theorem d_Mo_writeStored_37 : decode b_Mo_writeStored 37 = .ok (.isub, 1) := by decide +kernel
theorem d_Mo_writeStored_38 : decode b_Mo_writeStored 38 = .ok (.iload_n 1, 1) := by decide +kernel
theorem d_Mo_writeStored_39 : decode b_Mo_writeStored 39 = .ok (.iadd, 1) := by decide +kernel
theorem d_Mo_writeStored_40 : decode b_Mo_writeStored 40 = .ok (.bipush 16, 2) := by decide +kernel
theorem d_Mo_writeStored_42 : decode b_Mo_writeStored 42 = .ok (.invokevirtual 204, 3) := by decide +kernel
theorem d_Mo_writeStored_45 : decode b_Mo_writeStored 45 = .ok (.iload_n 1, 1) := by decide +kernel
theorem d_Mo_writeStored_46 : decode b_Mo_writeStored 46 = .ok (.istore_n 3, 1) := by decide +kernel
theorem d_Mo_writeStored_47 : decode b_Mo_writeStored 47 = .ok (.iload_n 3, 1) := by decide +kernel
theorem d_Mo_writeStored_48 : decode b_Mo_writeStored 48 = .ok (.iload_n 2, 1) := by decide +kernel
theorem d_Mo_writeStored_49 : decode b_Mo_writeStored 49 = .ok (.if_icmp .ge 21, 3) := by decide +kernel
theorem d_Mo_writeStored_52 : decode b_Mo_writeStored 52 = .ok (.aload_n 0, 1) := by decide +kernel
theorem d_Mo_writeStored_53 : decode b_Mo_writeStored 53 = .ok (.aload_n 0, 1) := by decide +kernel
theorem d_Mo_writeStored_54 : decode b_Mo_writeStored 54 = .ok (.getfield 7, 3) := by decide +kernel
theorem d_Mo_writeStored_57 : decode b_Mo_writeStored 57 = .ok (.iload_n 3, 1) := by decide +kernel
theorem d_Mo_writeStored_58 : decode b_Mo_writeStored 58 = .ok (.iaload, 1) := by decide +kernel
theorem d_Mo_writeStored_59 : decode b_Mo_writeStored 59 = .ok (.bipush 8, 2) := by decide +kernel
theorem d_Mo_writeStored_61 : decode b_Mo_writeStored 61 = .ok (.invokevirtual 204, 3) := by decide +kernel
theorem d_Mo_writeStored_64 : decode b_Mo_writeStored 64 = .ok (.iinc 3 1, 3) := by decide +kernel
theorem d_Mo_writeStored_67 : decode b_Mo_writeStored 67 = .ok (.goto (-20), 3) := by decide +kernel
theorem d_Mo_writeStored_70 : decode b_Mo_writeStored 70 = .ok (.return_, 1) := by decide +kernel
theorem d_Mo_writeMade_0 : decode b_Mo_writeMade 0 = .ok (.aload_n 0, 1) := by decide +kernel
theorem d_Mo_writeMade_1 : decode b_Mo_writeMade 1 = .ok (.iconst 2, 1) := by decide +kernel
theorem d_Mo_writeMade_2 : decode b_Mo_writeMade 2 = .ok (.iconst 2, 1) := by decide +kernel
theorem d_Mo_writeMade_3 : decode b_Mo_writeMade 3 = .ok (.invokevirtual 204, 3) := by decide +kernel
theorem d_Mo_writeMade_6 : decode b_Mo_writeMade 6 = .ok (.aload_n 0, 1) := by decide +kernel
theorem d_Mo_writeMade_7 : decode b_Mo_writeMade 7 = .ok (.iload_n 1, 1) := by decide +kernel
theorem d_Mo_writeMade_8 : decode b_Mo_writeMade 8 = .ok (.sipush 257, 3) := by decide +kernel
theorem d_Mo_writeMade_11 : decode b_Mo_writeMade 11 = .ok (.isub, 1) := by decide +kernel
theorem d_Mo_writeMade_12 : decode b_Mo_writeMade 12 = .ok (.iconst 5, 1) := by decide +kernel
theorem d_Mo_writeMade_13 : decode b_Mo_writeMade 13 = .ok (.invokevirtual 204, 3) := by decide +kernel
theorem d_Mo_writeMade_16 : decode b_Mo_writeMade 16 = .ok (.aload_n 0, 1) := by decide +kernel
theorem d_Mo_writeMade_17 : decode b_Mo_writeMade 17 = .ok (.iload_n 2, 1) := by decide +kernel
theorem d_Mo_writeMade_18 : decode b_Mo_writeMade 18 = .ok (.iconst 1, 1) := by decide +kernel
theorem d_Mo_writeMade_19 : decode b_Mo_writeMade 19 = .ok (.isub, 1) := by decide +kernel
theorem d_Mo_writeMade_20 : decode b_Mo_writeMade 20 = .ok (.iconst 5, 1) := by decide +kernel
theorem d_Mo_writeMade_21 : decode b_Mo_writeMade 21 = .ok (.invokevirtual 204, 3) := by decide +kernel
theorem d_Mo_writeMade_24 : decode b_Mo_writeMade 24 = .ok (.aload_n 0, 1) := by decide +kernel
theorem d_Mo_writeMade_25 : decode b_Mo_writeMade 25 = .ok (.iload_n 3, 1) := by decide +kernel
theorem d_Mo_writeMade_26 : decode b_Mo_writeMade 26 = .ok (.iconst 4, 1) := by decide +kernel
theorem d_Mo_writeMade_27 : decode b_Mo_writeMade 27 = .ok (.isub, 1) := by decide +kernel
theorem d_Mo_writeMade_28 : decode b_Mo_writeMade 28 = .ok (.iconst 4, 1) := by decide +kernel
theorem d_Mo_writeMade_29 : decode b_Mo_writeMade 29 = .ok (.invokevirtual 204, 3) := by decide +kernel
theorem d_Mo_writeMade_32 : decode b_Mo_writeMade 32 = .ok (.iconst 0, 1) := by decide +kernel
theorem d_Mo_writeMade_33 : decode b_Mo_writeMade 33 = .ok (.istore 4, 2) := by decide +kernel
theorem d_Mo_writeMade_35 : decode b_Mo_writeMade 35 = .ok (.iload 4, 2) := by decide +kernel
theorem d_Mo_writeMade_37 : decode b_Mo_writeMade 37 = .ok (.iload_n 3, 1) := by decide +kernel
theorem d_Mo_writeMade_38 : decode b_Mo_writeMade 38 = .ok (.if_icmp .ge 24, 3) := by decide +kernel
theorem d_Mo_writeMade_41 : decode b_Mo_writeMade 41 = .ok (.aload_n 0, 1) := by decide +kernel
theorem d_Mo_writeMade_42 : decode b_Mo_writeMade 42 = .ok (.aload_n 0, 1) := by decide +kernel
theorem d_Mo_writeMade_43 : decode b_Mo_writeMade 43 = .ok (.getfield 22, 3) := by decide +kernel
theorem d_Mo_writeMade_46 : decode b_Mo_writeMade 46 = .ok (.iload 4, 2) := by decide +kernel
theorem d_Mo_writeMade_48 : decode b_Mo_writeMade 48 = .ok (.invokestatic 109, 3) := by decide +kernel
theorem d_Mo_writeMade_51 : decode b_Mo_writeMade 51 = .ok (.iaload, 1) := by decide +kernel
theorem d_Mo_writeMade_52 : decode b_Mo_writeMade 52 = .ok (.iconst 3, 1) := by decide +kernel
theorem d_Mo_writeMade_53 : decode b_Mo_writeMade 53 = .ok (.invokevirtual 204, 3) := by decide +kernel
theorem d_Mo_writeMade_56 : decode b_Mo_writeMade 56 = .ok (.iinc 4 1, 3) := by decide +kernel
theorem d_Mo_writeMade_59 : decode b_Mo_writeMade 59 = .ok (.goto (-24), 3) := by decide +kernel
theorem d_Mo_writeMade_62 : decode b_Mo_writeMade 62 = .ok (.iconst 0, 1) := by decide +kernel
theorem d_Mo_writeMade_63 : decode b_Mo_writeMade 63 = .ok (.istore 4, 2) := by decide +kernel
theorem d_Mo_writeMade_65 : decode b_Mo_writeMade 65 = .ok (.iload 4, 2) := by decide +kernel
theorem d_Mo_writeMade_67 : decode b_Mo_writeMade 67 = .ok (.aload_n 0, 1) := by decide +kernel
theorem d_Mo_writeMade_68 : decode b_Mo_writeMade 68 = .ok (.getfield 184, 3) := by decide +kernel
theorem d_Mo_writeMade_71 : decode b_Mo_writeMade 71 = .ok (.if_icmp .ge 48, 3) := by decide +kernel
theorem d_Mo_writeMade_74 : decode b_Mo_writeMade 74 = .ok (.aload_n 0, 1) := by decide +kernel
theorem d_Mo_writeMade_75 : decode b_Mo_writeMade 75 = .ok (.aload_n 0, 1) := by decide +kernel
theorem d_Mo_writeMade_76 : decode b_Mo_writeMade 76 = .ok (.getfield 22, 3) := by decide +kernel
theorem d_Mo_writeMade_79 : decode b_Mo_writeMade 79 = .ok (.iconst 0, 1) := by decide +kernel
theorem d_Mo_writeMade_80 : decode b_Mo_writeMade 80 = .ok (.bipush 19, 2) := by decide +kernel
theorem d_Mo_writeMade_82 : decode b_Mo_writeMade 82 = .ok (.aload_n 0, 1) := by decide +kernel
theorem d_Mo_writeMade_83 : decode b_Mo_writeMade 83 = .ok (.getfield 40, 3) := by decide +kernel
theorem d_Mo_writeMade_86 : decode b_Mo_writeMade 86 = .ok (.iload 4, 2) := by decide +kernel
theorem d_Mo_writeMade_88 : decode b_Mo_writeMade 88 = .ok (.iaload, 1) := by decide +kernel
theorem d_Mo_writeMade_89 : decode b_Mo_writeMade 89 = .ok (.invokevirtual 201, 3) := by decide +kernel
theorem d_Mo_writeMade_92 : decode b_Mo_writeMade 92 = .ok (.aload_n 0, 1) := by decide +kernel
theorem d_Mo_writeMade_93 : decode b_Mo_writeMade 93 = .ok (.aload_n 0, 1) := by decide +kernel
theorem d_Mo_writeMade_94 : decode b_Mo_writeMade 94 = .ok (.getfield 43, 3) := by decide +kernel
theorem d_Mo_writeMade_97 : decode b_Mo_writeMade 97 = .ok (.iload 4, 2) := by decide +kernel
theorem d_Mo_writeMade_99 : decode b_Mo_writeMade 99 = .ok (.iaload, 1) := by decide +kernel
theorem d_Mo_writeMade_100 : decode b_Mo_writeMade 100 = .ok (.aload_n 0, 1) := by decide +kernel
theorem d_Mo_writeMade_101 : decode b_Mo_writeMade 101 = .ok (.getfield 40, 3) := by decide +kernel
theorem d_Mo_writeMade_104 : decode b_Mo_writeMade 104 = .ok (.iload 4, 2) := by decide +kernel
theorem d_Mo_writeMade_106 : decode b_Mo_writeMade 106 = .ok (.iaload, 1) := by decide +kernel
theorem d_Mo_writeMade_107 : decode b_Mo_writeMade 107 = .ok (.invokestatic 207, 3) := by decide +kernel
theorem d_Mo_writeMade_110 : decode b_Mo_writeMade 110 = .ok (.invokevirtual 204, 3) := by decide +kernel
theorem d_Mo_writeMade_113 : decode b_Mo_writeMade 113 = .ok (.iinc 4 1, 3) := by decide +kernel
theorem d_Mo_writeMade_116 : decode b_Mo_writeMade 116 = .ok (.goto (-51), 3) := by decide +kernel
theorem d_Mo_writeMade_119 : decode b_Mo_writeMade 119 = .ok (.aload_n 0, 1) := by decide +kernel
theorem d_Mo_writeMade_120 : decode b_Mo_writeMade 120 = .ok (.invokevirtual 210, 3) := by decide +kernel
theorem d_Mo_writeMade_123 : decode b_Mo_writeMade 123 = .ok (.return_, 1) := by decide +kernel
theorem d_Mo_packPart_0 : decode b_Mo_packPart 0 = .ok (.aload_n 0, 1) := by decide +kernel
theorem d_Mo_packPart_1 : decode b_Mo_packPart 1 = .ok (.invokevirtual 213, 3) := by decide +kernel
theorem d_Mo_packPart_4 : decode b_Mo_packPart 4 = .ok (.aload_n 0, 1) := by decide +kernel
theorem d_Mo_packPart_5 : decode b_Mo_packPart 5 = .ok (.aload_n 0, 1) := by decide +kernel
theorem d_Mo_packPart_6 : decode b_Mo_packPart 6 = .ok (.getfield 34, 3) := by decide +kernel
theorem d_Mo_packPart_9 : decode b_Mo_packPart 9 = .ok (.iconst 0, 1) := by decide +kernel
theorem d_Mo_packPart_10 : decode b_Mo_packPart 10 = .ok (.sipush 288, 3) := by decide +kernel
theorem d_Mo_packPart_13 : decode b_Mo_packPart 13 = .ok (.bipush 15, 2) := by decide +kernel
theorem d_Mo_packPart_15 : decode b_Mo_packPart 15 = .ok (.aload_n 0, 1) := by decide +kernel
theorem d_Mo_packPart_16 : decode b_Mo_packPart 16 = .ok (.getfield 19, 3) := by decide +kernel
theorem d_Mo_packPart_19 : decode b_Mo_packPart 19 = .ok (.invokevirtual 216, 3) := by decide +kernel
theorem d_Mo_packPart_22 : decode b_Mo_packPart 22 = .ok (.aload_n 0, 1) := by decide +kernel
theorem d_Mo_packPart_23 : decode b_Mo_packPart 23 = .ok (.aload_n 0, 1) := by decide +kernel
theorem d_Mo_packPart_24 : decode b_Mo_packPart 24 = .ok (.getfield 34, 3) := by decide +kernel
theorem d_Mo_packPart_27 : decode b_Mo_packPart 27 = .ok (.sipush 288, 3) := by decide +kernel
theorem d_Mo_packPart_30 : decode b_Mo_packPart 30 = .ok (.bipush 32, 2) := by decide +kernel
theorem d_Mo_packPart_32 : decode b_Mo_packPart 32 = .ok (.bipush 15, 2) := by decide +kernel
theorem d_Mo_packPart_34 : decode b_Mo_packPart 34 = .ok (.aload_n 0, 1) := by decide +kernel
theorem d_Mo_packPart_35 : decode b_Mo_packPart 35 = .ok (.getfield 19, 3) := by decide +kernel
theorem d_Mo_packPart_38 : decode b_Mo_packPart 38 = .ok (.invokevirtual 216, 3) := by decide +kernel
theorem d_Mo_packPart_41 : decode b_Mo_packPart 41 = .ok (.iconst 0, 1) := by decide +kernel
theorem d_Mo_packPart_42 : decode b_Mo_packPart 42 = .ok (.istore 4, 2) := by decide +kernel
theorem d_Mo_packPart_44 : decode b_Mo_packPart 44 = .ok (.iload 4, 2) := by decide +kernel
theorem d_Mo_packPart_46 : decode b_Mo_packPart 46 = .ok (.sipush 320, 3) := by decide +kernel
theorem d_Mo_packPart_49 : decode b_Mo_packPart 49 = .ok (.if_icmp .ge 23, 3) := by decide +kernel
theorem d_Mo_packPart_52 : decode b_Mo_packPart 52 = .ok (.aload_n 0, 1) := by decide +kernel
theorem d_Mo_packPart_53 : decode b_Mo_packPart 53 = .ok (.getfield 62, 3) := by decide +kernel
theorem d_Mo_packPart_56 : decode b_Mo_packPart 56 = .ok (.iload 4, 2) := by decide +kernel
theorem d_Mo_packPart_58 : decode b_Mo_packPart 58 = .ok (.aload_n 0, 1) := by decide +kernel
theorem d_Mo_packPart_59 : decode b_Mo_packPart 59 = .ok (.getfield 19, 3) := by decide +kernel
theorem d_Mo_packPart_62 : decode b_Mo_packPart 62 = .ok (.iload 4, 2) := by decide +kernel
theorem d_Mo_packPart_64 : decode b_Mo_packPart 64 = .ok (.iaload, 1) := by decide +kernel
theorem d_Mo_packPart_65 : decode b_Mo_packPart 65 = .ok (.iastore, 1) := by decide +kernel
theorem d_Mo_packPart_66 : decode b_Mo_packPart 66 = .ok (.iinc 4 1, 3) := by decide +kernel
theorem d_Mo_packPart_69 : decode b_Mo_packPart 69 = .ok (.goto (-25), 3) := by decide +kernel
theorem d_Mo_packPart_72 : decode b_Mo_packPart 72 = .ok (.aload_n 0, 1) := by decide +kernel
theorem d_Mo_packPart_73 : decode b_Mo_packPart 73 = .ok (.getfield 19, 3) := by decide +kernel
theorem d_Mo_packPart_76 : decode b_Mo_packPart 76 = .ok (.iconst 0, 1) := by decide +kernel
theorem d_Mo_packPart_77 : decode b_Mo_packPart 77 = .ok (.sipush 286, 3) := by decide +kernel
theorem d_Mo_packPart_80 : decode b_Mo_packPart 80 = .ok (.sipush 257, 3) := by decide +kernel
theorem d_Mo_packPart_83 : decode b_Mo_packPart 83 = .ok (.invokestatic 220, 3) := by decide +kernel
theorem d_Mo_packPart_86 : decode b_Mo_packPart 86 = .ok (.istore 4, 2) := by decide +kernel
theorem d_Mo_packPart_88 : decode b_Mo_packPart 88 = .ok (.aload_n 0, 1) := by decide +kernel
theorem d_Mo_packPart_89 : decode b_Mo_packPart 89 = .ok (.getfield 19, 3) := by decide +kernel
theorem d_Mo_packPart_92 : decode b_Mo_packPart 92 = .ok (.sipush 288, 3) := by decide +kernel
theorem d_Mo_packPart_95 : decode b_Mo_packPart 95 = .ok (.bipush 30, 2) := by decide +kernel
theorem d_Mo_packPart_97 : decode b_Mo_packPart 97 = .ok (.iconst 1, 1) := by decide +kernel
theorem d_Mo_packPart_98 : decode b_Mo_packPart 98 = .ok (.invokestatic 220, 3) := by decide +kernel
theorem d_Mo_packPart_101 : decode b_Mo_packPart 101 = .ok (.istore 5, 2) := by decide +kernel
theorem d_Mo_packPart_103 : decode b_Mo_packPart 103 = .ok (.iconst 0, 1) := by decide +kernel
theorem d_Mo_packPart_104 : decode b_Mo_packPart 104 = .ok (.istore 6, 2) := by decide +kernel
theorem d_Mo_packPart_106 : decode b_Mo_packPart 106 = .ok (.iload 6, 2) := by decide +kernel
theorem d_Mo_packPart_108 : decode b_Mo_packPart 108 = .ok (.iload 4, 2) := by decide +kernel
theorem d_Mo_packPart_110 : decode b_Mo_packPart 110 = .ok (.iload 5, 2) := by decide +kernel
theorem d_Mo_packPart_112 : decode b_Mo_packPart 112 = .ok (.iadd, 1) := by decide +kernel
theorem d_Mo_packPart_113 : decode b_Mo_packPart 113 = .ok (.if_icmp .ge 47, 3) := by decide +kernel
theorem d_Mo_packPart_116 : decode b_Mo_packPart 116 = .ok (.aload_n 0, 1) := by decide +kernel
theorem d_Mo_packPart_117 : decode b_Mo_packPart 117 = .ok (.getfield 25, 3) := by decide +kernel
theorem d_Mo_packPart_120 : decode b_Mo_packPart 120 = .ok (.iload 6, 2) := by decide +kernel
theorem d_Mo_packPart_122 : decode b_Mo_packPart 122 = .ok (.iload 6, 2) := by decide +kernel
theorem d_Mo_packPart_124 : decode b_Mo_packPart 124 = .ok (.iload 4, 2) := by decide +kernel
theorem d_Mo_packPart_126 : decode b_Mo_packPart 126 = .ok (.if_icmp .ge 13, 3) := by decide +kernel
theorem d_Mo_packPart_129 : decode b_Mo_packPart 129 = .ok (.aload_n 0, 1) := by decide +kernel
theorem d_Mo_packPart_130 : decode b_Mo_packPart 130 = .ok (.getfield 19, 3) := by decide +kernel
theorem d_Mo_packPart_133 : decode b_Mo_packPart 133 = .ok (.iload 6, 2) := by decide +kernel
theorem d_Mo_packPart_135 : decode b_Mo_packPart 135 = .ok (.iaload, 1) := by decide +kernel
theorem d_Mo_packPart_136 : decode b_Mo_packPart 136 = .ok (.goto 17, 3) := by decide +kernel
theorem d_Mo_packPart_139 : decode b_Mo_packPart 139 = .ok (.aload_n 0, 1) := by decide +kernel
theorem d_Mo_packPart_140 : decode b_Mo_packPart 140 = .ok (.getfield 19, 3) := by decide +kernel
theorem d_Mo_packPart_143 : decode b_Mo_packPart 143 = .ok (.sipush 288, 3) := by decide +kernel
theorem d_Mo_packPart_146 : decode b_Mo_packPart 146 = .ok (.iload 6, 2) := by decide +kernel
theorem d_Mo_packPart_148 : decode b_Mo_packPart 148 = .ok (.iadd, 1) := by decide +kernel
theorem d_Mo_packPart_149 : decode b_Mo_packPart 149 = .ok (.iload 4, 2) := by decide +kernel
theorem d_Mo_packPart_151 : decode b_Mo_packPart 151 = .ok (.isub, 1) := by decide +kernel
theorem d_Mo_packPart_152 : decode b_Mo_packPart 152 = .ok (.iaload, 1) := by decide +kernel
theorem d_Mo_packPart_153 : decode b_Mo_packPart 153 = .ok (.iastore, 1) := by decide +kernel
theorem d_Mo_packPart_154 : decode b_Mo_packPart 154 = .ok (.iinc 6 1, 3) := by decide +kernel
theorem d_Mo_packPart_157 : decode b_Mo_packPart 157 = .ok (.goto (-51), 3) := by decide +kernel
theorem d_Mo_packPart_160 : decode b_Mo_packPart 160 = .ok (.aload_n 0, 1) := by decide +kernel
theorem d_Mo_packPart_161 : decode b_Mo_packPart 161 = .ok (.iload 4, 2) := by decide +kernel
theorem d_Mo_packPart_163 : decode b_Mo_packPart 163 = .ok (.iload 5, 2) := by decide +kernel
theorem d_Mo_packPart_165 : decode b_Mo_packPart 165 = .ok (.iadd, 1) := by decide +kernel
theorem d_Mo_packPart_166 : decode b_Mo_packPart 166 = .ok (.invokevirtual 223, 3) := by decide +kernel
theorem d_Mo_packPart_169 : decode b_Mo_packPart 169 = .ok (.aload_n 0, 1) := by decide +kernel
theorem d_Mo_packPart_170 : decode b_Mo_packPart 170 = .ok (.aload_n 0, 1) := by decide +kernel
theorem d_Mo_packPart_171 : decode b_Mo_packPart 171 = .ok (.getfield 37, 3) := by decide +kernel
theorem d_Mo_packPart_174 : decode b_Mo_packPart 174 = .ok (.iconst 0, 1) := by decide +kernel
theorem d_Mo_packPart_175 : decode b_Mo_packPart 175 = .ok (.bipush 19, 2) := by decide +kernel
theorem d_Mo_packPart_177 : decode b_Mo_packPart 177 = .ok (.bipush 7, 2) := by decide +kernel
theorem d_Mo_packPart_179 : decode b_Mo_packPart 179 = .ok (.aload_n 0, 1) := by decide +kernel
theorem d_Mo_packPart_180 : decode b_Mo_packPart 180 = .ok (.getfield 22, 3) := by decide +kernel
theorem d_Mo_packPart_183 : decode b_Mo_packPart 183 = .ok (.invokevirtual 216, 3) := by decide +kernel
theorem d_Mo_packPart_186 : decode b_Mo_packPart 186 = .ok (.bipush 19, 2) := by decide +kernel
theorem d_Mo_packPart_188 : decode b_Mo_packPart 188 = .ok (.istore 6, 2) := by decide +kernel
theorem d_Mo_packPart_190 : decode b_Mo_packPart 190 = .ok (.iload 6, 2) := by decide +kernel
theorem d_Mo_packPart_192 : decode b_Mo_packPart 192 = .ok (.iconst 4, 1) := by decide +kernel
theorem d_Mo_packPart_193 : decode b_Mo_packPart 193 = .ok (.if_icmp .le 24, 3) := by decide +kernel
theorem d_Mo_packPart_196 : decode b_Mo_packPart 196 = .ok (.aload_n 0, 1) := by decide +kernel
theorem d_Mo_packPart_197 : decode b_Mo_packPart 197 = .ok (.getfield 22, 3) := by decide +kernel
theorem d_Mo_packPart_200 : decode b_Mo_packPart 200 = .ok (.iload 6, 2) := by decide +kernel
theorem d_Mo_packPart_202 : decode b_Mo_packPart 202 = .ok (.iconst 1, 1) := by decide +kernel
theorem d_Mo_packPart_203 : decode b_Mo_packPart 203 = .ok (.isub, 1) := by decide +kernel
theorem d_Mo_packPart_204 : decode b_Mo_packPart 204 = .ok (.invokestatic 109, 3) := by decide +kernel
theorem d_Mo_packPart_207 : decode b_Mo_packPart 207 = .ok (.iaload, 1) := by decide +kernel
theorem d_Mo_packPart_208 : decode b_Mo_packPart 208 = .ok (.ifCond .ne 9, 3) := by decide +kernel
theorem d_Mo_packPart_211 : decode b_Mo_packPart 211 = .ok (.iinc 6 (-1), 3) := by decide +kernel
theorem d_Mo_packPart_214 : decode b_Mo_packPart 214 = .ok (.goto (-24), 3) := by decide +kernel
theorem d_Mo_packPart_217 : decode b_Mo_packPart 217 = .ok (.bipush 17, 2) := by decide +kernel
theorem d_Mo_packPart_219 : decode b_Mo_packPart 219 = .ok (.iconst 3, 1) := by decide +kernel
theorem d_Mo_packPart_220 : decode b_Mo_packPart 220 = .ok (.iload 6, 2) := by decide +kernel
theorem d_Mo_packPart_222 : decode b_Mo_packPart 222 = .ok (.imul, 1) := by decide +kernel
theorem d_Mo_packPart_223 : decode b_Mo_packPart 223 = .ok (.iadd, 1) := by decide +kernel
theorem d_Mo_packPart_224 : decode b_Mo_packPart 224 = .ok (.aload_n 0, 1) := by decide +kernel
theorem d_Mo_packPart_225 : decode b_Mo_packPart 225 = .ok (.aload_n 0, 1) := by decide +kernel
theorem d_Mo_packPart_226 : decode b_Mo_packPart 226 = .ok (.getfield 19, 3) := by decide +kernel
theorem d_Mo_packPart_229 : decode b_Mo_packPart 229 = .ok (.invokevirtual 226, 3) := by decide +kernel
theorem d_Mo_packPart_232 : decode b_Mo_packPart 232 = .ok (.iadd, 1) := by decide +kernel
theorem d_Mo_packPart_233 : decode b_Mo_packPart 233 = .ok (.istore 7, 2) := by decide +kernel
theorem d_Mo_packPart_235 : decode b_Mo_packPart 235 = .ok (.iconst 0, 1) := by decide +kernel
theorem d_Mo_packPart_236 : decode b_Mo_packPart 236 = .ok (.istore 8, 2) := by decide +kernel
theorem d_Mo_packPart_238 : decode b_Mo_packPart 238 = .ok (.iload 8, 2) := by decide +kernel
theorem d_Mo_packPart_240 : decode b_Mo_packPart 240 = .ok (.aload_n 0, 1) := by decide +kernel
theorem d_Mo_packPart_241 : decode b_Mo_packPart 241 = .ok (.getfield 184, 3) := by decide +kernel
theorem d_Mo_packPart_244 : decode b_Mo_packPart 244 = .ok (.if_icmp .ge 37, 3) := by decide +kernel
theorem d_Mo_packPart_247 : decode b_Mo_packPart 247 = .ok (.iload 7, 2) := by decide +kernel
theorem d_Mo_packPart_249 : decode b_Mo_packPart 249 = .ok (.aload_n 0, 1) := by decide +kernel
theorem d_Mo_packPart_250 : decode b_Mo_packPart 250 = .ok (.getfield 22, 3) := by decide +kernel
theorem d_Mo_packPart_253 : decode b_Mo_packPart 253 = .ok (.aload_n 0, 1) := by decide +kernel
theorem d_Mo_packPart_254 : decode b_Mo_packPart 254 = .ok (.getfield 40, 3) := by decide +kernel
theorem d_Mo_packPart_257 : decode b_Mo_packPart 257 = .ok (.iload 8, 2) := by decide +kernel
theorem d_Mo_packPart_259 : decode b_Mo_packPart 259 = .ok (.iaload, 1) := by decide +kernel
theorem d_Mo_packPart_260 : decode b_Mo_packPart 260 = .ok (.iaload, 1) := by decide +kernel
theorem d_Mo_packPart_261 : decode b_Mo_packPart 261 = .ok (.iadd, 1) := by decide +kernel
theorem d_Mo_packPart_262 : decode b_Mo_packPart 262 = .ok (.aload_n 0, 1) := by decide +kernel
theorem d_Mo_packPart_263 : decode b_Mo_packPart 263 = .ok (.getfield 40, 3) := by decide +kernel
theorem d_Mo_packPart_266 : decode b_Mo_packPart 266 = .ok (.iload 8, 2) := by decide +kernel
theorem d_Mo_packPart_268 : decode b_Mo_packPart 268 = .ok (.iaload, 1) := by decide +kernel
theorem d_Mo_packPart_269 : decode b_Mo_packPart 269 = .ok (.invokestatic 207, 3) := by decide +kernel
theorem d_Mo_packPart_272 : decode b_Mo_packPart 272 = .ok (.iadd, 1) := by decide +kernel
theorem d_Mo_packPart_273 : decode b_Mo_packPart 273 = .ok (.istore 7, 2) := by decide +kernel
theorem d_Mo_packPart_275 : decode b_Mo_packPart 275 = .ok (.iinc 8 1, 3) := by decide +kernel
theorem d_Mo_packPart_278 : decode b_Mo_packPart 278 = .ok (.goto (-40), 3) := by decide +kernel
theorem d_Mo_packPart_281 : decode b_Mo_packPart 281 = .ok (.aload_n 0, 1) := by decide +kernel
theorem d_Mo_packPart_282 : decode b_Mo_packPart 282 = .ok (.invokevirtual 148, 3) := by decide +kernel
theorem d_Mo_packPart_285 : decode b_Mo_packPart 285 = .ok (.iconst 3, 1) := by decide +kernel
theorem d_Mo_packPart_286 : decode b_Mo_packPart 286 = .ok (.aload_n 0, 1) := by decide +kernel
theorem d_Mo_packPart_287 : decode b_Mo_packPart 287 = .ok (.aload_n 0, 1) := by decide +kernel
theorem d_Mo_packPart_288 : decode b_Mo_packPart 288 = .ok (.getfield 19, 3) := by decide +kernel
theorem d_Mo_packPart_291 : decode b_Mo_packPart 291 = .ok (.invokevirtual 226, 3) := by decide +kernel
theorem d_Mo_packPart_294 : decode b_Mo_packPart 294 = .ok (.iadd, 1) := by decide +kernel
theorem d_Mo_packPart_295 : decode b_Mo_packPart 295 = .ok (.istore 8, 2) := by decide +kernel
theorem d_Mo_packPart_297 : decode b_Mo_packPart 297 = .ok (.iconst 3, 1) := by decide +kernel
theorem d_Mo_packPart_298 : decode b_Mo_packPart 298 = .ok (.bipush 13, 2) := by decide +kernel
theorem d_Mo_packPart_300 : decode b_Mo_packPart 300 = .ok (.aload_n 0, 1) := by decide +kernel
theorem d_Mo_packPart_301 : decode b_Mo_packPart 301 = .ok (.getfield 191, 3) := by decide +kernel
theorem d_Mo_packPart_304 : decode b_Mo_packPart 304 = .ok (.bipush 8, 2) := by decide +kernel
theorem d_Mo_packPart_306 : decode b_Mo_packPart 306 = .ok (.irem, 1) := by decide +kernel
theorem d_Mo_packPart_307 : decode b_Mo_packPart 307 = .ok (.isub, 1) := by decide +kernel
theorem d_Mo_packPart_308 : decode b_Mo_packPart 308 = .ok (.bipush 8, 2) := by decide +kernel
theorem d_Mo_packPart_310 : decode b_Mo_packPart 310 = .ok (.irem, 1) := by decide +kernel
theorem d_Mo_packPart_311 : decode b_Mo_packPart 311 = .ok (.iadd, 1) := by decide +kernel
theorem d_Mo_packPart_312 : decode b_Mo_packPart 312 = .ok (.bipush 32, 2) := by decide +kernel
theorem d_Mo_packPart_314 : decode b_Mo_packPart 314 = .ok (.iadd, 1) := by decide +kernel
theorem d_Mo_packPart_315 : decode b_Mo_packPart 315 = .ok (.bipush 8, 2) := by decide +kernel
theorem d_Mo_packPart_317 : decode b_Mo_packPart 317 = .ok (.iload_n 2, 1) := by decide +kernel
theorem d_Mo_packPart_318 : decode b_Mo_packPart 318 = .ok (.iload_n 1, 1) := by decide +kernel
theorem d_Mo_packPart_319 : decode b_Mo_packPart 319 = .ok (.isub, 1) := by decide +kernel
theorem d_Mo_packPart_320 : decode b_Mo_packPart 320 = .ok (.imul, 1) := by decide +kernel
theorem d_Mo_packPart_321 : decode b_Mo_packPart 321 = .ok (.iadd, 1) := by decide +kernel
theorem d_Mo_packPart_322 : decode b_Mo_packPart 322 = .ok (.istore 9, 2) := by decide +kernel
theorem d_Mo_packPart_324 : decode b_Mo_packPart 324 = .ok (.aload_n 0, 1) := by decide +kernel
theorem d_Mo_packPart_325 : decode b_Mo_packPart 325 = .ok (.iload_n 3, 1) := by decide +kernel
theorem d_Mo_packPart_326 : decode b_Mo_packPart 326 = .ok (.ifCond .eq 7, 3) := by decide +kernel
theorem d_Mo_packPart_329 : decode b_Mo_packPart 329 = .ok (.iconst 1, 1) := by decide +kernel
theorem d_Mo_packPart_330 : decode b_Mo_packPart 330 = .ok (.goto 4, 3) := by decide +kernel
theorem d_Mo_packPart_333 : decode b_Mo_packPart 333 = .ok (.iconst 0, 1) := by decide +kernel
theorem d_Mo_packPart_334 : decode b_Mo_packPart 334 = .ok (.invokevirtual 194, 3) := by decide +kernel
theorem d_Mo_packPart_337 : decode b_Mo_packPart 337 = .ok (.iload 9, 2) := by decide +kernel
theorem d_Mo_packPart_339 : decode b_Mo_packPart 339 = .ok (.iload 8, 2) := by decide +kernel
theorem d_Mo_packPart_341 : decode b_Mo_packPart 341 = .ok (.if_icmp .gt 29, 3) := by decide +kernel
theorem d_Mo_packPart_344 : decode b_Mo_packPart 344 = .ok (.iload 9, 2) := by decide +kernel
theorem d_Mo_packPart_346 : decode b_Mo_packPart 346 = .ok (.iload 7, 2) := by decide +kernel
theorem d_Mo_packPart_348 : decode b_Mo_packPart 348 = .ok (.if_icmp .gt 22, 3) := by decide +kernel
theorem d_Mo_packPart_351 : decode b_Mo_packPart 351 = .ok (.aload_n 0, 1) := by decide +kernel
theorem d_Mo_packPart_352 : decode b_Mo_packPart 352 = .ok (.getfield 16, 3) := by decide +kernel
theorem d_Mo_packPart_355 : decode b_Mo_packPart 355 = .ok (.iconst 1, 1) := by decide +kernel
theorem d_Mo_packPart_356 : decode b_Mo_packPart 356 = .ok (.dup2, 1) := by decide +kernel
theorem d_Mo_packPart_357 : decode b_Mo_packPart 357 = .ok (.iaload, 1) := by decide +kernel
theorem d_Mo_packPart_358 : decode b_Mo_packPart 358 = .ok (.iconst 1, 1) := by decide +kernel
theorem d_Mo_packPart_359 : decode b_Mo_packPart 359 = .ok (.iadd, 1) := by decide +kernel
theorem d_Mo_packPart_360 : decode b_Mo_packPart 360 = .ok (.iastore, 1) := by decide +kernel
theorem d_Mo_packPart_361 : decode b_Mo_packPart 361 = .ok (.aload_n 0, 1) := by decide +kernel
theorem d_Mo_packPart_362 : decode b_Mo_packPart 362 = .ok (.iload_n 1, 1) := by decide +kernel
theorem d_Mo_packPart_363 : decode b_Mo_packPart 363 = .ok (.iload_n 2, 1) := by decide +kernel
theorem d_Mo_packPart_364 : decode b_Mo_packPart 364 = .ok (.invokevirtual 230, 3) := by decide +kernel
theorem d_Mo_packPart_367 : decode b_Mo_packPart 367 = .ok (.goto 84, 3) := by decide +kernel
theorem d_Mo_packPart_370 : decode b_Mo_packPart 370 = .ok (.iload 8, 2) := by decide +kernel
theorem d_Mo_packPart_372 : decode b_Mo_packPart 372 = .ok (.iload 7, 2) := by decide +kernel
theorem d_Mo_packPart_374 : decode b_Mo_packPart 374 = .ok (.if_icmp .gt 26, 3) := by decide +kernel
theorem d_Mo_packPart_377 : decode b_Mo_packPart 377 = .ok (.aload_n 0, 1) := by decide +kernel
theorem d_Mo_packPart_378 : decode b_Mo_packPart 378 = .ok (.getfield 16, 3) := by decide +kernel
theorem d_Mo_packPart_381 : decode b_Mo_packPart 381 = .ok (.iconst 2, 1) := by decide +kernel
theorem d_Mo_packPart_382 : decode b_Mo_packPart 382 = .ok (.dup2, 1) := by decide +kernel
theorem d_Mo_packPart_383 : decode b_Mo_packPart 383 = .ok (.iaload, 1) := by decide +kernel
theorem d_Mo_packPart_384 : decode b_Mo_packPart 384 = .ok (.iconst 1, 1) := by decide +kernel
theorem d_Mo_packPart_385 : decode b_Mo_packPart 385 = .ok (.iadd, 1) := by decide +kernel
theorem d_Mo_packPart_386 : decode b_Mo_packPart 386 = .ok (.iastore, 1) := by decide +kernel
theorem d_Mo_packPart_387 : decode b_Mo_packPart 387 = .ok (.aload_n 0, 1) := by decide +kernel
theorem d_Mo_packPart_388 : decode b_Mo_packPart 388 = .ok (.iconst 1, 1) := by decide +kernel
theorem d_Mo_packPart_389 : decode b_Mo_packPart 389 = .ok (.iconst 2, 1) := by decide +kernel
theorem d_Mo_packPart_390 : decode b_Mo_packPart 390 = .ok (.invokevirtual 204, 3) := by decide +kernel
theorem d_Mo_packPart_393 : decode b_Mo_packPart 393 = .ok (.aload_n 0, 1) := by decide +kernel
theorem d_Mo_packPart_394 : decode b_Mo_packPart 394 = .ok (.invokevirtual 210, 3) := by decide +kernel
theorem d_Mo_packPart_397 : decode b_Mo_packPart 397 = .ok (.goto 54, 3) := by decide +kernel
theorem d_Mo_packPart_400 : decode b_Mo_packPart 400 = .ok (.aload_n 0, 1) := by decide +kernel
theorem d_Mo_packPart_401 : decode b_Mo_packPart 401 = .ok (.getfield 16, 3) := by decide +kernel
theorem d_Mo_packPart_404 : decode b_Mo_packPart 404 = .ok (.iconst 3, 1) := by decide +kernel
theorem d_Mo_packPart_405 : decode b_Mo_packPart 405 = .ok (.dup2, 1) := by decide +kernel
theorem d_Mo_packPart_406 : decode b_Mo_packPart 406 = .ok (.iaload, 1) := by decide +kernel
theorem d_Mo_packPart_407 : decode b_Mo_packPart 407 = .ok (.iconst 1, 1) := by decide +kernel
theorem d_Mo_packPart_408 : decode b_Mo_packPart 408 = .ok (.iadd, 1) := by decide +kernel
theorem d_Mo_packPart_409 : decode b_Mo_packPart 409 = .ok (.iastore, 1) := by decide +kernel
theorem d_Mo_packPart_410 : decode b_Mo_packPart 410 = .ok (.iconst 0, 1) := by decide +kernel
theorem d_Mo_packPart_411 : decode b_Mo_packPart 411 = .ok (.istore 10, 2) := by decide +kernel
theorem d_Mo_packPart_413 : decode b_Mo_packPart 413 = .ok (.iload 10, 2) := by decide +kernel
theorem d_Mo_packPart_415 : decode b_Mo_packPart 415 = .ok (.sipush 320, 3) := by decide +kernel
theorem d_Mo_packPart_418 : decode b_Mo_packPart 418 = .ok (.if_icmp .ge 23, 3) := by decide +kernel
theorem d_Mo_packPart_421 : decode b_Mo_packPart 421 = .ok (.aload_n 0, 1) := by decide +kernel
theorem d_Mo_packPart_422 : decode b_Mo_packPart 422 = .ok (.getfield 19, 3) := by decide +kernel
theorem d_Mo_packPart_425 : decode b_Mo_packPart 425 = .ok (.iload 10, 2) := by decide +kernel
theorem d_Mo_packPart_427 : decode b_Mo_packPart 427 = .ok (.aload_n 0, 1) := by decide +kernel
theorem d_Mo_packPart_428 : decode b_Mo_packPart 428 = .ok (.getfield 62, 3) := by decide +kernel
theorem d_Mo_packPart_431 : decode b_Mo_packPart 431 = .ok (.iload 10, 2) := by decide +kernel
theorem d_Mo_packPart_433 : decode b_Mo_packPart 433 = .ok (.iaload, 1) := by decide +kernel
theorem d_Mo_packPart_434 : decode b_Mo_packPart 434 = .ok (.iastore, 1) := by decide +kernel
theorem d_Mo_packPart_435 : decode b_Mo_packPart 435 = .ok (.iinc 10 1, 3) := by decide +kernel
theorem d_Mo_packPart_438 : decode b_Mo_packPart 438 = .ok (.goto (-25), 3) := by decide +kernel
theorem d_Mo_packPart_441 : decode b_Mo_packPart 441 = .ok (.aload_n 0, 1) := by decide +kernel
theorem d_Mo_packPart_442 : decode b_Mo_packPart 442 = .ok (.iload 4, 2) := by decide +kernel
theorem d_Mo_packPart_444 : decode b_Mo_packPart 444 = .ok (.iload 5, 2) := by decide +kernel
theorem d_Mo_packPart_446 : decode b_Mo_packPart 446 = .ok (.iload 6, 2) := by decide +kernel
theorem d_Mo_packPart_448 : decode b_Mo_packPart 448 = .ok (.invokevirtual 233, 3) := by decide +kernel
theorem d_Mo_packPart_451 : decode b_Mo_packPart 451 = .ok (.return_, 1) := by decide +kernel
theorem d_Mo_pack_0 : decode b_Mo_pack 0 = .ok (.iload_n 1, 1) := by decide +kernel
theorem d_Mo_pack_1 : decode b_Mo_pack 1 = .ok (.ifCond .lt 10, 3) := by decide +kernel
theorem d_Mo_pack_4 : decode b_Mo_pack 4 = .ok (.iload_n 1, 1) := by decide +kernel
theorem d_Mo_pack_5 : decode b_Mo_pack 5 = .ok (.sipush 128, 3) := by decide +kernel
theorem d_Mo_pack_8 : decode b_Mo_pack 8 = .ok (.if_icmp .le 6, 3) := by decide +kernel
theorem d_Mo_pack_11 : decode b_Mo_pack 11 = .ok (.bipush (-2), 2) := by decide +kernel
theorem d_Mo_pack_13 : decode b_Mo_pack 13 = .ok (.ireturn, 1) := by decide +kernel
theorem d_Mo_pack_14 : decode b_Mo_pack 14 = .ok (.iconst 0, 1) := by decide +kernel
theorem d_Mo_pack_15 : decode b_Mo_pack 15 = .ok (.istore_n 3, 1) := by decide +kernel
theorem d_Mo_pack_16 : decode b_Mo_pack 16 = .ok (.iload_n 3, 1) := by decide +kernel
theorem d_Mo_pack_17 : decode b_Mo_pack 17 = .ok (.bipush 6, 2) := by decide +kernel
theorem d_Mo_pack_19 : decode b_Mo_pack 19 = .ok (.if_icmp .ge 16, 3) := by decide +kernel
theorem d_Mo_pack_22 : decode b_Mo_pack 22 = .ok (.aload_n 0, 1) := by decide +kernel
theorem d_Mo_pack_23 : decode b_Mo_pack 23 = .ok (.getfield 16, 3) := by decide +kernel
theorem d_Mo_pack_26 : decode b_Mo_pack 26 = .ok (.iload_n 3, 1) := by decide +kernel
theorem d_Mo_pack_27 : decode b_Mo_pack 27 = .ok (.iconst 0, 1) := by decide +kernel
theorem d_Mo_pack_28 : decode b_Mo_pack 28 = .ok (.iastore, 1) := by decide +kernel
theorem d_Mo_pack_29 : decode b_Mo_pack 29 = .ok (.iinc 3 1, 3) := by decide +kernel
theorem d_Mo_pack_32 : decode b_Mo_pack 32 = .ok (.goto (-16), 3) := by decide +kernel
theorem d_Mo_pack_35 : decode b_Mo_pack 35 = .ok (.aload_n 0, 1) := by decide +kernel
theorem d_Mo_pack_36 : decode b_Mo_pack 36 = .ok (.iconst 2, 1) := by decide +kernel
theorem d_Mo_pack_37 : decode b_Mo_pack 37 = .ok (.putfield 72, 3) := by decide +kernel
theorem d_Mo_pack_40 : decode b_Mo_pack 40 = .ok (.aload_n 0, 1) := by decide +kernel
theorem d_Mo_pack_41 : decode b_Mo_pack 41 = .ok (.getfield 13, 3) := by decide +kernel
theorem d_Mo_pack_44 : decode b_Mo_pack 44 = .ok (.iconst 0, 1) := by decide +kernel
theorem d_Mo_pack_45 : decode b_Mo_pack 45 = .ok (.bipush 120, 2) := by decide +kernel
theorem d_Mo_pack_47 : decode b_Mo_pack 47 = .ok (.iastore, 1) := by decide +kernel
theorem d_Mo_pack_48 : decode b_Mo_pack 48 = .ok (.aload_n 0, 1) := by decide +kernel
theorem d_Mo_pack_49 : decode b_Mo_pack 49 = .ok (.getfield 13, 3) := by decide +kernel
theorem d_Mo_pack_52 : decode b_Mo_pack 52 = .ok (.iconst 1, 1) := by decide +kernel
theorem d_Mo_pack_53 : decode b_Mo_pack 53 = .ok (.sipush 156, 3) := by decide +kernel
theorem d_Mo_pack_56 : decode b_Mo_pack 56 = .ok (.iastore, 1) := by decide +kernel
theorem d_Mo_pack_57 : decode b_Mo_pack 57 = .ok (.aload_n 0, 1) := by decide +kernel
theorem d_Mo_pack_58 : decode b_Mo_pack 58 = .ok (.bipush 16, 2) := by decide +kernel
