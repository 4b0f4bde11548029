theorem d_Mo_fill_77 : decode b_Mo_fill 77 = .ok (.istore 4, 2) := by decide +kernel
theorem d_Mo_fill_79 : decode b_Mo_fill 79 = .ok (.aload_n 0, 1) := by decide +kernel
theorem d_Mo_fill_80 : decode b_Mo_fill 80 = .ok (.getfield 7, 3) := by decide +kernel
theorem d_Mo_fill_83 : decode b_Mo_fill 83 = .ok (.aload_n 0, 1) := by decide +kernel
theorem d_Mo_fill_84 : decode b_Mo_fill 84 = .ok (.getfield 65, 3) := by decide +kernel
theorem d_Mo_fill_87 : decode b_Mo_fill 87 = .ok (.iload_n 1, 1) := by decide +kernel
theorem d_Mo_fill_88 : decode b_Mo_fill 88 = .ok (.ifCond .ne 11, 3) := by decide +kernel
theorem d_Mo_fill_91 : decode b_Mo_fill 91 = .ok (.iload_n 2, 1) := by decide +kernel
theorem d_Mo_fill_92 : decode b_Mo_fill 92 = .ok (.sipush 255, 3) := by decide +kernel
theorem d_Mo_fill_95 : decode b_Mo_fill 95 = .ok (.iand, 1) := by decide +kernel
theorem d_Mo_fill_96 : decode b_Mo_fill 96 = .ok (.goto 47, 3) := by decide +kernel
theorem d_Mo_fill_99 : decode b_Mo_fill 99 = .ok (.iload_n 1, 1) := by decide +kernel
theorem d_Mo_fill_100 : decode b_Mo_fill 100 = .ok (.iconst 1, 1) := by decide +kernel
theorem d_Mo_fill_101 : decode b_Mo_fill 101 = .ok (.if_icmp .ne 15, 3) := by decide +kernel
theorem d_Mo_fill_104 : decode b_Mo_fill 104 = .ok (.iload 4, 2) := by decide +kernel
theorem d_Mo_fill_106 : decode b_Mo_fill 106 = .ok (.bipush 16, 2) := by decide +kernel
theorem d_Mo_fill_108 : decode b_Mo_fill 108 = .ok (.ishr, 1) := by decide +kernel
theorem d_Mo_fill_109 : decode b_Mo_fill 109 = .ok (.sipush 255, 3) := by decide +kernel
theorem d_Mo_fill_112 : decode b_Mo_fill 112 = .ok (.iand, 1) := by decide +kernel
theorem d_Mo_fill_113 : decode b_Mo_fill 113 = .ok (.goto 30, 3) := by decide +kernel
theorem d_Mo_fill_116 : decode b_Mo_fill 116 = .ok (.iload_n 1, 1) := by decide +kernel
theorem d_Mo_fill_117 : decode b_Mo_fill 117 = .ok (.iconst 2, 1) := by decide +kernel
theorem d_Mo_fill_118 : decode b_Mo_fill 118 = .ok (.if_icmp .ne 16, 3) := by decide +kernel
theorem d_Mo_fill_121 : decode b_Mo_fill 121 = .ok (.bipush 97, 2) := by decide +kernel
theorem d_Mo_fill_123 : decode b_Mo_fill 123 = .ok (.iload 4, 2) := by decide +kernel
theorem d_Mo_fill_125 : decode b_Mo_fill 125 = .ok (.bipush 16, 2) := by decide +kernel
theorem d_Mo_fill_127 : decode b_Mo_fill 127 = .ok (.ishr, 1) := by decide +kernel
theorem d_Mo_fill_128 : decode b_Mo_fill 128 = .ok (.iconst 3, 1) := by decide +kernel
theorem d_Mo_fill_129 : decode b_Mo_fill 129 = .ok (.iand, 1) := by decide +kernel
theorem d_Mo_fill_130 : decode b_Mo_fill 130 = .ok (.iadd, 1) := by decide +kernel
theorem d_Mo_fill_131 : decode b_Mo_fill 131 = .ok (.goto 12, 3) := by decide +kernel
theorem d_Mo_fill_134 : decode b_Mo_fill 134 = .ok (.aload_n 0, 1) := by decide +kernel
theorem d_Mo_fill_135 : decode b_Mo_fill 135 = .ok (.getfield 7, 3) := by decide +kernel
theorem d_Mo_fill_138 : decode b_Mo_fill 138 = .ok (.iload_n 2, 1) := by decide +kernel
theorem d_Mo_fill_139 : decode b_Mo_fill 139 = .ok (.iload 5, 2) := by decide +kernel
theorem d_Mo_fill_141 : decode b_Mo_fill 141 = .ok (.iadd, 1) := by decide +kernel
theorem d_Mo_fill_142 : decode b_Mo_fill 142 = .ok (.iaload, 1) := by decide +kernel
theorem d_Mo_fill_143 : decode b_Mo_fill 143 = .ok (.iastore, 1) := by decide +kernel
theorem d_Mo_fill_144 : decode b_Mo_fill 144 = .ok (.aload_n 0, 1) := by decide +kernel
theorem d_Mo_fill_145 : decode b_Mo_fill 145 = .ok (.dup, 1) := by decide +kernel
theorem d_Mo_fill_146 : decode b_Mo_fill 146 = .ok (.getfield 65, 3) := by decide +kernel
theorem d_Mo_fill_149 : decode b_Mo_fill 149 = .ok (.iconst 1, 1) := by decide +kernel
theorem d_Mo_fill_150 : decode b_Mo_fill 150 = .ok (.iadd, 1) := by decide +kernel
theorem d_Mo_fill_151 : decode b_Mo_fill 151 = .ok (.putfield 65, 3) := by decide +kernel
theorem d_Mo_fill_154 : decode b_Mo_fill 154 = .ok (.iinc 5 1, 3) := by decide +kernel
theorem d_Mo_fill_157 : decode b_Mo_fill 157 = .ok (.goto (-95), 3) := by decide +kernel
theorem d_Mo_fill_160 : decode b_Mo_fill 160 = .ok (.aload_n 0, 1) := by decide +kernel
theorem d_Mo_fill_161 : decode b_Mo_fill 161 = .ok (.getfield 65, 3) := by decide +kernel
theorem d_Mo_fill_164 : decode b_Mo_fill 164 = .ok (.ireturn, 1) := by decide +kernel
theorem d_Mo_set_0 : decode b_Mo_set 0 = .ok (.iload_n 1, 1) := by decide +kernel
theorem d_Mo_set_1 : decode b_Mo_set 1 = .ok (.ifCond .lt 11, 3) := by decide +kernel
theorem d_Mo_set_4 : decode b_Mo_set 4 = .ok (.iload_n 1, 1) := by decide +kernel
theorem d_Mo_set_5 : decode b_Mo_set 5 = .ok (.aload_n 0, 1) := by decide +kernel
theorem d_Mo_set_6 : decode b_Mo_set 6 = .ok (.getfield 65, 3) := by decide +kernel
theorem d_Mo_set_9 : decode b_Mo_set 9 = .ok (.if_icmp .lt 5, 3) := by decide +kernel
theorem d_Mo_set_12 : decode b_Mo_set 12 = .ok (.iconst (-1), 1) := by decide +kernel
theorem d_Mo_set_13 : decode b_Mo_set 13 = .ok (.ireturn, 1) := by decide +kernel
theorem d_Mo_set_14 : decode b_Mo_set 14 = .ok (.aload_n 0, 1) := by decide +kernel
theorem d_Mo_set_15 : decode b_Mo_set 15 = .ok (.getfield 7, 3) := by decide +kernel
theorem d_Mo_set_18 : decode b_Mo_set 18 = .ok (.iload_n 1, 1) := by decide +kernel
theorem d_Mo_set_19 : decode b_Mo_set 19 = .ok (.iaload, 1) := by decide +kernel
theorem d_Mo_set_20 : decode b_Mo_set 20 = .ok (.istore_n 3, 1) := by decide +kernel
theorem d_Mo_set_21 : decode b_Mo_set 21 = .ok (.aload_n 0, 1) := by decide +kernel
theorem d_Mo_set_22 : decode b_Mo_set 22 = .ok (.getfield 7, 3) := by decide +kernel
theorem d_Mo_set_25 : decode b_Mo_set 25 = .ok (.iload_n 1, 1) := by decide +kernel
theorem d_Mo_set_26 : decode b_Mo_set 26 = .ok (.iload_n 2, 1) := by decide +kernel
theorem d_Mo_set_27 : decode b_Mo_set 27 = .ok (.sipush 255, 3) := by decide +kernel
theorem d_Mo_set_30 : decode b_Mo_set 30 = .ok (.iand, 1) := by decide +kernel
theorem d_Mo_set_31 : decode b_Mo_set 31 = .ok (.iastore, 1) := by decide +kernel
theorem d_Mo_set_32 : decode b_Mo_set 32 = .ok (.iload_n 3, 1) := by decide +kernel
theorem d_Mo_set_33 : decode b_Mo_set 33 = .ok (.ireturn, 1) := by decide +kernel
theorem d_Mo_cut_0 : decode b_Mo_cut 0 = .ok (.iload_n 1, 1) := by decide +kernel
theorem d_Mo_cut_1 : decode b_Mo_cut 1 = .ok (.ifCond .lt 11, 3) := by decide +kernel
theorem d_Mo_cut_4 : decode b_Mo_cut 4 = .ok (.iload_n 1, 1) := by decide +kernel
theorem d_Mo_cut_5 : decode b_Mo_cut 5 = .ok (.aload_n 0, 1) := by decide +kernel
theorem d_Mo_cut_6 : decode b_Mo_cut 6 = .ok (.getfield 65, 3) := by decide +kernel
theorem d_Mo_cut_9 : decode b_Mo_cut 9 = .ok (.if_icmp .le 6, 3) := by decide +kernel
theorem d_Mo_cut_12 : decode b_Mo_cut 12 = .ok (.bipush (-2), 2) := by decide +kernel
theorem d_Mo_cut_14 : decode b_Mo_cut 14 = .ok (.ireturn, 1) := by decide +kernel
theorem d_Mo_cut_15 : decode b_Mo_cut 15 = .ok (.aload_n 0, 1) := by decide +kernel
theorem d_Mo_cut_16 : decode b_Mo_cut 16 = .ok (.getfield 65, 3) := by decide +kernel
theorem d_Mo_cut_19 : decode b_Mo_cut 19 = .ok (.iload_n 1, 1) := by decide +kernel
theorem d_Mo_cut_20 : decode b_Mo_cut 20 = .ok (.isub, 1) := by decide +kernel
theorem d_Mo_cut_21 : decode b_Mo_cut 21 = .ok (.istore_n 2, 1) := by decide +kernel
theorem d_Mo_cut_22 : decode b_Mo_cut 22 = .ok (.aload_n 0, 1) := by decide +kernel
theorem d_Mo_cut_23 : decode b_Mo_cut 23 = .ok (.iload_n 1, 1) := by decide +kernel
theorem d_Mo_cut_24 : decode b_Mo_cut 24 = .ok (.putfield 65, 3) := by decide +kernel
theorem d_Mo_cut_27 : decode b_Mo_cut 27 = .ok (.iload_n 2, 1) := by decide +kernel
theorem d_Mo_cut_28 : decode b_Mo_cut 28 = .ok (.ireturn, 1) := by decide +kernel
theorem d_Mo_take_0 : decode b_Mo_take 0 = .ok (.aload_n 0, 1) := by decide +kernel
theorem d_Mo_take_1 : decode b_Mo_take 1 = .ok (.aload_n 0, 1) := by decide +kernel
theorem d_Mo_take_2 : decode b_Mo_take 2 = .ok (.getfield 72, 3) := by decide +kernel
theorem d_Mo_take_5 : decode b_Mo_take 5 = .ok (.sipush 8192, 3) := by decide +kernel
theorem d_Mo_take_8 : decode b_Mo_take 8 = .ok (.if_icmp .ge 10, 3) := by decide +kernel
theorem d_Mo_take_11 : decode b_Mo_take 11 = .ok (.aload_n 0, 1) := by decide +kernel
theorem d_Mo_take_12 : decode b_Mo_take 12 = .ok (.getfield 72, 3) := by decide +kernel
theorem d_Mo_take_15 : decode b_Mo_take 15 = .ok (.goto 6, 3) := by decide +kernel
theorem d_Mo_take_18 : decode b_Mo_take 18 = .ok (.sipush 8192, 3) := by decide +kernel
theorem d_Mo_take_21 : decode b_Mo_take 21 = .ok (.putfield 65, 3) := by decide +kernel
theorem d_Mo_take_24 : decode b_Mo_take 24 = .ok (.iconst 0, 1) := by decide +kernel
theorem d_Mo_take_25 : decode b_Mo_take 25 = .ok (.istore_n 1, 1) := by decide +kernel
theorem d_Mo_take_26 : decode b_Mo_take 26 = .ok (.iload_n 1, 1) := by decide +kernel
theorem d_Mo_take_27 : decode b_Mo_take 27 = .ok (.aload_n 0, 1) := by decide +kernel
theorem d_Mo_take_28 : decode b_Mo_take 28 = .ok (.getfield 65, 3) := by decide +kernel
theorem d_Mo_take_31 : decode b_Mo_take 31 = .ok (.if_icmp .ge 21, 3) := by decide +kernel
theorem d_Mo_take_34 : decode b_Mo_take 34 = .ok (.aload_n 0, 1) := by decide +kernel
theorem d_Mo_take_35 : decode b_Mo_take 35 = .ok (.getfield 7, 3) := by decide +kernel
theorem d_Mo_take_38 : decode b_Mo_take 38 = .ok (.iload_n 1, 1) := by decide +kernel
theorem d_Mo_take_39 : decode b_Mo_take 39 = .ok (.aload_n 0, 1) := by decide +kernel
theorem d_Mo_take_40 : decode b_Mo_take 40 = .ok (.getfield 13, 3) := by decide +kernel
theorem d_Mo_take_43 : decode b_Mo_take 43 = .ok (.iload_n 1, 1) := by decide +kernel
theorem d_Mo_take_44 : decode b_Mo_take 44 = .ok (.iaload, 1) := by decide +kernel
theorem d_Mo_take_45 : decode b_Mo_take 45 = .ok (.iastore, 1) := by decide +kernel
theorem d_Mo_take_46 : decode b_Mo_take 46 = .ok (.iinc 1 1, 3) := by decide +kernel
theorem d_Mo_take_49 : decode b_Mo_take 49 = .ok (.goto (-23), 3) := by decide +kernel
theorem d_Mo_take_52 : decode b_Mo_take 52 = .ok (.aload_n 0, 1) := by decide +kernel
theorem d_Mo_take_53 : decode b_Mo_take 53 = .ok (.getfield 65, 3) := by decide +kernel
theorem d_Mo_take_56 : decode b_Mo_take 56 = .ok (.ireturn, 1) := by decide +kernel
theorem d_Mo_size_0 : decode b_Mo_size 0 = .ok (.iload_n 1, 1) := by decide +kernel
theorem d_Mo_size_1 : decode b_Mo_size 1 = .ok (.ifCond .ne 10, 3) := by decide +kernel
theorem d_Mo_size_4 : decode b_Mo_size 4 = .ok (.aload_n 0, 1) := by decide +kernel
theorem d_Mo_size_5 : decode b_Mo_size 5 = .ok (.getfield 65, 3) := by decide +kernel
theorem d_Mo_size_8 : decode b_Mo_size 8 = .ok (.goto 17, 3) := by decide +kernel
theorem d_Mo_size_11 : decode b_Mo_size 11 = .ok (.iload_n 1, 1) := by decide +kernel
theorem d_Mo_size_12 : decode b_Mo_size 12 = .ok (.iconst 1, 1) := by decide +kernel
theorem d_Mo_size_13 : decode b_Mo_size 13 = .ok (.if_icmp .ne 10, 3) := by decide +kernel
theorem d_Mo_size_16 : decode b_Mo_size 16 = .ok (.aload_n 0, 1) := by decide +kernel
theorem d_Mo_size_17 : decode b_Mo_size 17 = .ok (.getfield 72, 3) := by decide +kernel
theorem d_Mo_size_20 : decode b_Mo_size 20 = .ok (.goto 5, 3) := by decide +kernel
theorem d_Mo_size_23 : decode b_Mo_size 23 = .ok (.bipush (-2), 2) := by decide +kernel
theorem d_Mo_size_25 : decode b_Mo_size 25 = .ok (.ireturn, 1) := by decide +kernel
theorem d_Mo_at_0 : decode b_Mo_at 0 = .ok (.iload_n 1, 1) := by decide +kernel
theorem d_Mo_at_1 : decode b_Mo_at 1 = .ok (.ifCond .ne 26, 3) := by decide +kernel
theorem d_Mo_at_4 : decode b_Mo_at 4 = .ok (.iload_n 2, 1) := by decide +kernel
theorem d_Mo_at_5 : decode b_Mo_at 5 = .ok (.ifCond .lt 20, 3) := by decide +kernel
theorem d_Mo_at_8 : decode b_Mo_at 8 = .ok (.iload_n 2, 1) := by decide +kernel
theorem d_Mo_at_9 : decode b_Mo_at 9 = .ok (.aload_n 0, 1) := by decide +kernel
theorem d_Mo_at_10 : decode b_Mo_at 10 = .ok (.getfield 65, 3) := by decide +kernel
theorem d_Mo_at_13 : decode b_Mo_at 13 = .ok (.if_icmp .ge 12, 3) := by decide +kernel
theorem d_Mo_at_16 : decode b_Mo_at 16 = .ok (.aload_n 0, 1) := by decide +kernel
theorem d_Mo_at_17 : decode b_Mo_at 17 = .ok (.getfield 7, 3) := by decide +kernel
theorem d_Mo_at_20 : decode b_Mo_at 20 = .ok (.iload_n 2, 1) := by decide +kernel
theorem d_Mo_at_21 : decode b_Mo_at 21 = .ok (.iaload, 1) := by decide +kernel
theorem d_Mo_at_22 : decode b_Mo_at 22 = .ok (.goto 4, 3) := by decide +kernel
theorem d_Mo_at_25 : decode b_Mo_at 25 = .ok (.iconst (-1), 1) := by decide +kernel
theorem d_Mo_at_26 : decode b_Mo_at 26 = .ok (.ireturn, 1) := by decide +kernel
theorem d_Mo_at_27 : decode b_Mo_at 27 = .ok (.iload_n 1, 1) := by decide +kernel
theorem d_Mo_at_28 : decode b_Mo_at 28 = .ok (.iconst 1, 1) := by decide +kernel
theorem d_Mo_at_29 : decode b_Mo_at 29 = .ok (.if_icmp .ne 24, 3) := by decide +kernel
theorem d_Mo_at_32 : decode b_Mo_at 32 = .ok (.iload_n 2, 1) := by decide +kernel
theorem d_Mo_at_33 : decode b_Mo_at 33 = .ok (.ifCond .lt 20, 3) := by decide +kernel
theorem d_Mo_at_36 : decode b_Mo_at 36 = .ok (.iload_n 2, 1) := by decide +kernel
theorem d_Mo_at_37 : decode b_Mo_at 37 = .ok (.aload_n 0, 1) := by decide +kernel
theorem d_Mo_at_38 : decode b_Mo_at 38 = .ok (.getfield 72, 3) := by decide +kernel
theorem d_Mo_at_41 : decode b_Mo_at 41 = .ok (.if_icmp .ge 12, 3) := by decide +kernel
theorem d_Mo_at_44 : decode b_Mo_at 44 = .ok (.aload_n 0, 1) := by decide +kernel
theorem d_Mo_at_45 : decode b_Mo_at 45 = .ok (.getfield 13, 3) := by decide +kernel
theorem d_Mo_at_48 : decode b_Mo_at 48 = .ok (.iload_n 2, 1) := by decide +kernel
theorem d_Mo_at_49 : decode b_Mo_at 49 = .ok (.iaload, 1) := by decide +kernel
theorem d_Mo_at_50 : decode b_Mo_at 50 = .ok (.goto 4, 3) := by decide +kernel
theorem d_Mo_at_53 : decode b_Mo_at 53 = .ok (.iconst (-1), 1) := by decide +kernel
theorem d_Mo_at_54 : decode b_Mo_at 54 = .ok (.ireturn, 1) := by decide +kernel
theorem d_Mo_blame_0 : decode b_Mo_blame 0 = .ok (.aload_n 0, 1) := by decide +kernel
theorem d_Mo_blame_1 : decode b_Mo_blame 1 = .ok (.aload_n 0, 1) := by decide +kernel
theorem d_Mo_blame_2 : decode b_Mo_blame 2 = .ok (.getfield 75, 3) := by decide +kernel
theorem d_Mo_blame_5 : decode b_Mo_blame 5 = .ok (.ifCond .ne 7, 3) := by decide +kernel
theorem d_Mo_blame_8 : decode b_Mo_blame 8 = .ok (.iload_n 1, 1) := by decide +kernel
theorem d_Mo_blame_9 : decode b_Mo_blame 9 = .ok (.goto 7, 3) := by decide +kernel
theorem d_Mo_blame_12 : decode b_Mo_blame 12 = .ok (.aload_n 0, 1) := by decide +kernel
theorem d_Mo_blame_13 : decode b_Mo_blame 13 = .ok (.getfield 75, 3) := by decide +kernel
theorem d_Mo_blame_16 : decode b_Mo_blame 16 = .ok (.putfield 75, 3) := by decide +kernel
theorem d_Mo_blame_19 : decode b_Mo_blame 19 = .ok (.return_, 1) := by decide +kernel
theorem d_Mo_bit_0 : decode b_Mo_bit 0 = .ok (.aload_n 0, 1) := by decide +kernel
theorem d_Mo_bit_1 : decode b_Mo_bit 1 = .ok (.getfield 78, 3) := by decide +kernel
theorem d_Mo_bit_4 : decode b_Mo_bit 4 = .ok (.bipush 8, 2) := by decide +kernel
theorem d_Mo_bit_6 : decode b_Mo_bit 6 = .ok (.aload_n 0, 1) := by decide +kernel
theorem d_Mo_bit_7 : decode b_Mo_bit 7 = .ok (.getfield 65, 3) := by decide +kernel
theorem d_Mo_bit_10 : decode b_Mo_bit 10 = .ok (.imul, 1) := by decide +kernel
theorem d_Mo_bit_11 : decode b_Mo_bit 11 = .ok (.if_icmp .lt 8, 3) := by decide +kernel
theorem d_Mo_bit_14 : decode b_Mo_bit 14 = .ok (.aload_n 0, 1) := by decide +kernel
theorem d_Mo_bit_15 : decode b_Mo_bit 15 = .ok (.iconst 2, 1) := by decide +kernel
theorem d_Mo_bit_16 : decode b_Mo_bit 16 = .ok (.invokevirtual 81, 3) := by decide +kernel
theorem d_Mo_bit_19 : decode b_Mo_bit 19 = .ok (.aload_n 0, 1) := by decide +kernel
theorem d_Mo_bit_20 : decode b_Mo_bit 20 = .ok (.getfield 75, 3) := by decide +kernel
theorem d_Mo_bit_23 : decode b_Mo_bit 23 = .ok (.ifCond .eq 5, 3) := by decide +kernel
theorem d_Mo_bit_26 : decode b_Mo_bit 26 = .ok (.iconst 0, 1) := by decide +kernel
theorem d_Mo_bit_27 : decode b_Mo_bit 27 = .ok (.ireturn, 1) := by decide +kernel
theorem d_Mo_bit_28 : decode b_Mo_bit 28 = .ok (.aload_n 0, 1) := by decide +kernel
theorem d_Mo_bit_29 : decode b_Mo_bit 29 = .ok (.dup, 1) := by decide +kernel
theorem d_Mo_bit_30 : decode b_Mo_bit 30 = .ok (.getfield 78, 3) := by decide +kernel
theorem d_Mo_bit_33 : decode b_Mo_bit 33 = .ok (.iconst 1, 1) := by decide +kernel
theorem d_Mo_bit_34 : decode b_Mo_bit 34 = .ok (.iadd, 1) := by decide +kernel
theorem d_Mo_bit_35 : decode b_Mo_bit 35 = .ok (.putfield 78, 3) := by decide +kernel
theorem d_Mo_bit_38 : decode b_Mo_bit 38 = .ok (.aload_n 0, 1) := by decide +kernel
theorem d_Mo_bit_39 : decode b_Mo_bit 39 = .ok (.getfield 7, 3) := by decide +kernel
theorem d_Mo_bit_42 : decode b_Mo_bit 42 = .ok (.aload_n 0, 1) := by decide +kernel
theorem d_Mo_bit_43 : decode b_Mo_bit 43 = .ok (.getfield 78, 3) := by decide +kernel
theorem d_Mo_bit_46 : decode b_Mo_bit 46 = .ok (.iconst 1, 1) := by decide +kernel
theorem d_Mo_bit_47 : decode b_Mo_bit 47 = .ok (.isub, 1) := by decide +kernel
theorem d_Mo_bit_48 : decode b_Mo_bit 48 = .ok (.bipush 8, 2) := by decide +kernel
theorem d_Mo_bit_50 : decode b_Mo_bit 50 = .ok (.idiv, 1) := by decide +kernel
theorem d_Mo_bit_51 : decode b_Mo_bit 51 = .ok (.iaload, 1) := by decide +kernel
theorem d_Mo_bit_52 : decode b_Mo_bit 52 = .ok (.aload_n 0, 1) := by decide +kernel
theorem d_Mo_bit_53 : decode b_Mo_bit 53 = .ok (.getfield 78, 3) := by decide +kernel
theorem d_Mo_bit_56 : decode b_Mo_bit 56 = .ok (.iconst 1, 1) := by decide +kernel
theorem d_Mo_bit_57 : decode b_Mo_bit 57 = .ok (.isub, 1) := by decide +kernel
theorem d_Mo_bit_58 : decode b_Mo_bit 58 = .ok (.bipush 8, 2) := by decide +kernel
theorem d_Mo_bit_60 : decode b_Mo_bit 60 = .ok (.irem, 1) := by decide +kernel
theorem d_Mo_bit_61 : decode b_Mo_bit 61 = .ok (.ishr, 1) := by decide +kernel
theorem d_Mo_bit_62 : decode b_Mo_bit 62 = .ok (.iconst 1, 1) := by decide +kernel
theorem d_Mo_bit_63 : decode b_Mo_bit 63 = .ok (.iand, 1) := by decide +kernel
theorem d_Mo_bit_64 : decode b_Mo_bit 64 = .ok (.ireturn, 1) := by decide +kernel
theorem d_Mo_number_0 : decode b_Mo_number 0 = .ok (.iconst 0, 1) := by decide +kernel
theorem d_Mo_number_1 : decode b_Mo_number 1 = .ok (.istore_n 2, 1) := by decide +kernel
theorem d_Mo_number_2 : decode b_Mo_number 2 = .ok (.iconst 0, 1) := by decide +kernel
theorem d_Mo_number_3 : decode b_Mo_number 3 = .ok (.istore_n 3, 1) := by decide +kernel
theorem d_Mo_number_4 : decode b_Mo_number 4 = .ok (.iload_n 3, 1) := by decide +kernel
theorem d_Mo_number_5 : decode b_Mo_number 5 = .ok (.iload_n 1, 1) := by decide +kernel
theorem d_Mo_number_6 : decode b_Mo_number 6 = .ok (.if_icmp .ge 18, 3) := by decide +kernel
theorem d_Mo_number_9 : decode b_Mo_number 9 = .ok (.iload_n 2, 1) := by decide +kernel
theorem d_Mo_number_10 : decode b_Mo_number 10 = .ok (.aload_n 0, 1) := by decide +kernel
theorem d_Mo_number_11 : decode b_Mo_number 11 = .ok (.invokevirtual 85, 3) := by decide +kernel
theorem d_Mo_number_14 : decode b_Mo_number 14 = .ok (.iload_n 3, 1) := by decide +kernel
theorem d_Mo_number_15 : decode b_Mo_number 15 = .ok (.ishl, 1) := by decide +kernel
theorem d_Mo_number_16 : decode b_Mo_number 16 = .ok (.ior, 1) := by decide +kernel
theorem d_Mo_number_17 : decode b_Mo_number 17 = .ok (.istore_n 2, 1) := by decide +kernel
theorem d_Mo_number_18 : decode b_Mo_number 18 = .ok (.iinc 3 1, 3) := by decide +kernel
theorem d_Mo_number_21 : decode b_Mo_number 21 = .ok (.goto (-17), 3) := by decide +kernel
theorem d_Mo_number_24 : decode b_Mo_number 24 = .ok (.iload_n 2, 1) := by decide +kernel
theorem d_Mo_number_25 : decode b_Mo_number 25 = .ok (.ireturn, 1) := by decide +kernel
theorem d_Mo_toByte_0 : decode b_Mo_toByte 0 = .ok (.aload_n 0, 1) := by decide +kernel
theorem d_Mo_toByte_1 : decode b_Mo_toByte 1 = .ok (.getfield 78, 3) := by decide +kernel
theorem d_Mo_toByte_4 : decode b_Mo_toByte 4 = .ok (.bipush 8, 2) := by decide +kernel
theorem d_Mo_toByte_6 : decode b_Mo_toByte 6 = .ok (.irem, 1) := by decide +kernel
theorem d_Mo_toByte_7 : decode b_Mo_toByte 7 = .ok (.ifCond .eq 11, 3) := by decide +kernel
theorem d_Mo_toByte_10 : decode b_Mo_toByte 10 = .ok (.aload_n 0, 1) := by decide +kernel
theorem d_Mo_toByte_11 : decode b_Mo_toByte 11 = .ok (.invokevirtual 85, 3) := by decide +kernel
theorem d_Mo_toByte_14 : decode b_Mo_toByte 14 = .ok (.istore_n 1, 1) := by decide +kernel
theorem d_Mo_toByte_15 : decode b_Mo_toByte 15 = .ok (.goto (-15), 3) := by decide +kernel
theorem d_Mo_toByte_18 : decode b_Mo_toByte 18 = .ok (.return_, 1) := by decide +kernel
theorem d_Mo_make_0 : decode b_Mo_make 0 = .ok (.aload_n 0, 1) := by decide +kernel
theorem d_Mo_make_1 : decode b_Mo_make 1 = .ok (.getfield 75, 3) := by decide +kernel
theorem d_Mo_make_4 : decode b_Mo_make 4 = .ok (.ifCond .ne 19, 3) := by decide +kernel
theorem d_Mo_make_7 : decode b_Mo_make 7 = .ok (.aload_n 0, 1) := by decide +kernel
theorem d_Mo_make_8 : decode b_Mo_make 8 = .ok (.getfield 72, 3) := by decide +kernel
theorem d_Mo_make_11 : decode b_Mo_make 11 = .ok (.sipush 8192, 3) := by decide +kernel
theorem d_Mo_make_14 : decode b_Mo_make 14 = .ok (.if_icmp .ne 9, 3) := by decide +kernel
theorem d_Mo_make_17 : decode b_Mo_make 17 = .ok (.aload_n 0, 1) := by decide +kernel
theorem d_Mo_make_18 : decode b_Mo_make 18 = .ok (.bipush 10, 2) := by decide +kernel
theorem d_Mo_make_20 : decode b_Mo_make 20 = .ok (.invokevirtual 81, 3) := by decide +kernel
theorem d_Mo_make_23 : decode b_Mo_make 23 = .ok (.aload_n 0, 1) := by decide +kernel
theorem d_Mo_make_24 : decode b_Mo_make 24 = .ok (.getfield 75, 3) := by decide +kernel
theorem d_Mo_make_27 : decode b_Mo_make 27 = .ok (.ifCond .ne 23, 3) := by decide +kernel
theorem d_Mo_make_30 : decode b_Mo_make 30 = .ok (.aload_n 0, 1) := by decide +kernel
theorem d_Mo_make_31 : decode b_Mo_make 31 = .ok (.getfield 13, 3) := by decide +kernel
theorem d_Mo_make_34 : decode b_Mo_make 34 = .ok (.aload_n 0, 1) := by decide +kernel
theorem d_Mo_make_35 : decode b_Mo_make 35 = .ok (.getfield 72, 3) := by decide +kernel
theorem d_Mo_make_38 : decode b_Mo_make 38 = .ok (.iload_n 1, 1) := by decide +kernel
theorem d_Mo_make_39 : decode b_Mo_make 39 = .ok (.iastore, 1) := by decide +kernel
theorem d_Mo_make_40 : decode b_Mo_make 40 = .ok (.aload_n 0, 1) := by decide +kernel
theorem d_Mo_make_41 : decode b_Mo_make 41 = .ok (.dup, 1) := by decide +kernel
theorem d_Mo_make_42 : decode b_Mo_make 42 = .ok (.getfield 72, 3) := by decide +kernel
theorem d_Mo_make_45 : decode b_Mo_make 45 = .ok (.iconst 1, 1) := by decide +kernel
theorem d_Mo_make_46 : decode b_Mo_make 46 = .ok (.iadd, 1) := by decide +kernel
theorem d_Mo_make_47 : decode b_Mo_make 47 = .ok (.putfield 72, 3) := by decide +kernel
theorem d_Mo_make_50 : decode b_Mo_make 50 = .ok (.return_, 1) := by decide +kernel
theorem d_Mo_weightOf_0 : decode b_Mo_weightOf 0 = .ok (.iconst 0, 1) := by decide +kernel
theorem d_Mo_weightOf_1 : decode b_Mo_weightOf 1 = .ok (.istore_n 3, 1) := by decide +kernel
theorem d_Mo_weightOf_2 : decode b_Mo_weightOf 2 = .ok (.iload_n 1, 1) := by decide +kernel
theorem d_Mo_weightOf_3 : decode b_Mo_weightOf 3 = .ok (.istore 4, 2) := by decide +kernel
theorem d_Mo_weightOf_5 : decode b_Mo_weightOf 5 = .ok (.iload 4, 2) := by decide +kernel
theorem d_Mo_weightOf_7 : decode b_Mo_weightOf 7 = .ok (.iload_n 1, 1) := by decide +kernel
theorem d_Mo_weightOf_8 : decode b_Mo_weightOf 8 = .ok (.iload_n 2, 1) := by decide +kernel
theorem d_Mo_weightOf_9 : decode b_Mo_weightOf 9 = .ok (.iadd, 1) := by decide +kernel
theorem d_Mo_weightOf_10 : decode b_Mo_weightOf 10 = .ok (.if_icmp .ge 32, 3) := by decide +kernel
theorem d_Mo_weightOf_13 : decode b_Mo_weightOf 13 = .ok (.aload_n 0, 1) := by decide +kernel
theorem d_Mo_weightOf_14 : decode b_Mo_weightOf 14 = .ok (.iload 4, 2) := by decide +kernel
theorem d_Mo_weightOf_16 : decode b_Mo_weightOf 16 = .ok (.iaload, 1) := by decide +kernel
theorem d_Mo_weightOf_17 : decode b_Mo_weightOf 17 = .ok (.ifCond .le 17, 3) := by decide +kernel
theorem d_Mo_weightOf_20 : decode b_Mo_weightOf 20 = .ok (.iload_n 3, 1) := by decide +kernel
theorem d_Mo_weightOf_21 : decode b_Mo_weightOf 21 = .ok (.iconst 1, 1) := by decide +kernel
theorem d_Mo_weightOf_22 : decode b_Mo_weightOf 22 = .ok (.bipush 15, 2) := by decide +kernel
theorem d_Mo_weightOf_24 : decode b_Mo_weightOf 24 = .ok (.aload_n 0, 1) := by decide +kernel
theorem d_Mo_weightOf_25 : decode b_Mo_weightOf 25 = .ok (.iload 4, 2) := by decide +kernel
theorem d_Mo_weightOf_27 : decode b_Mo_weightOf 27 = .ok (.iaload, 1) := by decide +kernel
theorem d_Mo_weightOf_28 : decode b_Mo_weightOf 28 = .ok (.isub, 1) := by decide +kernel
theorem d_Mo_weightOf_29 : decode b_Mo_weightOf 29 = .ok (.ishl, 1) := by decide +kernel
theorem d_Mo_weightOf_30 : decode b_Mo_weightOf 30 = .ok (.iadd, 1) := by decide +kernel
theorem d_Mo_weightOf_31 : decode b_Mo_weightOf 31 = .ok (.goto 4, 3) := by decide +kernel
theorem d_Mo_weightOf_34 : decode b_Mo_weightOf 34 = .ok (.iload_n 3, 1) := by decide +kernel
theorem d_Mo_weightOf_35 : decode b_Mo_weightOf 35 = .ok (.istore_n 3, 1) := by decide +kernel
theorem d_Mo_weightOf_36 : decode b_Mo_weightOf 36 = .ok (.iinc 4 1, 3) := by decide +kernel
theorem d_Mo_weightOf_39 : decode b_Mo_weightOf 39 = .ok (.goto (-34), 3) := by decide +kernel
theorem d_Mo_weightOf_42 : decode b_Mo_weightOf 42 = .ok (.iload_n 3, 1) := by decide +kernel
theorem d_Mo_weightOf_43 : decode b_Mo_weightOf 43 = .ok (.ireturn, 1) := by decide +kernel
theorem d_Mo_codesOf_0 : decode b_Mo_codesOf 0 = .ok (.iconst 0, 1) := by decide +kernel
theorem d_Mo_codesOf_1 : decode b_Mo_codesOf 1 = .ok (.istore_n 3, 1) := by decide +kernel
theorem d_Mo_codesOf_2 : decode b_Mo_codesOf 2 = .ok (.iload_n 1, 1) := by decide +kernel
theorem d_Mo_codesOf_3 : decode b_Mo_codesOf 3 = .ok (.istore 4, 2) := by decide +kernel
theorem d_Mo_codesOf_5 : decode b_Mo_codesOf 5 = .ok (.iload 4, 2) := by decide +kernel
theorem d_Mo_codesOf_7 : decode b_Mo_codesOf 7 = .ok (.iload_n 1, 1) := by decide +kernel
theorem d_Mo_codesOf_8 : decode b_Mo_codesOf 8 = .ok (.iload_n 2, 1) := by decide +kernel
theorem d_Mo_codesOf_9 : decode b_Mo_codesOf 9 = .ok (.iadd, 1) := by decide +kernel
theorem d_Mo_codesOf_10 : decode b_Mo_codesOf 10 = .ok (.if_icmp .ge 24, 3) := by decide +kernel
theorem d_Mo_codesOf_13 : decode b_Mo_codesOf 13 = .ok (.aload_n 0, 1) := by decide +kernel
theorem d_Mo_codesOf_14 : decode b_Mo_codesOf 14 = .ok (.iload 4, 2) := by decide +kernel
theorem d_Mo_codesOf_16 : decode b_Mo_codesOf 16 = .ok (.iaload, 1) := by decide +kernel
theorem d_Mo_codesOf_17 : decode b_Mo_codesOf 17 = .ok (.ifCond .le 9, 3) := by decide +kernel
theorem d_Mo_codesOf_20 : decode b_Mo_codesOf 20 = .ok (.iload_n 3, 1) := by decide +kernel
theorem d_Mo_codesOf_21 : decode b_Mo_codesOf 21 = .ok (.iconst 1, 1) := by decide +kernel
theorem d_Mo_codesOf_22 : decode b_Mo_codesOf 22 = .ok (.iadd, 1) := by decide +kernel
theorem d_Mo_codesOf_23 : decode b_Mo_codesOf 23 = .ok (.goto 4, 3) := by decide +kernel
theorem d_Mo_codesOf_26 : decode b_Mo_codesOf 26 = .ok (.iload_n 3, 1) := by decide +kernel
theorem d_Mo_codesOf_27 : decode b_Mo_codesOf 27 = .ok (.istore_n 3, 1) := by decide +kernel
theorem d_Mo_codesOf_28 : decode b_Mo_codesOf 28 = .ok (.iinc 4 1, 3) := by decide +kernel
theorem d_Mo_codesOf_31 : decode b_Mo_codesOf 31 = .ok (.goto (-26), 3) := by decide +kernel
theorem d_Mo_codesOf_34 : decode b_Mo_codesOf 34 = .ok (.iload_n 3, 1) := by decide +kernel
theorem d_Mo_codesOf_35 : decode b_Mo_codesOf 35 = .ok (.ireturn, 1) := by decide +kernel
theorem d_Mo_areCodes_0 : decode b_Mo_areCodes 0 = .ok (.aload_n 0, 1) := by decide +kernel
theorem d_Mo_areCodes_1 : decode b_Mo_areCodes 1 = .ok (.iload_n 1, 1) := by decide +kernel
theorem d_Mo_areCodes_2 : decode b_Mo_areCodes 2 = .ok (.iload_n 2, 1) := by decide +kernel
theorem d_Mo_areCodes_3 : decode b_Mo_areCodes 3 = .ok (.invokestatic 89, 3) := by decide +kernel
theorem d_Mo_areCodes_6 : decode b_Mo_areCodes 6 = .ok (.istore 4, 2) := by decide +kernel
theorem d_Mo_areCodes_8 : decode b_Mo_areCodes 8 = .ok (.aload_n 0, 1) := by decide +kernel
theorem d_Mo_areCodes_9 : decode b_Mo_areCodes 9 = .ok (.iload_n 1, 1) := by decide +kernel
theorem d_Mo_areCodes_10 : decode b_Mo_areCodes 10 = .ok (.iload_n 2, 1) := by decide +kernel
theorem d_Mo_areCodes_11 : decode b_Mo_areCodes 11 = .ok (.invokestatic 93, 3) := by decide +kernel
theorem d_Mo_areCodes_14 : decode b_Mo_areCodes 14 = .ok (.istore 5, 2) := by decide +kernel
theorem d_Mo_areCodes_16 : decode b_Mo_areCodes 16 = .ok (.iload 5, 2) := by decide +kernel
theorem d_Mo_areCodes_18 : decode b_Mo_areCodes 18 = .ok (.ldc 96, 2) := by decide +kernel
theorem d_Mo_areCodes_20 : decode b_Mo_areCodes 20 = .ok (.if_icmp .eq 26, 3) := by decide +kernel
theorem d_Mo_areCodes_23 : decode b_Mo_areCodes 23 = .ok (.iload 4, 2) := by decide +kernel
theorem d_Mo_areCodes_25 : decode b_Mo_areCodes 25 = .ok (.iconst 1, 1) := by decide +kernel
theorem d_Mo_areCodes_26 : decode b_Mo_areCodes 26 = .ok (.if_icmp .ne 11, 3) := by decide +kernel
theorem d_Mo_areCodes_29 : decode b_Mo_areCodes 29 = .ok (.iload 5, 2) := by decide +kernel
theorem d_Mo_areCodes_31 : decode b_Mo_areCodes 31 = .ok (.sipush 16384, 3) := by decide +kernel
theorem d_Mo_areCodes_34 : decode b_Mo_areCodes 34 = .ok (.if_icmp .eq 12, 3) := by decide +kernel
theorem d_Mo_areCodes_37 : decode b_Mo_areCodes 37 = .ok (.iload 4, 2) := by decide +kernel
theorem d_Mo_areCodes_39 : decode b_Mo_areCodes 39 = .ok (.ifCond .ne 11, 3) := by decide +kernel
theorem d_Mo_areCodes_42 : decode b_Mo_areCodes 42 = .ok (.iload_n 3, 1) := by decide +kernel
theorem d_Mo_areCodes_43 : decode b_Mo_areCodes 43 = .ok (.ifCond .eq 7, 3) := by decide +kernel
theorem d_Mo_areCodes_46 : decode b_Mo_areCodes 46 = .ok (.iconst 1, 1) := by decide +kernel
theorem d_Mo_areCodes_47 : decode b_Mo_areCodes 47 = .ok (.goto 4, 3) := by decide +kernel
theorem d_Mo_areCodes_50 : decode b_Mo_areCodes 50 = .ok (.iconst 0, 1) := by decide +kernel
theorem d_Mo_areCodes_51 : decode b_Mo_areCodes 51 = .ok (.ireturn, 1) := by decide +kernel
theorem d_Mo_codeOf_0 : decode b_Mo_codeOf 0 = .ok (.iconst 0, 1) := by decide +kernel
theorem d_Mo_codeOf_1 : decode b_Mo_codeOf 1 = .ok (.istore 4, 2) := by decide +kernel
theorem d_Mo_codeOf_3 : decode b_Mo_codeOf 3 = .ok (.iconst 1, 1) := by decide +kernel
theorem d_Mo_codeOf_4 : decode b_Mo_codeOf 4 = .ok (.istore 5, 2) := by decide +kernel
theorem d_Mo_codeOf_6 : decode b_Mo_codeOf 6 = .ok (.iload 5, 2) := by decide +kernel
theorem d_Mo_codeOf_8 : decode b_Mo_codeOf 8 = .ok (.aload_n 0, 1) := by decide +kernel
theorem d_Mo_codeOf_9 : decode b_Mo_codeOf 9 = .ok (.iload_n 1, 1) := by decide +kernel
theorem d_Mo_codeOf_10 : decode b_Mo_codeOf 10 = .ok (.iload_n 3, 1) := by decide +kernel
theorem d_Mo_codeOf_11 : decode b_Mo_codeOf 11 = .ok (.iadd, 1) := by decide +kernel
theorem d_Mo_codeOf_12 : decode b_Mo_codeOf 12 = .ok (.iaload, 1) := by decide +kernel
theorem d_Mo_codeOf_13 : decode b_Mo_codeOf 13 = .ok (.if_icmp .gt 80, 3) := by decide +kernel
theorem d_Mo_codeOf_16 : decode b_Mo_codeOf 16 = .ok (.iconst 2, 1) := by decide +kernel
theorem d_Mo_codeOf_17 : decode b_Mo_codeOf 17 = .ok (.iload 4, 2) := by decide +kernel
theorem d_Mo_codeOf_19 : decode b_Mo_codeOf 19 = .ok (.imul, 1) := by decide +kernel
theorem d_Mo_codeOf_20 : decode b_Mo_codeOf 20 = .ok (.istore 4, 2) := by decide +kernel
theorem d_Mo_codeOf_22 : decode b_Mo_codeOf 22 = .ok (.iconst 0, 1) := by decide +kernel
theorem d_Mo_codeOf_23 : decode b_Mo_codeOf 23 = .ok (.istore 6, 2) := by decide +kernel
theorem d_Mo_codeOf_25 : decode b_Mo_codeOf 25 = .ok (.iload 6, 2) := by decide +kernel
theorem d_Mo_codeOf_27 : decode b_Mo_codeOf 27 = .ok (.iload_n 2, 1) := by decide +kernel
theorem d_Mo_codeOf_28 : decode b_Mo_codeOf 28 = .ok (.if_icmp .ge 59, 3) := by decide +kernel
theorem d_Mo_codeOf_31 : decode b_Mo_codeOf 31 = .ok (.iload 5, 2) := by decide +kernel
theorem d_Mo_codeOf_33 : decode b_Mo_codeOf 33 = .ok (.aload_n 0, 1) := by decide +kernel
theorem d_Mo_codeOf_34 : decode b_Mo_codeOf 34 = .ok (.iload_n 1, 1) := by decide +kernel
theorem d_Mo_codeOf_35 : decode b_Mo_codeOf 35 = .ok (.iload_n 3, 1) := by decide +kernel
theorem d_Mo_codeOf_36 : decode b_Mo_codeOf 36 = .ok (.iadd, 1) := by decide +kernel
theorem d_Mo_codeOf_37 : decode b_Mo_codeOf 37 = .ok (.iaload, 1) := by decide +kernel
theorem d_Mo_codeOf_38 : decode b_Mo_codeOf 38 = .ok (.if_icmp .lt 9, 3) := by decide +kernel
theorem d_Mo_codeOf_41 : decode b_Mo_codeOf 41 = .ok (.iload 6, 2) := by decide +kernel
theorem d_Mo_codeOf_43 : decode b_Mo_codeOf 43 = .ok (.iload_n 3, 1) := by decide +kernel
theorem d_Mo_codeOf_44 : decode b_Mo_codeOf 44 = .ok (.if_icmp .ge 7, 3) := by decide +kernel
theorem d_Mo_codeOf_47 : decode b_Mo_codeOf 47 = .ok (.iconst 1, 1) := by decide +kernel
theorem d_Mo_codeOf_48 : decode b_Mo_codeOf 48 = .ok (.goto 4, 3) := by decide +kernel
theorem d_Mo_codeOf_51 : decode b_Mo_codeOf 51 = .ok (.iconst 0, 1) := by decide +kernel
theorem d_Mo_codeOf_52 : decode b_Mo_codeOf 52 = .ok (.istore 7, 2) := by decide +kernel
theorem d_Mo_codeOf_54 : decode b_Mo_codeOf 54 = .ok (.aload_n 0, 1) := by decide +kernel
theorem d_Mo_codeOf_55 : decode b_Mo_codeOf 55 = .ok (.iload_n 1, 1) := by decide +kernel
theorem d_Mo_codeOf_56 : decode b_Mo_codeOf 56 = .ok (.iload 6, 2) := by decide +kernel
theorem d_Mo_codeOf_58 : decode b_Mo_codeOf 58 = .ok (.iadd, 1) := by decide +kernel
theorem d_Mo_codeOf_59 : decode b_Mo_codeOf 59 = .ok (.iaload, 1) := by decide +kernel
theorem d_Mo_codeOf_60 : decode b_Mo_codeOf 60 = .ok (.iload 5, 2) := by decide +kernel
theorem d_Mo_codeOf_62 : decode b_Mo_codeOf 62 = .ok (.if_icmp .ne 15, 3) := by decide +kernel
theorem d_Mo_codeOf_65 : decode b_Mo_codeOf 65 = .ok (.iload 7, 2) := by decide +kernel
theorem d_Mo_codeOf_67 : decode b_Mo_codeOf 67 = .ok (.ifCond .eq 10, 3) := by decide +kernel
theorem d_Mo_codeOf_70 : decode b_Mo_codeOf 70 = .ok (.iload 4, 2) := by decide +kernel
theorem d_Mo_codeOf_72 : decode b_Mo_codeOf 72 = .ok (.iconst 1, 1) := by decide +kernel
theorem d_Mo_codeOf_73 : decode b_Mo_codeOf 73 = .ok (.iadd, 1) := by decide +kernel
theorem d_Mo_codeOf_74 : decode b_Mo_codeOf 74 = .ok (.goto 5, 3) := by decide +kernel
theorem d_Mo_codeOf_77 : decode b_Mo_codeOf 77 = .ok (.iload 4, 2) := by decide +kernel
theorem d_Mo_codeOf_79 : decode b_Mo_codeOf 79 = .ok (.istore 4, 2) := by decide +kernel
theorem d_Mo_codeOf_81 : decode b_Mo_codeOf 81 = .ok (.iinc 6 1, 3) := by decide +kernel
theorem d_Mo_codeOf_84 : decode b_Mo_codeOf 84 = .ok (.goto (-59), 3) := by decide +kernel
theorem d_Mo_codeOf_87 : decode b_Mo_codeOf 87 = .ok (.iinc 5 1, 3) := by decide +kernel
theorem d_Mo_codeOf_90 : decode b_Mo_codeOf 90 = .ok (.goto (-84), 3) := by decide +kernel
theorem d_Mo_codeOf_93 : decode b_Mo_codeOf 93 = .ok (.iload 4, 2) := by decide +kernel
theorem d_Mo_codeOf_95 : decode b_Mo_codeOf 95 = .ok (.ireturn, 1) := by decide +kernel
theorem d_Mo_begins_0 : decode b_Mo_begins 0 = .ok (.iconst 0, 1) := by decide +kernel
theorem d_Mo_begins_1 : decode b_Mo_begins 1 = .ok (.istore 5, 2) := by decide +kernel
theorem d_Mo_begins_3 : decode b_Mo_begins 3 = .ok (.iload_n 1, 1) := by decide +kernel
theorem d_Mo_begins_4 : decode b_Mo_begins 4 = .ok (.istore 6, 2) := by decide +kernel
theorem d_Mo_begins_6 : decode b_Mo_begins 6 = .ok (.iload 6, 2) := by decide +kernel
theorem d_Mo_begins_8 : decode b_Mo_begins 8 = .ok (.iload_n 1, 1) := by decide +kernel
theorem d_Mo_begins_9 : decode b_Mo_begins 9 = .ok (.iload_n 2, 1) := by decide +kernel
theorem d_Mo_begins_10 : decode b_Mo_begins 10 = .ok (.iadd, 1) := by decide +kernel
theorem d_Mo_begins_11 : decode b_Mo_begins 11 = .ok (.if_icmp .ge 36, 3) := by decide +kernel
theorem d_Mo_begins_14 : decode b_Mo_begins 14 = .ok (.aload_n 0, 1) := by decide +kernel
theorem d_Mo_begins_15 : decode b_Mo_begins 15 = .ok (.iload 6, 2) := by decide +kernel
theorem d_Mo_begins_17 : decode b_Mo_begins 17 = .ok (.iaload, 1) := by decide +kernel
theorem d_Mo_begins_18 : decode b_Mo_begins 18 = .ok (.iload_n 3, 1) := by decide +kernel
theorem d_Mo_begins_19 : decode b_Mo_begins 19 = .ok (.if_icmp .le 18, 3) := by decide +kernel
theorem d_Mo_begins_22 : decode b_Mo_begins 22 = .ok (.iload 5, 2) := by decide +kernel
theorem d_Mo_begins_24 : decode b_Mo_begins 24 = .ok (.iconst 1, 1) := by decide +kernel
theorem d_Mo_begins_25 : decode b_Mo_begins 25 = .ok (.bipush 15, 2) := by decide +kernel
theorem d_Mo_begins_27 : decode b_Mo_begins 27 = .ok (.aload_n 0, 1) := by decide +kernel
theorem d_Mo_begins_28 : decode b_Mo_begins 28 = .ok (.iload 6, 2) := by decide +kernel
theorem d_Mo_begins_30 : decode b_Mo_begins 30 = .ok (.iaload, 1) := by decide +kernel
theorem d_Mo_begins_31 : decode b_Mo_begins 31 = .ok (.isub, 1) := by decide +kernel
theorem d_Mo_begins_32 : decode b_Mo_begins 32 = .ok (.ishl, 1) := by decide +kernel
theorem d_Mo_begins_33 : decode b_Mo_begins 33 = .ok (.iadd, 1) := by decide +kernel
theorem d_Mo_begins_34 : decode b_Mo_begins 34 = .ok (.goto 5, 3) := by decide +kernel
theorem d_Mo_begins_37 : decode b_Mo_begins 37 = .ok (.iload 5, 2) := by decide +kernel
theorem d_Mo_begins_39 : decode b_Mo_begins 39 = .ok (.istore 5, 2) := by decide +kernel
theorem d_Mo_begins_41 : decode b_Mo_begins 41 = .ok (.iinc 6 1, 3) := by decide +kernel
theorem d_Mo_begins_44 : decode b_Mo_begins 44 = .ok (.goto (-38), 3) := by decide +kernel
theorem d_Mo_begins_47 : decode b_Mo_begins 47 = .ok (.iload 4, 2) := by decide +kernel
theorem d_Mo_begins_49 : decode b_Mo_begins 49 = .ok (.bipush 15, 2) := by decide +kernel
theorem d_Mo_begins_51 : decode b_Mo_begins 51 = .ok (.iload_n 3, 1) := by decide +kernel
theorem d_Mo_begins_52 : decode b_Mo_begins 52 = .ok (.isub, 1) := by decide +kernel
theorem d_Mo_begins_53 : decode b_Mo_begins 53 = .ok (.ishl, 1) := by decide +kernel
theorem d_Mo_begins_54 : decode b_Mo_begins 54 = .ok (.iload 5, 2) := by decide +kernel
theorem d_Mo_begins_56 : decode b_Mo_begins 56 = .ok (.if_icmp .ge 7, 3) := by decide +kernel
theorem d_Mo_begins_59 : decode b_Mo_begins 59 = .ok (.iconst 1, 1) := by decide +kernel
theorem d_Mo_begins_60 : decode b_Mo_begins 60 = .ok (.goto 4, 3) := by decide +kernel
theorem d_Mo_begins_63 : decode b_Mo_begins 63 = .ok (.iconst 0, 1) := by decide +kernel
theorem d_Mo_begins_64 : decode b_Mo_begins 64 = .ok (.ireturn, 1) := by decide +kernel
theorem d_Mo_nth_0 : decode b_Mo_nth 0 = .ok (.iload 4, 2) := by decide +kernel
theorem d_Mo_nth_2 : decode b_Mo_nth 2 = .ok (.istore 5, 2) := by decide +kernel
theorem d_Mo_nth_4 : decode b_Mo_nth 4 = .ok (.iconst 0, 1) := by decide +kernel
theorem d_Mo_nth_5 : decode b_Mo_nth 5 = .ok (.istore 6, 2) := by decide +kernel
theorem d_Mo_nth_7 : decode b_Mo_nth 7 = .ok (.iload 6, 2) := by decide +kernel
theorem d_Mo_nth_9 : decode b_Mo_nth 9 = .ok (.iload_n 2, 1) := by decide +kernel
theorem d_Mo_nth_10 : decode b_Mo_nth 10 = .ok (.if_icmp .ge 30, 3) := by decide +kernel
theorem d_Mo_nth_13 : decode b_Mo_nth 13 = .ok (.aload_n 0, 1) := by decide +kernel
theorem d_Mo_nth_14 : decode b_Mo_nth 14 = .ok (.iload_n 1, 1) := by decide +kernel
theorem d_Mo_nth_15 : decode b_Mo_nth 15 = .ok (.iload 6, 2) := by decide +kernel
theorem d_Mo_nth_17 : decode b_Mo_nth 17 = .ok (.iadd, 1) := by decide +kernel
theorem d_Mo_nth_18 : decode b_Mo_nth 18 = .ok (.iaload, 1) := by decide +kernel
theorem d_Mo_nth_19 : decode b_Mo_nth 19 = .ok (.iload_n 3, 1) := by decide +kernel
theorem d_Mo_nth_20 : decode b_Mo_nth 20 = .ok (.if_icmp .ne 14, 3) := by decide +kernel
theorem d_Mo_nth_23 : decode b_Mo_nth 23 = .ok (.iload 5, 2) := by decide +kernel
theorem d_Mo_nth_25 : decode b_Mo_nth 25 = .ok (.ifCond .ne 6, 3) := by decide +kernel
theorem d_Mo_nth_28 : decode b_Mo_nth 28 = .ok (.iload 6, 2) := by decide +kernel
theorem d_Mo_nth_30 : decode b_Mo_nth 30 = .ok (.ireturn, 1) := by decide +kernel
theorem d_Mo_nth_31 : decode b_Mo_nth 31 = .ok (.iinc 5 (-1), 3) := by decide +kernel
theorem d_Mo_nth_34 : decode b_Mo_nth 34 = .ok (.iinc 6 1, 3) := by decide +kernel
theorem d_Mo_nth_37 : decode b_Mo_nth 37 = .ok (.goto (-30), 3) := by decide +kernel
theorem d_Mo_nth_40 : decode b_Mo_nth 40 = .ok (.iconst (-1), 1) := by decide +kernel
theorem d_Mo_nth_41 : decode b_Mo_nth 41 = .ok (.ireturn, 1) := by decide +kernel
theorem d_Mo_symbol_0 : decode b_Mo_symbol 0 = .ok (.iconst 0, 1) := by decide +kernel
theorem d_Mo_symbol_1 : decode b_Mo_symbol 1 = .ok (.istore 4, 2) := by decide +kernel
theorem d_Mo_symbol_3 : decode b_Mo_symbol 3 = .ok (.iconst 0, 1) := by decide +kernel
theorem d_Mo_symbol_4 : decode b_Mo_symbol 4 = .ok (.istore 5, 2) := by decide +kernel
theorem d_Mo_symbol_6 : decode b_Mo_symbol 6 = .ok (.iconst 1, 1) := by decide +kernel
theorem d_Mo_symbol_7 : decode b_Mo_symbol 7 = .ok (.istore 6, 2) := by decide +kernel
theorem d_Mo_symbol_9 : decode b_Mo_symbol 9 = .ok (.iload 6, 2) := by decide +kernel
theorem d_Mo_symbol_11 : decode b_Mo_symbol 11 = .ok (.bipush 15, 2) := by decide +kernel
theorem d_Mo_symbol_13 : decode b_Mo_symbol 13 = .ok (.if_icmp .gt 164, 3) := by decide +kernel
theorem d_Mo_symbol_16 : decode b_Mo_symbol 16 = .ok (.iconst 2, 1) := by decide +kernel
theorem d_Mo_symbol_17 : decode b_Mo_symbol 17 = .ok (.iload 5, 2) := by decide +kernel
theorem d_Mo_symbol_19 : decode b_Mo_symbol 19 = .ok (.imul, 1) := by decide +kernel
theorem d_Mo_symbol_20 : decode b_Mo_symbol 20 = .ok (.istore 5, 2) := by decide +kernel
theorem d_Mo_symbol_22 : decode b_Mo_symbol 22 = .ok (.iconst 0, 1) := by decide +kernel
theorem d_Mo_symbol_23 : decode b_Mo_symbol 23 = .ok (.istore 7, 2) := by decide +kernel
theorem d_Mo_symbol_25 : decode b_Mo_symbol 25 = .ok (.iconst 0, 1) := by decide +kernel
theorem d_Mo_symbol_26 : decode b_Mo_symbol 26 = .ok (.istore 8, 2) := by decide +kernel
theorem d_Mo_symbol_28 : decode b_Mo_symbol 28 = .ok (.iload_n 2, 1) := by decide +kernel
theorem d_Mo_symbol_29 : decode b_Mo_symbol 29 = .ok (.istore 9, 2) := by decide +kernel
theorem d_Mo_symbol_31 : decode b_Mo_symbol 31 = .ok (.iload 9, 2) := by decide +kernel
theorem d_Mo_symbol_33 : decode b_Mo_symbol 33 = .ok (.iload_n 2, 1) := by decide +kernel
theorem d_Mo_symbol_34 : decode b_Mo_symbol 34 = .ok (.iload_n 3, 1) := by decide +kernel
theorem d_Mo_symbol_35 : decode b_Mo_symbol 35 = .ok (.iadd, 1) := by decide +kernel
theorem d_Mo_symbol_36 : decode b_Mo_symbol 36 = .ok (.if_icmp .ge 49, 3) := by decide +kernel
theorem d_Mo_symbol_39 : decode b_Mo_symbol 39 = .ok (.aload_n 1, 1) := by decide +kernel
theorem d_Mo_symbol_40 : decode b_Mo_symbol 40 = .ok (.iload 9, 2) := by decide +kernel
theorem d_Mo_symbol_42 : decode b_Mo_symbol 42 = .ok (.iaload, 1) := by decide +kernel
theorem d_Mo_symbol_43 : decode b_Mo_symbol 43 = .ok (.iload 6, 2) := by decide +kernel
theorem d_Mo_symbol_45 : decode b_Mo_symbol 45 = .ok (.if_icmp .ne 10, 3) := by decide +kernel
theorem d_Mo_symbol_48 : decode b_Mo_symbol 48 = .ok (.iload 7, 2) := by decide +kernel
theorem d_Mo_symbol_50 : decode b_Mo_symbol 50 = .ok (.iconst 1, 1) := by decide +kernel
theorem d_Mo_symbol_51 : decode b_Mo_symbol 51 = .ok (.iadd, 1) := by decide +kernel
theorem d_Mo_symbol_52 : decode b_Mo_symbol 52 = .ok (.goto 5, 3) := by decide +kernel
theorem d_Mo_symbol_55 : decode b_Mo_symbol 55 = .ok (.iload 7, 2) := by decide +kernel
theorem d_Mo_symbol_57 : decode b_Mo_symbol 57 = .ok (.istore 7, 2) := by decide +kernel
theorem d_Mo_symbol_59 : decode b_Mo_symbol 59 = .ok (.aload_n 1, 1) := by decide +kernel
theorem d_Mo_symbol_60 : decode b_Mo_symbol 60 = .ok (.iload 9, 2) := by decide +kernel
theorem d_Mo_symbol_62 : decode b_Mo_symbol 62 = .ok (.iaload, 1) := by decide +kernel
theorem d_Mo_symbol_63 : decode b_Mo_symbol 63 = .ok (.iload 6, 2) := by decide +kernel
theorem d_Mo_symbol_65 : decode b_Mo_symbol 65 = .ok (.if_icmp .lt 10, 3) := by decide +kernel
theorem d_Mo_symbol_68 : decode b_Mo_symbol 68 = .ok (.iload 8, 2) := by decide +kernel
theorem d_Mo_symbol_70 : decode b_Mo_symbol 70 = .ok (.iconst 1, 1) := by decide +kernel
theorem d_Mo_symbol_71 : decode b_Mo_symbol 71 = .ok (.iadd, 1) := by decide +kernel
theorem d_Mo_symbol_72 : decode b_Mo_symbol 72 = .ok (.goto 5, 3) := by decide +kernel
theorem d_Mo_symbol_75 : decode b_Mo_symbol 75 = .ok (.iload 8, 2) := by decide +kernel
theorem d_Mo_symbol_77 : decode b_Mo_symbol 77 = .ok (.istore 8, 2) := by decide +kernel
theorem d_Mo_symbol_79 : decode b_Mo_symbol 79 = .ok (.iinc 9 1, 3) := by decide +kernel
theorem d_Mo_symbol_82 : decode b_Mo_symbol 82 = .ok (.goto (-51), 3) := by decide +kernel
theorem d_Mo_symbol_85 : decode b_Mo_symbol 85 = .ok (.iload 8, 2) := by decide +kernel
theorem d_Mo_symbol_87 : decode b_Mo_symbol 87 = .ok (.ifCond .ne 9, 3) := by decide +kernel
theorem d_Mo_symbol_90 : decode b_Mo_symbol 90 = .ok (.aload_n 0, 1) := by decide +kernel
theorem d_Mo_symbol_91 : decode b_Mo_symbol 91 = .ok (.bipush 8, 2) := by decide +kernel
theorem d_Mo_symbol_93 : decode b_Mo_symbol 93 = .ok (.invokevirtual 81, 3) := by decide +kernel
theorem d_Mo_symbol_96 : decode b_Mo_symbol 96 = .ok (.iconst 2, 1) := by decide +kernel
theorem d_Mo_symbol_97 : decode b_Mo_symbol 97 = .ok (.iload 4, 2) := by decide +kernel
theorem d_Mo_symbol_99 : decode b_Mo_symbol 99 = .ok (.imul, 1) := by decide +kernel
theorem d_Mo_symbol_100 : decode b_Mo_symbol 100 = .ok (.aload_n 0, 1) := by decide +kernel
theorem d_Mo_symbol_101 : decode b_Mo_symbol 101 = .ok (.invokevirtual 85, 3) := by decide +kernel
theorem d_Mo_symbol_104 : decode b_Mo_symbol 104 = .ok (.iadd, 1) := by decide +kernel
theorem d_Mo_symbol_105 : decode b_Mo_symbol 105 = .ok (.istore 4, 2) := by decide +kernel
theorem d_Mo_symbol_107 : decode b_Mo_symbol 107 = .ok (.aload_n 0, 1) := by decide +kernel
theorem d_Mo_symbol_108 : decode b_Mo_symbol 108 = .ok (.getfield 75, 3) := by decide +kernel
theorem d_Mo_symbol_111 : decode b_Mo_symbol 111 = .ok (.ifCond .eq 5, 3) := by decide +kernel
theorem d_Mo_symbol_114 : decode b_Mo_symbol 114 = .ok (.iconst (-1), 1) := by decide +kernel
theorem d_Mo_symbol_115 : decode b_Mo_symbol 115 = .ok (.ireturn, 1) := by decide +kernel
theorem d_Mo_symbol_116 : decode b_Mo_symbol 116 = .ok (.iload 4, 2) := by decide +kernel
theorem d_Mo_symbol_118 : decode b_Mo_symbol 118 = .ok (.iload 5, 2) := by decide +kernel
theorem d_Mo_symbol_120 : decode b_Mo_symbol 120 = .ok (.isub, 1) := by decide +kernel
theorem d_Mo_symbol_121 : decode b_Mo_symbol 121 = .ok (.iload 7, 2) := by decide +kernel
theorem d_Mo_symbol_123 : decode b_Mo_symbol 123 = .ok (.if_icmp .ge 17, 3) := by decide +kernel
theorem d_Mo_symbol_126 : decode b_Mo_symbol 126 = .ok (.aload_n 1, 1) := by decide +kernel
theorem d_Mo_symbol_127 : decode b_Mo_symbol 127 = .ok (.iload_n 2, 1) := by decide +kernel
theorem d_Mo_symbol_128 : decode b_Mo_symbol 128 = .ok (.iload_n 3, 1) := by decide +kernel
theorem d_Mo_symbol_129 : decode b_Mo_symbol 129 = .ok (.iload 6, 2) := by decide +kernel
theorem d_Mo_symbol_131 : decode b_Mo_symbol 131 = .ok (.iload 4, 2) := by decide +kernel
theorem d_Mo_symbol_133 : decode b_Mo_symbol 133 = .ok (.iload 5, 2) := by decide +kernel
theorem d_Mo_symbol_135 : decode b_Mo_symbol 135 = .ok (.isub, 1) := by decide +kernel
theorem d_Mo_symbol_136 : decode b_Mo_symbol 136 = .ok (.invokestatic 97, 3) := by decide +kernel
theorem d_Mo_symbol_139 : decode b_Mo_symbol 139 = .ok (.ireturn, 1) := by decide +kernel
theorem d_Mo_symbol_140 : decode b_Mo_symbol 140 = .ok (.iload 5, 2) := by decide +kernel
theorem d_Mo_symbol_142 : decode b_Mo_symbol 142 = .ok (.iload 7, 2) := by decide +kernel
theorem d_Mo_symbol_144 : decode b_Mo_symbol 144 = .ok (.iadd, 1) := by decide +kernel
theorem d_Mo_symbol_145 : decode b_Mo_symbol 145 = .ok (.istore 5, 2) := by decide +kernel
theorem d_Mo_symbol_147 : decode b_Mo_symbol 147 = .ok (.aload_n 1, 1) := by decide +kernel
theorem d_Mo_symbol_148 : decode b_Mo_symbol 148 = .ok (.iload_n 2, 1) := by decide +kernel
theorem d_Mo_symbol_149 : decode b_Mo_symbol 149 = .ok (.iload_n 3, 1) := by decide +kernel
theorem d_Mo_symbol_150 : decode b_Mo_symbol 150 = .ok (.iload 6, 2) := by decide +kernel
theorem d_Mo_symbol_152 : decode b_Mo_symbol 152 = .ok (.iload 4, 2) := by decide +kernel
theorem d_Mo_symbol_154 : decode b_Mo_symbol 154 = .ok (.iload 5, 2) := by decide +kernel
theorem d_Mo_symbol_156 : decode b_Mo_symbol 156 = .ok (.isub, 1) := by decide +kernel
theorem d_Mo_symbol_157 : decode b_Mo_symbol 157 = .ok (.invokestatic 101, 3) := by decide +kernel
theorem d_Mo_symbol_160 : decode b_Mo_symbol 160 = .ok (.ifCond .ne 11, 3) := by decide +kernel
theorem d_Mo_symbol_163 : decode b_Mo_symbol 163 = .ok (.aload_n 0, 1) := by decide +kernel
theorem d_Mo_symbol_164 : decode b_Mo_symbol 164 = .ok (.bipush 8, 2) := by decide +kernel
theorem d_Mo_symbol_166 : decode b_Mo_symbol 166 = .ok (.invokevirtual 81, 3) := by decide +kernel
theorem d_Mo_symbol_169 : decode b_Mo_symbol 169 = .ok (.iconst (-1), 1) := by decide +kernel
theorem d_Mo_symbol_170 : decode b_Mo_symbol 170 = .ok (.ireturn, 1) := by decide +kernel
theorem d_Mo_symbol_171 : decode b_Mo_symbol 171 = .ok (.iinc 6 1, 3) := by decide +kernel
theorem d_Mo_symbol_174 : decode b_Mo_symbol 174 = .ok (.goto (-165), 3) := by decide +kernel
theorem d_Mo_symbol_177 : decode b_Mo_symbol 177 = .ok (.aload_n 0, 1) := by decide +kernel
theorem d_Mo_symbol_178 : decode b_Mo_symbol 178 = .ok (.bipush 8, 2) := by decide +kernel
theorem d_Mo_symbol_180 : decode b_Mo_symbol 180 = .ok (.invokevirtual 81, 3) := by decide +kernel
theorem d_Mo_symbol_183 : decode b_Mo_symbol 183 = .ok (.iconst (-1), 1) := by decide +kernel
theorem d_Mo_symbol_184 : decode b_Mo_symbol 184 = .ok (.ireturn, 1) := by decide +kernel
theorem d_Mo_smallOrder_0 : decode b_Mo_smallOrder 0 = .ok (.iload_n 0, 1) := by decide +kernel
theorem d_Mo_smallOrder_1 : decode b_Mo_smallOrder 1 = .ok (.ifCond .ne 8, 3) := by decide +kernel
theorem d_Mo_smallOrder_4 : decode b_Mo_smallOrder 4 = .ok (.bipush 16, 2) := by decide +kernel
theorem d_Mo_smallOrder_6 : decode b_Mo_smallOrder 6 = .ok (.goto 57, 3) := by decide +kernel
theorem d_Mo_smallOrder_9 : decode b_Mo_smallOrder 9 = .ok (.iload_n 0, 1) := by decide +kernel
theorem d_Mo_smallOrder_10 : decode b_Mo_smallOrder 10 = .ok (.iconst 1, 1) := by decide +kernel
theorem d_Mo_smallOrder_11 : decode b_Mo_smallOrder 11 = .ok (.if_icmp .ne 8, 3) := by decide +kernel
theorem d_Mo_smallOrder_14 : decode b_Mo_smallOrder 14 = .ok (.bipush 17, 2) := by decide +kernel
theorem d_Mo_smallOrder_16 : decode b_Mo_smallOrder 16 = .ok (.goto 47, 3) := by decide +kernel
theorem d_Mo_smallOrder_19 : decode b_Mo_smallOrder 19 = .ok (.iload_n 0, 1) := by decide +kernel
theorem d_Mo_smallOrder_20 : decode b_Mo_smallOrder 20 = .ok (.iconst 2, 1) := by decide +kernel
theorem d_Mo_smallOrder_21 : decode b_Mo_smallOrder 21 = .ok (.if_icmp .ne 8, 3) := by decide +kernel
theorem d_Mo_smallOrder_24 : decode b_Mo_smallOrder 24 = .ok (.bipush 18, 2) := by decide +kernel
theorem d_Mo_smallOrder_26 : decode b_Mo_smallOrder 26 = .ok (.goto 37, 3) := by decide +kernel
theorem d_Mo_smallOrder_29 : decode b_Mo_smallOrder 29 = .ok (.iload_n 0, 1) := by decide +kernel
theorem d_Mo_smallOrder_30 : decode b_Mo_smallOrder 30 = .ok (.iconst 3, 1) := by decide +kernel
theorem d_Mo_smallOrder_31 : decode b_Mo_smallOrder 31 = .ok (.if_icmp .ne 7, 3) := by decide +kernel
theorem d_Mo_smallOrder_34 : decode b_Mo_smallOrder 34 = .ok (.iconst 0, 1) := by decide +kernel
theorem d_Mo_smallOrder_35 : decode b_Mo_smallOrder 35 = .ok (.goto 28, 3) := by decide +kernel
theorem d_Mo_smallOrder_38 : decode b_Mo_smallOrder 38 = .ok (.iload_n 0, 1) := by decide +kernel
theorem d_Mo_smallOrder_39 : decode b_Mo_smallOrder 39 = .ok (.iconst 2, 1) := by decide +kernel
theorem d_Mo_smallOrder_40 : decode b_Mo_smallOrder 40 = .ok (.irem, 1) := by decide +kernel
theorem d_Mo_smallOrder_41 : decode b_Mo_smallOrder 41 = .ok (.ifCond .ne 14, 3) := by decide +kernel
theorem d_Mo_smallOrder_44 : decode b_Mo_smallOrder 44 = .ok (.bipush 8, 2) := by decide +kernel
theorem d_Mo_smallOrder_46 : decode b_Mo_smallOrder 46 = .ok (.iload_n 0, 1) := by decide +kernel
theorem d_Mo_smallOrder_47 : decode b_Mo_smallOrder 47 = .ok (.iconst 4, 1) := by decide +kernel
theorem d_Mo_smallOrder_48 : decode b_Mo_smallOrder 48 = .ok (.isub, 1) := by decide +kernel
theorem d_Mo_smallOrder_49 : decode b_Mo_smallOrder 49 = .ok (.iconst 2, 1) := by decide +kernel
theorem d_Mo_smallOrder_50 : decode b_Mo_smallOrder 50 = .ok (.idiv, 1) := by decide +kernel
theorem d_Mo_smallOrder_51 : decode b_Mo_smallOrder 51 = .ok (.iadd, 1) := by decide +kernel
theorem d_Mo_smallOrder_52 : decode b_Mo_smallOrder 52 = .ok (.goto 11, 3) := by decide +kernel
theorem d_Mo_smallOrder_55 : decode b_Mo_smallOrder 55 = .ok (.bipush 7, 2) := by decide +kernel
theorem d_Mo_smallOrder_57 : decode b_Mo_smallOrder 57 = .ok (.iload_n 0, 1) := by decide +kernel
theorem d_Mo_smallOrder_58 : decode b_Mo_smallOrder 58 = .ok (.iconst 5, 1) := by decide +kernel
theorem d_Mo_smallOrder_59 : decode b_Mo_smallOrder 59 = .ok (.isub, 1) := by decide +kernel
theorem d_Mo_smallOrder_60 : decode b_Mo_smallOrder 60 = .ok (.iconst 2, 1) := by decide +kernel
theorem d_Mo_smallOrder_61 : decode b_Mo_smallOrder 61 = .ok (.idiv, 1) := by decide +kernel
theorem d_Mo_smallOrder_62 : decode b_Mo_smallOrder 62 = .ok (.isub, 1) := by decide +kernel
theorem d_Mo_smallOrder_63 : decode b_Mo_smallOrder 63 = .ok (.ireturn, 1) := by decide +kernel
theorem d_Mo_fixedLengths_0 : decode b_Mo_fixedLengths 0 = .ok (.iconst 0, 1) := by decide +kernel
theorem d_Mo_fixedLengths_1 : decode b_Mo_fixedLengths 1 = .ok (.istore_n 1, 1) := by decide +kernel
theorem d_Mo_fixedLengths_2 : decode b_Mo_fixedLengths 2 = .ok (.iload_n 1, 1) := by decide +kernel
theorem d_Mo_fixedLengths_3 : decode b_Mo_fixedLengths 3 = .ok (.sipush 288, 3) := by decide +kernel
theorem d_Mo_fixedLengths_6 : decode b_Mo_fixedLengths 6 = .ok (.if_icmp .ge 53, 3) := by decide +kernel
theorem d_Mo_fixedLengths_9 : decode b_Mo_fixedLengths 9 = .ok (.aload_n 0, 1) := by decide +kernel
theorem d_Mo_fixedLengths_10 : decode b_Mo_fixedLengths 10 = .ok (.getfield 19, 3) := by decide +kernel
theorem d_Mo_fixedLengths_13 : decode b_Mo_fixedLengths 13 = .ok (.iload_n 1, 1) := by decide +kernel
theorem d_Mo_fixedLengths_14 : decode b_Mo_fixedLengths 14 = .ok (.iload_n 1, 1) := by decide +kernel
theorem d_Mo_fixedLengths_15 : decode b_Mo_fixedLengths 15 = .ok (.sipush 144, 3) := by decide +kernel
theorem d_Mo_fixedLengths_18 : decode b_Mo_fixedLengths 18 = .ok (.if_icmp .ge 8, 3) := by decide +kernel
theorem d_Mo_fixedLengths_21 : decode b_Mo_fixedLengths 21 = .ok (.bipush 8, 2) := by decide +kernel
theorem d_Mo_fixedLengths_23 : decode b_Mo_fixedLengths 23 = .ok (.goto 29, 3) := by decide +kernel
theorem d_Mo_fixedLengths_26 : decode b_Mo_fixedLengths 26 = .ok (.iload_n 1, 1) := by decide +kernel
theorem d_Mo_fixedLengths_27 : decode b_Mo_fixedLengths 27 = .ok (.sipush 256, 3) := by decide +kernel
theorem d_Mo_fixedLengths_30 : decode b_Mo_fixedLengths 30 = .ok (.if_icmp .ge 8, 3) := by decide +kernel
theorem d_Mo_fixedLengths_33 : decode b_Mo_fixedLengths 33 = .ok (.bipush 9, 2) := by decide +kernel
theorem d_Mo_fixedLengths_35 : decode b_Mo_fixedLengths 35 = .ok (.goto 17, 3) := by decide +kernel
theorem d_Mo_fixedLengths_38 : decode b_Mo_fixedLengths 38 = .ok (.iload_n 1, 1) := by decide +kernel
theorem d_Mo_fixedLengths_39 : decode b_Mo_fixedLengths 39 = .ok (.sipush 280, 3) := by decide +kernel
theorem d_Mo_fixedLengths_42 : decode b_Mo_fixedLengths 42 = .ok (.if_icmp .ge 8, 3) := by decide +kernel
theorem d_Mo_fixedLengths_45 : decode b_Mo_fixedLengths 45 = .ok (.bipush 7, 2) := by decide +kernel
theorem d_Mo_fixedLengths_47 : decode b_Mo_fixedLengths 47 = .ok (.goto 5, 3) := by decide +kernel
theorem d_Mo_fixedLengths_50 : decode b_Mo_fixedLengths 50 = .ok (.bipush 8, 2) := by decide +kernel
theorem d_Mo_fixedLengths_52 : decode b_Mo_fixedLengths 52 = .ok (.iastore, 1) := by decide +kernel
theorem d_Mo_fixedLengths_53 : decode b_Mo_fixedLengths 53 = .ok (.iinc 1 1, 3) := by decide +kernel
theorem d_Mo_fixedLengths_56 : decode b_Mo_fixedLengths 56 = .ok (.goto (-54), 3) := by decide +kernel
theorem d_Mo_fixedLengths_59 : decode b_Mo_fixedLengths 59 = .ok (.sipush 288, 3) := by decide +kernel
theorem d_Mo_fixedLengths_62 : decode b_Mo_fixedLengths 62 = .ok (.istore_n 1, 1) := by decide +kernel
theorem d_Mo_fixedLengths_63 : decode b_Mo_fixedLengths 63 = .ok (.iload_n 1, 1) := by decide +kernel
theorem d_Mo_fixedLengths_64 : decode b_Mo_fixedLengths 64 = .ok (.sipush 320, 3) := by decide +kernel
theorem d_Mo_fixedLengths_67 : decode b_Mo_fixedLengths 67 = .ok (.if_icmp .ge 16, 3) := by decide +kernel
theorem d_Mo_fixedLengths_70 : decode b_Mo_fixedLengths 70 = .ok (.aload_n 0, 1) := by decide +kernel
theorem d_Mo_fixedLengths_71 : decode b_Mo_fixedLengths 71 = .ok (.getfield 19, 3) := by decide +kernel
theorem d_Mo_fixedLengths_74 : decode b_Mo_fixedLengths 74 = .ok (.iload_n 1, 1) := by decide +kernel
theorem d_Mo_fixedLengths_75 : decode b_Mo_fixedLengths 75 = .ok (.iconst 5, 1) := by decide +kernel
theorem d_Mo_fixedLengths_76 : decode b_Mo_fixedLengths 76 = .ok (.iastore, 1) := by decide +kernel
theorem d_Mo_fixedLengths_77 : decode b_Mo_fixedLengths 77 = .ok (.iinc 1 1, 3) := by decide +kernel
theorem d_Mo_fixedLengths_80 : decode b_Mo_fixedLengths 80 = .ok (.goto (-17), 3) := by decide +kernel
theorem d_Mo_fixedLengths_83 : decode b_Mo_fixedLengths 83 = .ok (.return_, 1) := by decide +kernel
theorem d_Mo_readLengths_0 : decode b_Mo_readLengths 0 = .ok (.aload_n 0, 1) := by decide +kernel
theorem d_Mo_readLengths_1 : decode b_Mo_readLengths 1 = .ok (.iconst 5, 1) := by decide +kernel
theorem d_Mo_readLengths_2 : decode b_Mo_readLengths 2 = .ok (.invokevirtual 105, 3) := by decide +kernel
theorem d_Mo_readLengths_5 : decode b_Mo_readLengths 5 = .ok (.istore_n 1, 1) := by decide +kernel
theorem d_Mo_readLengths_6 : decode b_Mo_readLengths 6 = .ok (.aload_n 0, 1) := by decide +kernel
theorem d_Mo_readLengths_7 : decode b_Mo_readLengths 7 = .ok (.iconst 5, 1) := by decide +kernel
theorem d_Mo_readLengths_8 : decode b_Mo_readLengths 8 = .ok (.invokevirtual 105, 3) := by decide +kernel
theorem d_Mo_readLengths_11 : decode b_Mo_readLengths 11 = .ok (.istore_n 2, 1) := by decide +kernel
theorem d_Mo_readLengths_12 : decode b_Mo_readLengths 12 = .ok (.iload_n 1, 1) := by decide +kernel
theorem d_Mo_readLengths_13 : decode b_Mo_readLengths 13 = .ok (.bipush 29, 2) := by decide +kernel
theorem d_Mo_readLengths_15 : decode b_Mo_readLengths 15 = .ok (.if_icmp .gt 9, 3) := by decide +kernel
theorem d_Mo_readLengths_18 : decode b_Mo_readLengths 18 = .ok (.iload_n 2, 1) := by decide +kernel
theorem d_Mo_readLengths_19 : decode b_Mo_readLengths 19 = .ok (.bipush 29, 2) := by decide +kernel
theorem d_Mo_readLengths_21 : decode b_Mo_readLengths 21 = .ok (.if_icmp .le 8, 3) := by decide +kernel
theorem d_Mo_readLengths_24 : decode b_Mo_readLengths 24 = .ok (.aload_n 0, 1) := by decide +kernel
theorem d_Mo_readLengths_25 : decode b_Mo_readLengths 25 = .ok (.iconst 5, 1) := by decide +kernel
theorem d_Mo_readLengths_26 : decode b_Mo_readLengths 26 = .ok (.invokevirtual 81, 3) := by decide +kernel
theorem d_Mo_readLengths_29 : decode b_Mo_readLengths 29 = .ok (.aload_n 0, 1) := by decide +kernel
theorem d_Mo_readLengths_30 : decode b_Mo_readLengths 30 = .ok (.iconst 4, 1) := by decide +kernel
theorem d_Mo_readLengths_31 : decode b_Mo_readLengths 31 = .ok (.invokevirtual 105, 3) := by decide +kernel
theorem d_Mo_readLengths_34 : decode b_Mo_readLengths 34 = .ok (.istore_n 3, 1) := by decide +kernel
theorem d_Mo_readLengths_35 : decode b_Mo_readLengths 35 = .ok (.iconst 0, 1) := by decide +kernel
theorem d_Mo_readLengths_36 : decode b_Mo_readLengths 36 = .ok (.istore 4, 2) := by decide +kernel
theorem d_Mo_readLengths_38 : decode b_Mo_readLengths 38 = .ok (.iload 4, 2) := by decide +kernel
theorem d_Mo_readLengths_40 : decode b_Mo_readLengths 40 = .ok (.bipush 19, 2) := by decide +kernel
theorem d_Mo_readLengths_42 : decode b_Mo_readLengths 42 = .ok (.if_icmp .ge 36, 3) := by decide +kernel
theorem d_Mo_readLengths_45 : decode b_Mo_readLengths 45 = .ok (.aload_n 0, 1) := by decide +kernel
theorem d_Mo_readLengths_46 : decode b_Mo_readLengths 46 = .ok (.getfield 22, 3) := by decide +kernel
theorem d_Mo_readLengths_49 : decode b_Mo_readLengths 49 = .ok (.iload 4, 2) := by decide +kernel
theorem d_Mo_readLengths_51 : decode b_Mo_readLengths 51 = .ok (.invokestatic 109, 3) := by decide +kernel
theorem d_Mo_readLengths_54 : decode b_Mo_readLengths 54 = .ok (.iload 4, 2) := by decide +kernel
theorem d_Mo_readLengths_56 : decode b_Mo_readLengths 56 = .ok (.iload_n 3, 1) := by decide +kernel
theorem d_Mo_readLengths_57 : decode b_Mo_readLengths 57 = .ok (.iconst 4, 1) := by decide +kernel
theorem d_Mo_readLengths_58 : decode b_Mo_readLengths 58 = .ok (.iadd, 1) := by decide +kernel
theorem d_Mo_readLengths_59 : decode b_Mo_readLengths 59 = .ok (.if_icmp .ge 11, 3) := by decide +kernel
theorem d_Mo_readLengths_62 : decode b_Mo_readLengths 62 = .ok (.aload_n 0, 1) := by decide +kernel
theorem d_Mo_readLengths_63 : decode b_Mo_readLengths 63 = .ok (.iconst 3, 1) := by decide +kernel
theorem d_Mo_readLengths_64 : decode b_Mo_readLengths 64 = .ok (.invokevirtual 105, 3) := by decide +kernel
theorem d_Mo_readLengths_67 : decode b_Mo_readLengths 67 = .ok (.goto 4, 3) := by decide +kernel
theorem d_Mo_readLengths_70 : decode b_Mo_readLengths 70 = .ok (.iconst 0, 1) := by decide +kernel
theorem d_Mo_readLengths_71 : decode b_Mo_readLengths 71 = .ok (.iastore, 1) := by decide +kernel
theorem d_Mo_readLengths_72 : decode b_Mo_readLengths 72 = .ok (.iinc 4 1, 3) := by decide +kernel
theorem d_Mo_readLengths_75 : decode b_Mo_readLengths 75 = .ok (.goto (-37), 3) := by decide +kernel
theorem d_Mo_readLengths_78 : decode b_Mo_readLengths 78 = .ok (.aload_n 0, 1) := by decide +kernel
theorem d_Mo_readLengths_79 : decode b_Mo_readLengths 79 = .ok (.getfield 75, 3) := by decide +kernel
theorem d_Mo_readLengths_82 : decode b_Mo_readLengths 82 = .ok (.ifCond .ne 23, 3) := by decide +kernel
theorem d_Mo_readLengths_85 : decode b_Mo_readLengths 85 = .ok (.aload_n 0, 1) := by decide +kernel
theorem d_Mo_readLengths_86 : decode b_Mo_readLengths 86 = .ok (.getfield 22, 3) := by decide +kernel
theorem d_Mo_readLengths_89 : decode b_Mo_readLengths 89 = .ok (.iconst 0, 1) := by decide +kernel
theorem d_Mo_readLengths_90 : decode b_Mo_readLengths 90 = .ok (.bipush 19, 2) := by decide +kernel
theorem d_Mo_readLengths_92 : decode b_Mo_readLengths 92 = .ok (.iconst 0, 1) := by decide +kernel
theorem d_Mo_readLengths_93 : decode b_Mo_readLengths 93 = .ok (.invokestatic 112, 3) := by decide +kernel
theorem d_Mo_readLengths_96 : decode b_Mo_readLengths 96 = .ok (.ifCond .ne 9, 3) := by decide +kernel
theorem d_Mo_readLengths_99 : decode b_Mo_readLengths 99 = .ok (.aload_n 0, 1) := by decide +kernel
theorem d_Mo_readLengths_100 : decode b_Mo_readLengths 100 = .ok (.bipush 7, 2) := by decide +kernel
theorem d_Mo_readLengths_102 : decode b_Mo_readLengths 102 = .ok (.invokevirtual 81, 3) := by decide +kernel
theorem d_Mo_readLengths_105 : decode b_Mo_readLengths 105 = .ok (.iload_n 1, 1) := by decide +kernel
theorem d_Mo_readLengths_106 : decode b_Mo_readLengths 106 = .ok (.iload_n 2, 1) := by decide +kernel
theorem d_Mo_readLengths_107 : decode b_Mo_readLengths 107 = .ok (.iadd, 1) := by decide +kernel
theorem d_Mo_readLengths_108 : decode b_Mo_readLengths 108 = .ok (.sipush 258, 3) := by decide +kernel
theorem d_Mo_readLengths_111 : decode b_Mo_readLengths 111 = .ok (.iadd, 1) := by decide +kernel
theorem d_Mo_readLengths_112 : decode b_Mo_readLengths 112 = .ok (.istore 4, 2) := by decide +kernel
theorem d_Mo_readLengths_114 : decode b_Mo_readLengths 114 = .ok (.iconst 0, 1) := by decide +kernel
theorem d_Mo_readLengths_115 : decode b_Mo_readLengths 115 = .ok (.istore 5, 2) := by decide +kernel
theorem d_Mo_readLengths_117 : decode b_Mo_readLengths 117 = .ok (.iload 5, 2) := by decide +kernel
theorem d_Mo_readLengths_119 : decode b_Mo_readLengths 119 = .ok (.iload 4, 2) := by decide +kernel
theorem d_Mo_readLengths_121 : decode b_Mo_readLengths 121 = .ok (.if_icmp .ge 188, 3) := by decide +kernel
theorem d_Mo_readLengths_124 : decode b_Mo_readLengths 124 = .ok (.aload_n 0, 1) := by decide +kernel
theorem d_Mo_readLengths_125 : decode b_Mo_readLengths 125 = .ok (.getfield 75, 3) := by decide +kernel
theorem d_Mo_readLengths_128 : decode b_Mo_readLengths 128 = .ok (.ifCond .ne 181, 3) := by decide +kernel
theorem d_Mo_readLengths_131 : decode b_Mo_readLengths 131 = .ok (.aload_n 0, 1) := by decide +kernel
theorem d_Mo_readLengths_132 : decode b_Mo_readLengths 132 = .ok (.aload_n 0, 1) := by decide +kernel
theorem d_Mo_readLengths_133 : decode b_Mo_readLengths 133 = .ok (.getfield 22, 3) := by decide +kernel
theorem d_Mo_readLengths_136 : decode b_Mo_readLengths 136 = .ok (.iconst 0, 1) := by decide +kernel
theorem d_Mo_readLengths_137 : decode b_Mo_readLengths 137 = .ok (.bipush 19, 2) := by decide +kernel
theorem d_Mo_readLengths_139 : decode b_Mo_readLengths 139 = .ok (.invokevirtual 116, 3) := by decide +kernel
theorem d_Mo_readLengths_142 : decode b_Mo_readLengths 142 = .ok (.istore 6, 2) := by decide +kernel
theorem d_Mo_readLengths_144 : decode b_Mo_readLengths 144 = .ok (.iload 6, 2) := by decide +kernel
theorem d_Mo_readLengths_146 : decode b_Mo_readLengths 146 = .ok (.bipush 16, 2) := by decide +kernel
theorem d_Mo_readLengths_148 : decode b_Mo_readLengths 148 = .ok (.if_icmp .ne 14, 3) := by decide +kernel
theorem d_Mo_readLengths_151 : decode b_Mo_readLengths 151 = .ok (.iload 5, 2) := by decide +kernel
theorem d_Mo_readLengths_153 : decode b_Mo_readLengths 153 = .ok (.ifCond .ne 9, 3) := by decide +kernel
theorem d_Mo_readLengths_156 : decode b_Mo_readLengths 156 = .ok (.aload_n 0, 1) := by decide +kernel
theorem d_Mo_readLengths_157 : decode b_Mo_readLengths 157 = .ok (.bipush 6, 2) := by decide +kernel
theorem d_Mo_readLengths_159 : decode b_Mo_readLengths 159 = .ok (.invokevirtual 81, 3) := by decide +kernel
theorem d_Mo_readLengths_162 : decode b_Mo_readLengths 162 = .ok (.iload 6, 2) := by decide +kernel
theorem d_Mo_readLengths_164 : decode b_Mo_readLengths 164 = .ok (.bipush 16, 2) := by decide +kernel
theorem d_Mo_readLengths_166 : decode b_Mo_readLengths 166 = .ok (.if_icmp .ne 13, 3) := by decide +kernel
theorem d_Mo_readLengths_169 : decode b_Mo_readLengths 169 = .ok (.iconst 3, 1) := by decide +kernel
theorem d_Mo_readLengths_170 : decode b_Mo_readLengths 170 = .ok (.aload_n 0, 1) := by decide +kernel
theorem d_Mo_readLengths_171 : decode b_Mo_readLengths 171 = .ok (.iconst 2, 1) := by decide +kernel
theorem d_Mo_readLengths_172 : decode b_Mo_readLengths 172 = .ok (.invokevirtual 105, 3) := by decide +kernel
theorem d_Mo_readLengths_175 : decode b_Mo_readLengths 175 = .ok (.iadd, 1) := by decide +kernel
theorem d_Mo_readLengths_176 : decode b_Mo_readLengths 176 = .ok (.goto 40, 3) := by decide +kernel
theorem d_Mo_readLengths_179 : decode b_Mo_readLengths 179 = .ok (.iload 6, 2) := by decide +kernel
theorem d_Mo_readLengths_181 : decode b_Mo_readLengths 181 = .ok (.bipush 17, 2) := by decide +kernel
theorem d_Mo_readLengths_183 : decode b_Mo_readLengths 183 = .ok (.if_icmp .ne 13, 3) := by decide +kernel
theorem d_Mo_readLengths_186 : decode b_Mo_readLengths 186 = .ok (.iconst 3, 1) := by decide +kernel
theorem d_Mo_readLengths_187 : decode b_Mo_readLengths 187 = .ok (.aload_n 0, 1) := by decide +kernel
theorem d_Mo_readLengths_188 : decode b_Mo_readLengths 188 = .ok (.iconst 3, 1) := by decide +kernel
theorem d_Mo_readLengths_189 : decode b_Mo_readLengths 189 = .ok (.invokevirtual 105, 3) := by decide +kernel
theorem d_Mo_readLengths_192 : decode b_Mo_readLengths 192 = .ok (.iadd, 1) := by decide +kernel
theorem d_Mo_readLengths_193 : decode b_Mo_readLengths 193 = .ok (.goto 23, 3) := by decide +kernel
theorem d_Mo_readLengths_196 : decode b_Mo_readLengths 196 = .ok (.iload 6, 2) := by decide +kernel
theorem d_Mo_readLengths_198 : decode b_Mo_readLengths 198 = .ok (.bipush 18, 2) := by decide +kernel
theorem d_Mo_readLengths_200 : decode b_Mo_readLengths 200 = .ok (.if_icmp .ne 15, 3) := by decide +kernel
theorem d_Mo_readLengths_203 : decode b_Mo_readLengths 203 = .ok (.bipush 11, 2) := by decide +kernel
theorem d_Mo_readLengths_205 : decode b_Mo_readLengths 205 = .ok (.aload_n 0, 1) := by decide +kernel
theorem d_Mo_readLengths_206 : decode b_Mo_readLengths 206 = .ok (.bipush 7, 2) := by decide +kernel
theorem d_Mo_readLengths_208 : decode b_Mo_readLengths 208 = .ok (.invokevirtual 105, 3) := by decide +kernel
theorem d_Mo_readLengths_211 : decode b_Mo_readLengths 211 = .ok (.iadd, 1) := by decide +kernel
theorem d_Mo_readLengths_212 : decode b_Mo_readLengths 212 = .ok (.goto 4, 3) := by decide +kernel
theorem d_Mo_readLengths_215 : decode b_Mo_readLengths 215 = .ok (.iconst 1, 1) := by decide +kernel
theorem d_Mo_readLengths_216 : decode b_Mo_readLengths 216 = .ok (.istore 7, 2) := by decide +kernel
theorem d_Mo_readLengths_218 : decode b_Mo_readLengths 218 = .ok (.aload_n 0, 1) := by decide +kernel
theorem d_Mo_readLengths_219 : decode b_Mo_readLengths 219 = .ok (.getfield 75, 3) := by decide +kernel
theorem d_Mo_readLengths_222 : decode b_Mo_readLengths 222 = .ok (.ifCond .ne 19, 3) := by decide +kernel
theorem d_Mo_readLengths_225 : decode b_Mo_readLengths 225 = .ok (.iload 5, 2) := by decide +kernel
theorem d_Mo_readLengths_227 : decode b_Mo_readLengths 227 = .ok (.iload 7, 2) := by decide +kernel
theorem d_Mo_readLengths_229 : decode b_Mo_readLengths 229 = .ok (.iadd, 1) := by decide +kernel
theorem d_Mo_readLengths_230 : decode b_Mo_readLengths 230 = .ok (.iload 4, 2) := by decide +kernel
theorem d_Mo_readLengths_232 : decode b_Mo_readLengths 232 = .ok (.if_icmp .le 9, 3) := by decide +kernel
theorem d_Mo_readLengths_235 : decode b_Mo_readLengths 235 = .ok (.aload_n 0, 1) := by decide +kernel
theorem d_Mo_readLengths_236 : decode b_Mo_readLengths 236 = .ok (.bipush 6, 2) := by decide +kernel
theorem d_Mo_readLengths_238 : decode b_Mo_readLengths 238 = .ok (.invokevirtual 81, 3) := by decide +kernel
theorem d_Mo_readLengths_241 : decode b_Mo_readLengths 241 = .ok (.iconst 0, 1) := by decide +kernel
theorem d_Mo_readLengths_242 : decode b_Mo_readLengths 242 = .ok (.istore 8, 2) := by decide +kernel
theorem d_Mo_readLengths_244 : decode b_Mo_readLengths 244 = .ok (.iload 8, 2) := by decide +kernel
theorem d_Mo_readLengths_246 : decode b_Mo_readLengths 246 = .ok (.iload 7, 2) := by decide +kernel
theorem d_Mo_readLengths_248 : decode b_Mo_readLengths 248 = .ok (.if_icmp .ge 58, 3) := by decide +kernel
theorem d_Mo_readLengths_251 : decode b_Mo_readLengths 251 = .ok (.aload_n 0, 1) := by decide +kernel
theorem d_Mo_readLengths_252 : decode b_Mo_readLengths 252 = .ok (.getfield 75, 3) := by decide +kernel
theorem d_Mo_readLengths_255 : decode b_Mo_readLengths 255 = .ok (.ifCond .ne 51, 3) := by decide +kernel
theorem d_Mo_readLengths_258 : decode b_Mo_readLengths 258 = .ok (.aload_n 0, 1) := by decide +kernel
theorem d_Mo_readLengths_259 : decode b_Mo_readLengths 259 = .ok (.getfield 25, 3) := by decide +kernel
theorem d_Mo_readLengths_262 : decode b_Mo_readLengths 262 = .ok (.iload 5, 2) := by decide +kernel
theorem d_Mo_readLengths_264 : decode b_Mo_readLengths 264 = .ok (.iload 6, 2) := by decide +kernel
theorem d_Mo_readLengths_266 : decode b_Mo_readLengths 266 = .ok (.bipush 16, 2) := by decide +kernel
theorem d_Mo_readLengths_268 : decode b_Mo_readLengths 268 = .ok (.if_icmp .ge 8, 3) := by decide +kernel
theorem d_Mo_readLengths_271 : decode b_Mo_readLengths 271 = .ok (.iload 6, 2) := by decide +kernel
theorem d_Mo_readLengths_273 : decode b_Mo_readLengths 273 = .ok (.goto 23, 3) := by decide +kernel
theorem d_Mo_readLengths_276 : decode b_Mo_readLengths 276 = .ok (.iload 6, 2) := by decide +kernel
theorem d_Mo_readLengths_278 : decode b_Mo_readLengths 278 = .ok (.bipush 16, 2) := by decide +kernel
theorem d_Mo_readLengths_280 : decode b_Mo_readLengths 280 = .ok (.if_icmp .ne 15, 3) := by decide +kernel
theorem d_Mo_readLengths_283 : decode b_Mo_readLengths 283 = .ok (.aload_n 0, 1) := by decide +kernel
theorem d_Mo_readLengths_284 : decode b_Mo_readLengths 284 = .ok (.getfield 25, 3) := by decide +kernel
theorem d_Mo_readLengths_287 : decode b_Mo_readLengths 287 = .ok (.iload 5, 2) := by decide +kernel
theorem d_Mo_readLengths_289 : decode b_Mo_readLengths 289 = .ok (.iconst 1, 1) := by decide +kernel
theorem d_Mo_readLengths_290 : decode b_Mo_readLengths 290 = .ok (.isub, 1) := by decide +kernel
theorem d_Mo_readLengths_291 : decode b_Mo_readLengths 291 = .ok (.iaload, 1) := by decide +kernel
theorem d_Mo_readLengths_292 : decode b_Mo_readLengths 292 = .ok (.goto 4, 3) := by decide +kernel
theorem d_Mo_readLengths_295 : decode b_Mo_readLengths 295 = .ok (.iconst 0, 1) := by decide +kernel
theorem d_Mo_readLengths_296 : decode b_Mo_readLengths 296 = .ok (.iastore, 1) := by decide +kernel
theorem d_Mo_readLengths_297 : decode b_Mo_readLengths 297 = .ok (.iinc 5 1, 3) := by decide +kernel
theorem d_Mo_readLengths_300 : decode b_Mo_readLengths 300 = .ok (.iinc 8 1, 3) := by decide +kernel
theorem d_Mo_readLengths_303 : decode b_Mo_readLengths 303 = .ok (.goto (-59), 3) := by decide +kernel
theorem d_Mo_readLengths_306 : decode b_Mo_readLengths 306 = .ok (.goto (-189), 3) := by decide +kernel
theorem d_Mo_readLengths_309 : decode b_Mo_readLengths 309 = .ok (.iconst 0, 1) := by decide +kernel
theorem d_Mo_readLengths_310 : decode b_Mo_readLengths 310 = .ok (.istore 6, 2) := by decide +kernel
theorem d_Mo_readLengths_312 : decode b_Mo_readLengths 312 = .ok (.iload 6, 2) := by decide +kernel
theorem d_Mo_readLengths_314 : decode b_Mo_readLengths 314 = .ok (.sipush 320, 3) := by decide +kernel
theorem d_Mo_readLengths_317 : decode b_Mo_readLengths 317 = .ok (.if_icmp .ge 82, 3) := by decide +kernel
theorem d_Mo_readLengths_320 : decode b_Mo_readLengths 320 = .ok (.aload_n 0, 1) := by decide +kernel
theorem d_Mo_readLengths_321 : decode b_Mo_readLengths 321 = .ok (.getfield 75, 3) := by decide +kernel
theorem d_Mo_readLengths_324 : decode b_Mo_readLengths 324 = .ok (.ifCond .ne 75, 3) := by decide +kernel
theorem d_Mo_readLengths_327 : decode b_Mo_readLengths 327 = .ok (.aload_n 0, 1) := by decide +kernel
theorem d_Mo_readLengths_328 : decode b_Mo_readLengths 328 = .ok (.getfield 19, 3) := by decide +kernel
theorem d_Mo_readLengths_331 : decode b_Mo_readLengths 331 = .ok (.iload 6, 2) := by decide +kernel
theorem d_Mo_readLengths_333 : decode b_Mo_readLengths 333 = .ok (.iload 6, 2) := by decide +kernel
theorem d_Mo_readLengths_335 : decode b_Mo_readLengths 335 = .ok (.iload_n 1, 1) := by decide +kernel
theorem d_Mo_readLengths_336 : decode b_Mo_readLengths 336 = .ok (.sipush 257, 3) := by decide +kernel
theorem d_Mo_readLengths_339 : decode b_Mo_readLengths 339 = .ok (.iadd, 1) := by decide +kernel
theorem d_Mo_readLengths_340 : decode b_Mo_readLengths 340 = .ok (.if_icmp .ge 13, 3) := by decide +kernel
theorem d_Mo_readLengths_343 : decode b_Mo_readLengths 343 = .ok (.aload_n 0, 1) := by decide +kernel
theorem d_Mo_readLengths_344 : decode b_Mo_readLengths 344 = .ok (.getfield 25, 3) := by decide +kernel
theorem d_Mo_readLengths_347 : decode b_Mo_readLengths 347 = .ok (.iload 6, 2) := by decide +kernel
theorem d_Mo_readLengths_349 : decode b_Mo_readLengths 349 = .ok (.iaload, 1) := by decide +kernel
theorem d_Mo_readLengths_350 : decode b_Mo_readLengths 350 = .ok (.goto 42, 3) := by decide +kernel
theorem d_Mo_readLengths_353 : decode b_Mo_readLengths 353 = .ok (.iload 6, 2) := by decide +kernel
theorem d_Mo_readLengths_355 : decode b_Mo_readLengths 355 = .ok (.sipush 288, 3) := by decide +kernel
theorem d_Mo_readLengths_358 : decode b_Mo_readLengths 358 = .ok (.if_icmp .lt 33, 3) := by decide +kernel
theorem d_Mo_readLengths_361 : decode b_Mo_readLengths 361 = .ok (.iload 6, 2) := by decide +kernel
theorem d_Mo_readLengths_363 : decode b_Mo_readLengths 363 = .ok (.sipush 288, 3) := by decide +kernel
theorem d_Mo_readLengths_366 : decode b_Mo_readLengths 366 = .ok (.isub, 1) := by decide +kernel
theorem d_Mo_readLengths_367 : decode b_Mo_readLengths 367 = .ok (.iload_n 2, 1) := by decide +kernel
theorem d_Mo_readLengths_368 : decode b_Mo_readLengths 368 = .ok (.if_icmp .gt 23, 3) := by decide +kernel
theorem d_Mo_readLengths_371 : decode b_Mo_readLengths 371 = .ok (.aload_n 0, 1) := by decide +kernel
theorem d_Mo_readLengths_372 : decode b_Mo_readLengths 372 = .ok (.getfield 25, 3) := by decide +kernel
theorem d_Mo_readLengths_375 : decode b_Mo_readLengths 375 = .ok (.iload_n 1, 1) := by decide +kernel
theorem d_Mo_readLengths_376 : decode b_Mo_readLengths 376 = .ok (.sipush 257, 3) := by decide +kernel
theorem d_Mo_readLengths_379 : decode b_Mo_readLengths 379 = .ok (.iadd, 1) := by decide +kernel
theorem d_Mo_readLengths_380 : decode b_Mo_readLengths 380 = .ok (.iload 6, 2) := by decide +kernel
theorem d_Mo_readLengths_382 : decode b_Mo_readLengths 382 = .ok (.iadd, 1) := by decide +kernel
theorem d_Mo_readLengths_383 : decode b_Mo_readLengths 383 = .ok (.sipush 288, 3) := by decide +kernel
theorem d_Mo_readLengths_386 : decode b_Mo_readLengths 386 = .ok (.isub, 1) := by decide +kernel
theorem d_Mo_readLengths_387 : decode b_Mo_readLengths 387 = .ok (.iaload, 1) := by decide +kernel
theorem d_Mo_readLengths_388 : decode b_Mo_readLengths 388 = .ok (.goto 4, 3) := by decide +kernel
theorem d_Mo_readLengths_391 : decode b_Mo_readLengths 391 = .ok (.iconst 0, 1) := by decide +kernel
theorem d_Mo_readLengths_392 : decode b_Mo_readLengths 392 = .ok (.iastore, 1) := by decide +kernel
theorem d_Mo_readLengths_393 : decode b_Mo_readLengths 393 = .ok (.iinc 6 1, 3) := by decide +kernel
theorem d_Mo_readLengths_396 : decode b_Mo_readLengths 396 = .ok (.goto (-84), 3) := by decide +kernel
theorem d_Mo_readLengths_399 : decode b_Mo_readLengths 399 = .ok (.aload_n 0, 1) := by decide +kernel
theorem d_Mo_readLengths_400 : decode b_Mo_readLengths 400 = .ok (.getfield 75, 3) := by decide +kernel
theorem d_Mo_readLengths_403 : decode b_Mo_readLengths 403 = .ok (.ifCond .ne 35, 3) := by decide +kernel
theorem d_Mo_readLengths_406 : decode b_Mo_readLengths 406 = .ok (.aload_n 0, 1) := by decide +kernel
theorem d_Mo_readLengths_407 : decode b_Mo_readLengths 407 = .ok (.getfield 19, 3) := by decide +kernel
theorem d_Mo_readLengths_410 : decode b_Mo_readLengths 410 = .ok (.iconst 0, 1) := by decide +kernel
theorem d_Mo_readLengths_411 : decode b_Mo_readLengths 411 = .ok (.sipush 288, 3) := by decide +kernel
theorem d_Mo_readLengths_414 : decode b_Mo_readLengths 414 = .ok (.iconst 0, 1) := by decide +kernel
theorem d_Mo_readLengths_415 : decode b_Mo_readLengths 415 = .ok (.invokestatic 112, 3) := by decide +kernel
theorem d_Mo_readLengths_418 : decode b_Mo_readLengths 418 = .ok (.ifCond .eq 14, 3) := by decide +kernel
theorem d_Mo_readLengths_421 : decode b_Mo_readLengths 421 = .ok (.aload_n 0, 1) := by decide +kernel
theorem d_Mo_readLengths_422 : decode b_Mo_readLengths 422 = .ok (.getfield 19, 3) := by decide +kernel
theorem d_Mo_readLengths_425 : decode b_Mo_readLengths 425 = .ok (.sipush 256, 3) := by decide +kernel
theorem d_Mo_readLengths_428 : decode b_Mo_readLengths 428 = .ok (.iaload, 1) := by decide +kernel
theorem d_Mo_readLengths_429 : decode b_Mo_readLengths 429 = .ok (.ifCond .ne 9, 3) := by decide +kernel
theorem d_Mo_readLengths_432 : decode b_Mo_readLengths 432 = .ok (.aload_n 0, 1) := by decide +kernel
theorem d_Mo_readLengths_433 : decode b_Mo_readLengths 433 = .ok (.bipush 7, 2) := by decide +kernel
theorem d_Mo_readLengths_435 : decode b_Mo_readLengths 435 = .ok (.invokevirtual 81, 3) := by decide +kernel
theorem d_Mo_readLengths_438 : decode b_Mo_readLengths 438 = .ok (.aload_n 0, 1) := by decide +kernel
theorem d_Mo_readLengths_439 : decode b_Mo_readLengths 439 = .ok (.getfield 75, 3) := by decide +kernel
theorem d_Mo_readLengths_442 : decode b_Mo_readLengths 442 = .ok (.ifCond .ne 25, 3) := by decide +kernel
theorem d_Mo_readLengths_445 : decode b_Mo_readLengths 445 = .ok (.aload_n 0, 1) := by decide +kernel
theorem d_Mo_readLengths_446 : decode b_Mo_readLengths 446 = .ok (.getfield 19, 3) := by decide +kernel
theorem d_Mo_readLengths_449 : decode b_Mo_readLengths 449 = .ok (.sipush 288, 3) := by decide +kernel
theorem d_Mo_readLengths_452 : decode b_Mo_readLengths 452 = .ok (.bipush 32, 2) := by decide +kernel
theorem d_Mo_readLengths_454 : decode b_Mo_readLengths 454 = .ok (.iconst 1, 1) := by decide +kernel
theorem d_Mo_readLengths_455 : decode b_Mo_readLengths 455 = .ok (.invokestatic 112, 3) := by decide +kernel
theorem d_Mo_readLengths_458 : decode b_Mo_readLengths 458 = .ok (.ifCond .ne 9, 3) := by decide +kernel
theorem d_Mo_readLengths_461 : decode b_Mo_readLengths 461 = .ok (.aload_n 0, 1) := by decide +kernel
theorem d_Mo_readLengths_462 : decode b_Mo_readLengths 462 = .ok (.bipush 7, 2) := by decide +kernel
theorem d_Mo_readLengths_464 : decode b_Mo_readLengths 464 = .ok (.invokevirtual 81, 3) := by decide +kernel
theorem d_Mo_readLengths_467 : decode b_Mo_readLengths 467 = .ok (.return_, 1) := by decide +kernel
theorem d_Mo_lengthBits_0 : decode b_Mo_lengthBits 0 = .ok (.iload_n 0, 1) := by decide +kernel
theorem d_Mo_lengthBits_1 : decode b_Mo_lengthBits 1 = .ok (.sipush 265, 3) := by decide +kernel
theorem d_Mo_lengthBits_4 : decode b_Mo_lengthBits 4 = .ok (.if_icmp .lt 10, 3) := by decide +kernel
theorem d_Mo_lengthBits_7 : decode b_Mo_lengthBits 7 = .ok (.iload_n 0, 1) := by decide +kernel
theorem d_Mo_lengthBits_8 : decode b_Mo_lengthBits 8 = .ok (.sipush 285, 3) := by decide +kernel
theorem d_Mo_lengthBits_11 : decode b_Mo_lengthBits 11 = .ok (.if_icmp .ne 7, 3) := by decide +kernel
theorem d_Mo_lengthBits_14 : decode b_Mo_lengthBits 14 = .ok (.iconst 0, 1) := by decide +kernel
theorem d_Mo_lengthBits_15 : decode b_Mo_lengthBits 15 = .ok (.goto 10, 3) := by decide +kernel
theorem d_Mo_lengthBits_18 : decode b_Mo_lengthBits 18 = .ok (.iload_n 0, 1) := by decide +kernel
theorem d_Mo_lengthBits_19 : decode b_Mo_lengthBits 19 = .ok (.sipush 261, 3) := by decide +kernel
theorem d_Mo_lengthBits_22 : decode b_Mo_lengthBits 22 = .ok (.isub, 1) := by decide +kernel
theorem d_Mo_lengthBits_23 : decode b_Mo_lengthBits 23 = .ok (.iconst 4, 1) := by decide +kernel
theorem d_Mo_lengthBits_24 : decode b_Mo_lengthBits 24 = .ok (.idiv, 1) := by decide +kernel
theorem d_Mo_lengthBits_25 : decode b_Mo_lengthBits 25 = .ok (.ireturn, 1) := by decide +kernel
theorem d_Mo_lengthBase_0 : decode b_Mo_lengthBase 0 = .ok (.iload_n 0, 1) := by decide +kernel
theorem d_Mo_lengthBase_1 : decode b_Mo_lengthBase 1 = .ok (.sipush 285, 3) := by decide +kernel
theorem d_Mo_lengthBase_4 : decode b_Mo_lengthBase 4 = .ok (.if_icmp .ne 9, 3) := by decide +kernel
theorem d_Mo_lengthBase_7 : decode b_Mo_lengthBase 7 = .ok (.sipush 258, 3) := by decide +kernel
theorem d_Mo_lengthBase_10 : decode b_Mo_lengthBase 10 = .ok (.goto 34, 3) := by decide +kernel
theorem d_Mo_lengthBase_13 : decode b_Mo_lengthBase 13 = .ok (.iload_n 0, 1) := by decide +kernel
theorem d_Mo_lengthBase_14 : decode b_Mo_lengthBase 14 = .ok (.sipush 265, 3) := by decide +kernel
theorem d_Mo_lengthBase_17 : decode b_Mo_lengthBase 17 = .ok (.if_icmp .ge 11, 3) := by decide +kernel
