theorem d_Matcher_sort_119 : decode b_Matcher_sort 119 = .ok (.aload 4, 2) := by decide +kernel
theorem d_Matcher_sort_121 : decode b_Matcher_sort 121 = .ok (.iload 6, 2) := by decide +kernel
theorem d_Matcher_sort_123 : decode b_Matcher_sort 123 = .ok (.iaload, 1) := by decide +kernel
theorem d_Matcher_sort_124 : decode b_Matcher_sort 124 = .ok (.iastore, 1) := by decide +kernel
theorem d_Matcher_sort_125 : decode b_Matcher_sort 125 = .ok (.aload_n 0, 1) := by decide +kernel
theorem d_Matcher_sort_126 : decode b_Matcher_sort 126 = .ok (.getfield 18, 3) := by decide +kernel
theorem d_Matcher_sort_129 : decode b_Matcher_sort 129 = .ok (.iload 7, 2) := by decide +kernel
theorem d_Matcher_sort_131 : decode b_Matcher_sort 131 = .ok (.dup2, 1) := by decide +kernel
theorem d_Matcher_sort_132 : decode b_Matcher_sort 132 = .ok (.iaload, 1) := by decide +kernel
theorem d_Matcher_sort_133 : decode b_Matcher_sort 133 = .ok (.iconst 1, 1) := by decide +kernel
theorem d_Matcher_sort_134 : decode b_Matcher_sort 134 = .ok (.iadd, 1) := by decide +kernel
theorem d_Matcher_sort_135 : decode b_Matcher_sort 135 = .ok (.iastore, 1) := by decide +kernel
theorem d_Matcher_sort_136 : decode b_Matcher_sort 136 = .ok (.iinc 6 1, 3) := by decide +kernel
theorem d_Matcher_sort_139 : decode b_Matcher_sort 139 = .ok (.goto (-53), 3) := by decide +kernel
theorem d_Matcher_sort_142 : decode b_Matcher_sort 142 = .ok (.return_, 1) := by decide +kernel
theorem d_Matcher_sameThree_0 : decode b_Matcher_sameThree 0 = .ok (.aload_n 1, 1) := by decide +kernel
theorem d_Matcher_sameThree_1 : decode b_Matcher_sameThree 1 = .ok (.getfield 53, 3) := by decide +kernel
theorem d_Matcher_sameThree_4 : decode b_Matcher_sameThree 4 = .ok (.iload_n 2, 1) := by decide +kernel
theorem d_Matcher_sameThree_5 : decode b_Matcher_sameThree 5 = .ok (.baload, 1) := by decide +kernel
theorem d_Matcher_sameThree_6 : decode b_Matcher_sameThree 6 = .ok (.aload_n 1, 1) := by decide +kernel
theorem d_Matcher_sameThree_7 : decode b_Matcher_sameThree 7 = .ok (.getfield 53, 3) := by decide +kernel
theorem d_Matcher_sameThree_10 : decode b_Matcher_sameThree 10 = .ok (.iload_n 3, 1) := by decide +kernel
theorem d_Matcher_sameThree_11 : decode b_Matcher_sameThree 11 = .ok (.baload, 1) := by decide +kernel
theorem d_Matcher_sameThree_12 : decode b_Matcher_sameThree 12 = .ok (.if_icmp .ne 45, 3) := by decide +kernel
theorem d_Matcher_sameThree_15 : decode b_Matcher_sameThree 15 = .ok (.aload_n 1, 1) := by decide +kernel
theorem d_Matcher_sameThree_16 : decode b_Matcher_sameThree 16 = .ok (.getfield 53, 3) := by decide +kernel
theorem d_Matcher_sameThree_19 : decode b_Matcher_sameThree 19 = .ok (.iload_n 2, 1) := by decide +kernel
theorem d_Matcher_sameThree_20 : decode b_Matcher_sameThree 20 = .ok (.iconst 1, 1) := by decide +kernel
theorem d_Matcher_sameThree_21 : decode b_Matcher_sameThree 21 = .ok (.iadd, 1) := by decide +kernel
theorem d_Matcher_sameThree_22 : decode b_Matcher_sameThree 22 = .ok (.baload, 1) := by decide +kernel
theorem d_Matcher_sameThree_23 : decode b_Matcher_sameThree 23 = .ok (.aload_n 1, 1) := by decide +kernel
theorem d_Matcher_sameThree_24 : decode b_Matcher_sameThree 24 = .ok (.getfield 53, 3) := by decide +kernel
theorem d_Matcher_sameThree_27 : decode b_Matcher_sameThree 27 = .ok (.iload_n 3, 1) := by decide +kernel
theorem d_Matcher_sameThree_28 : decode b_Matcher_sameThree 28 = .ok (.iconst 1, 1) := by decide +kernel
theorem d_Matcher_sameThree_29 : decode b_Matcher_sameThree 29 = .ok (.iadd, 1) := by decide +kernel
theorem d_Matcher_sameThree_30 : decode b_Matcher_sameThree 30 = .ok (.baload, 1) := by decide +kernel
theorem d_Matcher_sameThree_31 : decode b_Matcher_sameThree 31 = .ok (.if_icmp .ne 26, 3) := by decide +kernel
theorem d_Matcher_sameThree_34 : decode b_Matcher_sameThree 34 = .ok (.aload_n 1, 1) := by decide +kernel
theorem d_Matcher_sameThree_35 : decode b_Matcher_sameThree 35 = .ok (.getfield 53, 3) := by decide +kernel
theorem d_Matcher_sameThree_38 : decode b_Matcher_sameThree 38 = .ok (.iload_n 2, 1) := by decide +kernel
theorem d_Matcher_sameThree_39 : decode b_Matcher_sameThree 39 = .ok (.iconst 2, 1) := by decide +kernel
theorem d_Matcher_sameThree_40 : decode b_Matcher_sameThree 40 = .ok (.iadd, 1) := by decide +kernel
theorem d_Matcher_sameThree_41 : decode b_Matcher_sameThree 41 = .ok (.baload, 1) := by decide +kernel
theorem d_Matcher_sameThree_42 : decode b_Matcher_sameThree 42 = .ok (.aload_n 1, 1) := by decide +kernel
theorem d_Matcher_sameThree_43 : decode b_Matcher_sameThree 43 = .ok (.getfield 53, 3) := by decide +kernel
theorem d_Matcher_sameThree_46 : decode b_Matcher_sameThree 46 = .ok (.iload_n 3, 1) := by decide +kernel
theorem d_Matcher_sameThree_47 : decode b_Matcher_sameThree 47 = .ok (.iconst 2, 1) := by decide +kernel
theorem d_Matcher_sameThree_48 : decode b_Matcher_sameThree 48 = .ok (.iadd, 1) := by decide +kernel
theorem d_Matcher_sameThree_49 : decode b_Matcher_sameThree 49 = .ok (.baload, 1) := by decide +kernel
theorem d_Matcher_sameThree_50 : decode b_Matcher_sameThree 50 = .ok (.if_icmp .ne 7, 3) := by decide +kernel
theorem d_Matcher_sameThree_53 : decode b_Matcher_sameThree 53 = .ok (.iconst 1, 1) := by decide +kernel
theorem d_Matcher_sameThree_54 : decode b_Matcher_sameThree 54 = .ok (.goto 4, 3) := by decide +kernel
theorem d_Matcher_sameThree_57 : decode b_Matcher_sameThree 57 = .ok (.iconst 0, 1) := by decide +kernel
theorem d_Matcher_sameThree_58 : decode b_Matcher_sameThree 58 = .ok (.ireturn, 1) := by decide +kernel
theorem d_Matcher_prepare_0 : decode b_Matcher_prepare 0 = .ok (.aload_n 1, 1) := by decide +kernel
theorem d_Matcher_prepare_1 : decode b_Matcher_prepare 1 = .ok (.getfield 28, 3) := by decide +kernel
theorem d_Matcher_prepare_4 : decode b_Matcher_prepare 4 = .ok (.sipush 8192, 3) := by decide +kernel
theorem d_Matcher_prepare_7 : decode b_Matcher_prepare 7 = .ok (.invokestatic 33, 3) := by decide +kernel
theorem d_Matcher_prepare_10 : decode b_Matcher_prepare 10 = .ok (.iconst 2, 1) := by decide +kernel
theorem d_Matcher_prepare_11 : decode b_Matcher_prepare 11 = .ok (.isub, 1) := by decide +kernel
theorem d_Matcher_prepare_12 : decode b_Matcher_prepare 12 = .ok (.istore_n 2, 1) := by decide +kernel
theorem d_Matcher_prepare_13 : decode b_Matcher_prepare 13 = .ok (.iconst 0, 1) := by decide +kernel
theorem d_Matcher_prepare_14 : decode b_Matcher_prepare 14 = .ok (.istore_n 3, 1) := by decide +kernel
theorem d_Matcher_prepare_15 : decode b_Matcher_prepare 15 = .ok (.iload_n 3, 1) := by decide +kernel
theorem d_Matcher_prepare_16 : decode b_Matcher_prepare 16 = .ok (.iload_n 2, 1) := by decide +kernel
theorem d_Matcher_prepare_17 : decode b_Matcher_prepare 17 = .ok (.if_icmp .ge 16, 3) := by decide +kernel
theorem d_Matcher_prepare_20 : decode b_Matcher_prepare 20 = .ok (.aload_n 0, 1) := by decide +kernel
theorem d_Matcher_prepare_21 : decode b_Matcher_prepare 21 = .ok (.getfield 15, 3) := by decide +kernel
theorem d_Matcher_prepare_24 : decode b_Matcher_prepare 24 = .ok (.iload_n 3, 1) := by decide +kernel
theorem d_Matcher_prepare_25 : decode b_Matcher_prepare 25 = .ok (.iload_n 3, 1) := by decide +kernel
theorem d_Matcher_prepare_26 : decode b_Matcher_prepare 26 = .ok (.iastore, 1) := by decide +kernel
theorem d_Matcher_prepare_27 : decode b_Matcher_prepare 27 = .ok (.iinc 3 1, 3) := by decide +kernel
theorem d_Matcher_prepare_30 : decode b_Matcher_prepare 30 = .ok (.goto (-15), 3) := by decide +kernel
theorem d_Matcher_prepare_33 : decode b_Matcher_prepare 33 = .ok (.aload_n 0, 1) := by decide +kernel
theorem d_Matcher_prepare_34 : decode b_Matcher_prepare 34 = .ok (.aload_n 1, 1) := by decide +kernel
theorem d_Matcher_prepare_35 : decode b_Matcher_prepare 35 = .ok (.iload_n 2, 1) := by decide +kernel
theorem d_Matcher_prepare_36 : decode b_Matcher_prepare 36 = .ok (.iconst 2, 1) := by decide +kernel
theorem d_Matcher_prepare_37 : decode b_Matcher_prepare 37 = .ok (.aload_n 0, 1) := by decide +kernel
theorem d_Matcher_prepare_38 : decode b_Matcher_prepare 38 = .ok (.getfield 15, 3) := by decide +kernel
theorem d_Matcher_prepare_41 : decode b_Matcher_prepare 41 = .ok (.aload_n 0, 1) := by decide +kernel
theorem d_Matcher_prepare_42 : decode b_Matcher_prepare 42 = .ok (.getfield 9, 3) := by decide +kernel
theorem d_Matcher_prepare_45 : decode b_Matcher_prepare 45 = .ok (.invokevirtual 39, 3) := by decide +kernel
theorem d_Matcher_prepare_48 : decode b_Matcher_prepare 48 = .ok (.aload_n 0, 1) := by decide +kernel
theorem d_Matcher_prepare_49 : decode b_Matcher_prepare 49 = .ok (.aload_n 1, 1) := by decide +kernel
theorem d_Matcher_prepare_50 : decode b_Matcher_prepare 50 = .ok (.iload_n 2, 1) := by decide +kernel
theorem d_Matcher_prepare_51 : decode b_Matcher_prepare 51 = .ok (.iconst 1, 1) := by decide +kernel
theorem d_Matcher_prepare_52 : decode b_Matcher_prepare 52 = .ok (.aload_n 0, 1) := by decide +kernel
theorem d_Matcher_prepare_53 : decode b_Matcher_prepare 53 = .ok (.getfield 9, 3) := by decide +kernel
theorem d_Matcher_prepare_56 : decode b_Matcher_prepare 56 = .ok (.aload_n 0, 1) := by decide +kernel
theorem d_Matcher_prepare_57 : decode b_Matcher_prepare 57 = .ok (.getfield 15, 3) := by decide +kernel
theorem d_Matcher_prepare_60 : decode b_Matcher_prepare 60 = .ok (.invokevirtual 39, 3) := by decide +kernel
theorem d_Matcher_prepare_63 : decode b_Matcher_prepare 63 = .ok (.aload_n 0, 1) := by decide +kernel
theorem d_Matcher_prepare_64 : decode b_Matcher_prepare 64 = .ok (.aload_n 1, 1) := by decide +kernel
theorem d_Matcher_prepare_65 : decode b_Matcher_prepare 65 = .ok (.iload_n 2, 1) := by decide +kernel
theorem d_Matcher_prepare_66 : decode b_Matcher_prepare 66 = .ok (.iconst 0, 1) := by decide +kernel
theorem d_Matcher_prepare_67 : decode b_Matcher_prepare 67 = .ok (.aload_n 0, 1) := by decide +kernel
theorem d_Matcher_prepare_68 : decode b_Matcher_prepare 68 = .ok (.getfield 15, 3) := by decide +kernel
theorem d_Matcher_prepare_71 : decode b_Matcher_prepare 71 = .ok (.aload_n 0, 1) := by decide +kernel
theorem d_Matcher_prepare_72 : decode b_Matcher_prepare 72 = .ok (.getfield 9, 3) := by decide +kernel
theorem d_Matcher_prepare_75 : decode b_Matcher_prepare 75 = .ok (.invokevirtual 39, 3) := by decide +kernel
theorem d_Matcher_prepare_78 : decode b_Matcher_prepare 78 = .ok (.iconst 0, 1) := by decide +kernel
theorem d_Matcher_prepare_79 : decode b_Matcher_prepare 79 = .ok (.istore_n 3, 1) := by decide +kernel
theorem d_Matcher_prepare_80 : decode b_Matcher_prepare 80 = .ok (.iload_n 3, 1) := by decide +kernel
theorem d_Matcher_prepare_81 : decode b_Matcher_prepare 81 = .ok (.iload_n 2, 1) := by decide +kernel
theorem d_Matcher_prepare_82 : decode b_Matcher_prepare 82 = .ok (.if_icmp .ge 70, 3) := by decide +kernel
theorem d_Matcher_prepare_85 : decode b_Matcher_prepare 85 = .ok (.iload_n 3, 1) := by decide +kernel
theorem d_Matcher_prepare_86 : decode b_Matcher_prepare 86 = .ok (.ifCond .le 29, 3) := by decide +kernel
theorem d_Matcher_prepare_89 : decode b_Matcher_prepare 89 = .ok (.aload_n 0, 1) := by decide +kernel
theorem d_Matcher_prepare_90 : decode b_Matcher_prepare 90 = .ok (.aload_n 1, 1) := by decide +kernel
theorem d_Matcher_prepare_91 : decode b_Matcher_prepare 91 = .ok (.aload_n 0, 1) := by decide +kernel
theorem d_Matcher_prepare_92 : decode b_Matcher_prepare 92 = .ok (.getfield 9, 3) := by decide +kernel
theorem d_Matcher_prepare_95 : decode b_Matcher_prepare 95 = .ok (.iload_n 3, 1) := by decide +kernel
theorem d_Matcher_prepare_96 : decode b_Matcher_prepare 96 = .ok (.iconst 1, 1) := by decide +kernel
theorem d_Matcher_prepare_97 : decode b_Matcher_prepare 97 = .ok (.isub, 1) := by decide +kernel
theorem d_Matcher_prepare_98 : decode b_Matcher_prepare 98 = .ok (.iaload, 1) := by decide +kernel
theorem d_Matcher_prepare_99 : decode b_Matcher_prepare 99 = .ok (.aload_n 0, 1) := by decide +kernel
theorem d_Matcher_prepare_100 : decode b_Matcher_prepare 100 = .ok (.getfield 9, 3) := by decide +kernel
theorem d_Matcher_prepare_103 : decode b_Matcher_prepare 103 = .ok (.iload_n 3, 1) := by decide +kernel
theorem d_Matcher_prepare_104 : decode b_Matcher_prepare 104 = .ok (.iaload, 1) := by decide +kernel
theorem d_Matcher_prepare_105 : decode b_Matcher_prepare 105 = .ok (.invokevirtual 43, 3) := by decide +kernel
theorem d_Matcher_prepare_108 : decode b_Matcher_prepare 108 = .ok (.ifCond .eq 7, 3) := by decide +kernel
theorem d_Matcher_prepare_111 : decode b_Matcher_prepare 111 = .ok (.iconst 1, 1) := by decide +kernel
theorem d_Matcher_prepare_112 : decode b_Matcher_prepare 112 = .ok (.goto 4, 3) := by decide +kernel
theorem d_Matcher_prepare_115 : decode b_Matcher_prepare 115 = .ok (.iconst 0, 1) := by decide +kernel
theorem d_Matcher_prepare_116 : decode b_Matcher_prepare 116 = .ok (.istore 4, 2) := by decide +kernel
theorem d_Matcher_prepare_118 : decode b_Matcher_prepare 118 = .ok (.aload_n 0, 1) := by decide +kernel
theorem d_Matcher_prepare_119 : decode b_Matcher_prepare 119 = .ok (.getfield 15, 3) := by decide +kernel
theorem d_Matcher_prepare_122 : decode b_Matcher_prepare 122 = .ok (.aload_n 0, 1) := by decide +kernel
theorem d_Matcher_prepare_123 : decode b_Matcher_prepare 123 = .ok (.getfield 9, 3) := by decide +kernel
theorem d_Matcher_prepare_126 : decode b_Matcher_prepare 126 = .ok (.iload_n 3, 1) := by decide +kernel
theorem d_Matcher_prepare_127 : decode b_Matcher_prepare 127 = .ok (.iaload, 1) := by decide +kernel
theorem d_Matcher_prepare_128 : decode b_Matcher_prepare 128 = .ok (.iload 4, 2) := by decide +kernel
theorem d_Matcher_prepare_130 : decode b_Matcher_prepare 130 = .ok (.ifCond .eq 14, 3) := by decide +kernel
theorem d_Matcher_prepare_133 : decode b_Matcher_prepare 133 = .ok (.aload_n 0, 1) := by decide +kernel
theorem d_Matcher_prepare_134 : decode b_Matcher_prepare 134 = .ok (.getfield 9, 3) := by decide +kernel
theorem d_Matcher_prepare_137 : decode b_Matcher_prepare 137 = .ok (.iload_n 3, 1) := by decide +kernel
theorem d_Matcher_prepare_138 : decode b_Matcher_prepare 138 = .ok (.iconst 1, 1) := by decide +kernel
theorem d_Matcher_prepare_139 : decode b_Matcher_prepare 139 = .ok (.isub, 1) := by decide +kernel
theorem d_Matcher_prepare_140 : decode b_Matcher_prepare 140 = .ok (.iaload, 1) := by decide +kernel
theorem d_Matcher_prepare_141 : decode b_Matcher_prepare 141 = .ok (.goto 4, 3) := by decide +kernel
theorem d_Matcher_prepare_144 : decode b_Matcher_prepare 144 = .ok (.iconst (-1), 1) := by decide +kernel
theorem d_Matcher_prepare_145 : decode b_Matcher_prepare 145 = .ok (.iastore, 1) := by decide +kernel
theorem d_Matcher_prepare_146 : decode b_Matcher_prepare 146 = .ok (.iinc 3 1, 3) := by decide +kernel
theorem d_Matcher_prepare_149 : decode b_Matcher_prepare 149 = .ok (.goto (-69), 3) := by decide +kernel
theorem d_Matcher_prepare_152 : decode b_Matcher_prepare 152 = .ok (.return_, 1) := by decide +kernel
theorem d_Row_skipToByte_0 : decode b_Row_skipToByte 0 = .ok (.aload_n 0, 1) := by decide +kernel
theorem d_Row_skipToByte_1 : decode b_Row_skipToByte 1 = .ok (.aload_n 0, 1) := by decide +kernel
theorem d_Row_skipToByte_2 : decode b_Row_skipToByte 2 = .ok (.getfield 19, 3) := by decide +kernel
theorem d_Row_skipToByte_5 : decode b_Row_skipToByte 5 = .ok (.bipush 7, 2) := by decide +kernel
theorem d_Row_skipToByte_7 : decode b_Row_skipToByte 7 = .ok (.iadd, 1) := by decide +kernel
theorem d_Row_skipToByte_8 : decode b_Row_skipToByte 8 = .ok (.bipush (-8), 2) := by decide +kernel
theorem d_Row_skipToByte_10 : decode b_Row_skipToByte 10 = .ok (.iand, 1) := by decide +kernel
theorem d_Row_skipToByte_11 : decode b_Row_skipToByte 11 = .ok (.putfield 19, 3) := by decide +kernel
theorem d_Row_skipToByte_14 : decode b_Row_skipToByte 14 = .ok (.return_, 1) := by decide +kernel
theorem d_Row_check_0 : decode b_Row_check 0 = .ok (.iconst 1, 1) := by decide +kernel
theorem d_Row_check_1 : decode b_Row_check 1 = .ok (.istore_n 1, 1) := by decide +kernel
theorem d_Row_check_2 : decode b_Row_check 2 = .ok (.iconst 0, 1) := by decide +kernel
theorem d_Row_check_3 : decode b_Row_check 3 = .ok (.istore_n 2, 1) := by decide +kernel
theorem d_Row_check_4 : decode b_Row_check 4 = .ok (.iconst 0, 1) := by decide +kernel
theorem d_Row_check_5 : decode b_Row_check 5 = .ok (.istore_n 3, 1) := by decide +kernel
theorem d_Row_check_6 : decode b_Row_check 6 = .ok (.iload_n 3, 1) := by decide +kernel
theorem d_Row_check_7 : decode b_Row_check 7 = .ok (.aload_n 0, 1) := by decide +kernel
theorem d_Row_check_8 : decode b_Row_check 8 = .ok (.getfield 15, 3) := by decide +kernel
theorem d_Row_check_11 : decode b_Row_check 11 = .ok (.if_icmp .ge 27, 3) := by decide +kernel
theorem d_Row_check_14 : decode b_Row_check 14 = .ok (.iload_n 1, 1) := by decide +kernel
theorem d_Row_check_15 : decode b_Row_check 15 = .ok (.aload_n 0, 1) := by decide +kernel
theorem d_Row_check_16 : decode b_Row_check 16 = .ok (.iload_n 3, 1) := by decide +kernel
theorem d_Row_check_17 : decode b_Row_check 17 = .ok (.invokevirtual 29, 3) := by decide +kernel
theorem d_Row_check_20 : decode b_Row_check 20 = .ok (.iadd, 1) := by decide +kernel
theorem d_Row_check_21 : decode b_Row_check 21 = .ok (.ldc 33, 2) := by decide +kernel
theorem d_Row_check_23 : decode b_Row_check 23 = .ok (.irem, 1) := by decide +kernel
theorem d_Row_check_24 : decode b_Row_check 24 = .ok (.istore_n 1, 1) := by decide +kernel
theorem d_Row_check_25 : decode b_Row_check 25 = .ok (.iload_n 2, 1) := by decide +kernel
theorem d_Row_check_26 : decode b_Row_check 26 = .ok (.iload_n 1, 1) := by decide +kernel
theorem d_Row_check_27 : decode b_Row_check 27 = .ok (.iadd, 1) := by decide +kernel
theorem d_Row_check_28 : decode b_Row_check 28 = .ok (.ldc 33, 2) := by decide +kernel
theorem d_Row_check_30 : decode b_Row_check 30 = .ok (.irem, 1) := by decide +kernel
theorem d_Row_check_31 : decode b_Row_check 31 = .ok (.istore_n 2, 1) := by decide +kernel
theorem d_Row_check_32 : decode b_Row_check 32 = .ok (.iinc 3 1, 3) := by decide +kernel
theorem d_Row_check_35 : decode b_Row_check 35 = .ok (.goto (-29), 3) := by decide +kernel
theorem d_Row_check_38 : decode b_Row_check 38 = .ok (.iload_n 2, 1) := by decide +kernel
theorem d_Row_check_39 : decode b_Row_check 39 = .ok (.bipush 16, 2) := by decide +kernel
theorem d_Row_check_41 : decode b_Row_check 41 = .ok (.ishl, 1) := by decide +kernel
theorem d_Row_check_42 : decode b_Row_check 42 = .ok (.iload_n 1, 1) := by decide +kernel
theorem d_Row_check_43 : decode b_Row_check 43 = .ok (.ior, 1) := by decide +kernel
theorem d_Row_check_44 : decode b_Row_check 44 = .ok (.ireturn, 1) := by decide +kernel
theorem d_Found_start_0 : decode b_Found_start 0 = .ok (.aload_n 0, 1) := by decide +kernel
theorem d_Found_start_1 : decode b_Found_start 1 = .ok (.iconst 0, 1) := by decide +kernel
theorem d_Found_start_2 : decode b_Found_start 2 = .ok (.putfield 15, 3) := by decide +kernel
theorem d_Found_start_5 : decode b_Found_start 5 = .ok (.aload_n 0, 1) := by decide +kernel
theorem d_Found_start_6 : decode b_Found_start 6 = .ok (.getfield 19, 3) := by decide +kernel
theorem d_Found_start_9 : decode b_Found_start 9 = .ok (.iconst 0, 1) := by decide +kernel
theorem d_Found_start_10 : decode b_Found_start 10 = .ok (.invokestatic 25, 3) := by decide +kernel
theorem d_Found_start_13 : decode b_Found_start 13 = .ok (.aload_n 0, 1) := by decide +kernel
theorem d_Found_start_14 : decode b_Found_start 14 = .ok (.getfield 22, 3) := by decide +kernel
theorem d_Found_start_17 : decode b_Found_start 17 = .ok (.iconst 0, 1) := by decide +kernel
theorem d_Found_start_18 : decode b_Found_start 18 = .ok (.invokestatic 25, 3) := by decide +kernel
theorem d_Found_start_21 : decode b_Found_start 21 = .ok (.aload_n 0, 1) := by decide +kernel
theorem d_Found_start_22 : decode b_Found_start 22 = .ok (.getfield 19, 3) := by decide +kernel
theorem d_Found_start_25 : decode b_Found_start 25 = .ok (.sipush 256, 3) := by decide +kernel
theorem d_Found_start_28 : decode b_Found_start 28 = .ok (.iconst 1, 1) := by decide +kernel
theorem d_Found_start_29 : decode b_Found_start 29 = .ok (.iastore, 1) := by decide +kernel
theorem d_Found_start_30 : decode b_Found_start 30 = .ok (.return_, 1) := by decide +kernel
theorem d_Matcher_countSame_0 : decode b_Matcher_countSame 0 = .ok (.iconst 3, 1) := by decide +kernel
theorem d_Matcher_countSame_1 : decode b_Matcher_countSame 1 = .ok (.istore 5, 2) := by decide +kernel
theorem d_Matcher_countSame_3 : decode b_Matcher_countSame 3 = .ok (.iload 5, 2) := by decide +kernel
theorem d_Matcher_countSame_5 : decode b_Matcher_countSame 5 = .ok (.iload 4, 2) := by decide +kernel
theorem d_Matcher_countSame_7 : decode b_Matcher_countSame 7 = .ok (.if_icmp .ge 33, 3) := by decide +kernel
theorem d_Matcher_countSame_10 : decode b_Matcher_countSame 10 = .ok (.aload_n 1, 1) := by decide +kernel
theorem d_Matcher_countSame_11 : decode b_Matcher_countSame 11 = .ok (.getfield 53, 3) := by decide +kernel
theorem d_Matcher_countSame_14 : decode b_Matcher_countSame 14 = .ok (.iload_n 2, 1) := by decide +kernel
theorem d_Matcher_countSame_15 : decode b_Matcher_countSame 15 = .ok (.iload 5, 2) := by decide +kernel
theorem d_Matcher_countSame_17 : decode b_Matcher_countSame 17 = .ok (.iadd, 1) := by decide +kernel
theorem d_Matcher_countSame_18 : decode b_Matcher_countSame 18 = .ok (.baload, 1) := by decide +kernel
theorem d_Matcher_countSame_19 : decode b_Matcher_countSame 19 = .ok (.aload_n 1, 1) := by decide +kernel
theorem d_Matcher_countSame_20 : decode b_Matcher_countSame 20 = .ok (.getfield 53, 3) := by decide +kernel
theorem d_Matcher_countSame_23 : decode b_Matcher_countSame 23 = .ok (.iload_n 3, 1) := by decide +kernel
theorem d_Matcher_countSame_24 : decode b_Matcher_countSame 24 = .ok (.iload 5, 2) := by decide +kernel
theorem d_Matcher_countSame_26 : decode b_Matcher_countSame 26 = .ok (.iadd, 1) := by decide +kernel
theorem d_Matcher_countSame_27 : decode b_Matcher_countSame 27 = .ok (.baload, 1) := by decide +kernel
theorem d_Matcher_countSame_28 : decode b_Matcher_countSame 28 = .ok (.if_icmp .eq 6, 3) := by decide +kernel
theorem d_Matcher_countSame_31 : decode b_Matcher_countSame 31 = .ok (.iload 5, 2) := by decide +kernel
theorem d_Matcher_countSame_33 : decode b_Matcher_countSame 33 = .ok (.ireturn, 1) := by decide +kernel
theorem d_Matcher_countSame_34 : decode b_Matcher_countSame 34 = .ok (.iinc 5 1, 3) := by decide +kernel
theorem d_Matcher_countSame_37 : decode b_Matcher_countSame 37 = .ok (.goto (-34), 3) := by decide +kernel
theorem d_Matcher_countSame_40 : decode b_Matcher_countSame 40 = .ok (.iload 4, 2) := by decide +kernel
theorem d_Matcher_countSame_42 : decode b_Matcher_countSame 42 = .ok (.ireturn, 1) := by decide +kernel
theorem d_Matcher_find_0 : decode b_Matcher_find 0 = .ok (.aload_n 0, 1) := by decide +kernel
theorem d_Matcher_find_1 : decode b_Matcher_find 1 = .ok (.iconst 0, 1) := by decide +kernel
theorem d_Matcher_find_2 : decode b_Matcher_find 2 = .ok (.putfield 21, 3) := by decide +kernel
theorem d_Matcher_find_5 : decode b_Matcher_find 5 = .ok (.aload_n 0, 1) := by decide +kernel
theorem d_Matcher_find_6 : decode b_Matcher_find 6 = .ok (.iconst 0, 1) := by decide +kernel
theorem d_Matcher_find_7 : decode b_Matcher_find 7 = .ok (.putfield 25, 3) := by decide +kernel
theorem d_Matcher_find_10 : decode b_Matcher_find 10 = .ok (.iload_n 3, 1) := by decide +kernel
theorem d_Matcher_find_11 : decode b_Matcher_find 11 = .ok (.iload_n 2, 1) := by decide +kernel
theorem d_Matcher_find_12 : decode b_Matcher_find 12 = .ok (.isub, 1) := by decide +kernel
theorem d_Matcher_find_13 : decode b_Matcher_find 13 = .ok (.sipush 258, 3) := by decide +kernel
theorem d_Matcher_find_16 : decode b_Matcher_find 16 = .ok (.invokestatic 33, 3) := by decide +kernel
theorem d_Matcher_find_19 : decode b_Matcher_find 19 = .ok (.istore 5, 2) := by decide +kernel
theorem d_Matcher_find_21 : decode b_Matcher_find 21 = .ok (.iload 5, 2) := by decide +kernel
theorem d_Matcher_find_23 : decode b_Matcher_find 23 = .ok (.iconst 3, 1) := by decide +kernel
theorem d_Matcher_find_24 : decode b_Matcher_find 24 = .ok (.if_icmp .ge 4, 3) := by decide +kernel
theorem d_Matcher_find_27 : decode b_Matcher_find 27 = .ok (.return_, 1) := by decide +kernel
theorem d_Matcher_find_28 : decode b_Matcher_find 28 = .ok (.aload_n 0, 1) := by decide +kernel
theorem d_Matcher_find_29 : decode b_Matcher_find 29 = .ok (.getfield 15, 3) := by decide +kernel
theorem d_Matcher_find_32 : decode b_Matcher_find 32 = .ok (.iload_n 2, 1) := by decide +kernel
theorem d_Matcher_find_33 : decode b_Matcher_find 33 = .ok (.iaload, 1) := by decide +kernel
theorem d_Matcher_find_34 : decode b_Matcher_find 34 = .ok (.istore 6, 2) := by decide +kernel
theorem d_Matcher_find_36 : decode b_Matcher_find 36 = .ok (.iconst 0, 1) := by decide +kernel
theorem d_Matcher_find_37 : decode b_Matcher_find 37 = .ok (.istore 7, 2) := by decide +kernel
theorem d_Matcher_find_39 : decode b_Matcher_find 39 = .ok (.iload 7, 2) := by decide +kernel
theorem d_Matcher_find_41 : decode b_Matcher_find 41 = .ok (.iload 4, 2) := by decide +kernel
theorem d_Matcher_find_43 : decode b_Matcher_find 43 = .ok (.if_icmp .ge 93, 3) := by decide +kernel
theorem d_Matcher_find_46 : decode b_Matcher_find 46 = .ok (.iload 6, 2) := by decide +kernel
theorem d_Matcher_find_48 : decode b_Matcher_find 48 = .ok (.ifCond .lt 88, 3) := by decide +kernel
theorem d_Matcher_find_51 : decode b_Matcher_find 51 = .ok (.aload_n 0, 1) := by decide +kernel
theorem d_Matcher_find_52 : decode b_Matcher_find 52 = .ok (.getfield 21, 3) := by decide +kernel
theorem d_Matcher_find_55 : decode b_Matcher_find 55 = .ok (.iload 5, 2) := by decide +kernel
theorem d_Matcher_find_57 : decode b_Matcher_find 57 = .ok (.if_icmp .ge 79, 3) := by decide +kernel
theorem d_Matcher_find_60 : decode b_Matcher_find 60 = .ok (.aload_n 1, 1) := by decide +kernel
theorem d_Matcher_find_61 : decode b_Matcher_find 61 = .ok (.getfield 53, 3) := by decide +kernel
theorem d_Matcher_find_64 : decode b_Matcher_find 64 = .ok (.iload 6, 2) := by decide +kernel
theorem d_Matcher_find_66 : decode b_Matcher_find 66 = .ok (.aload_n 0, 1) := by decide +kernel
theorem d_Matcher_find_67 : decode b_Matcher_find 67 = .ok (.getfield 21, 3) := by decide +kernel
theorem d_Matcher_find_70 : decode b_Matcher_find 70 = .ok (.iadd, 1) := by decide +kernel
theorem d_Matcher_find_71 : decode b_Matcher_find 71 = .ok (.baload, 1) := by decide +kernel
theorem d_Matcher_find_72 : decode b_Matcher_find 72 = .ok (.aload_n 1, 1) := by decide +kernel
theorem d_Matcher_find_73 : decode b_Matcher_find 73 = .ok (.getfield 53, 3) := by decide +kernel
theorem d_Matcher_find_76 : decode b_Matcher_find 76 = .ok (.iload_n 2, 1) := by decide +kernel
theorem d_Matcher_find_77 : decode b_Matcher_find 77 = .ok (.aload_n 0, 1) := by decide +kernel
theorem d_Matcher_find_78 : decode b_Matcher_find 78 = .ok (.getfield 21, 3) := by decide +kernel
theorem d_Matcher_find_81 : decode b_Matcher_find 81 = .ok (.iadd, 1) := by decide +kernel
theorem d_Matcher_find_82 : decode b_Matcher_find 82 = .ok (.baload, 1) := by decide +kernel
theorem d_Matcher_find_83 : decode b_Matcher_find 83 = .ok (.if_icmp .ne 38, 3) := by decide +kernel
theorem d_Matcher_find_86 : decode b_Matcher_find 86 = .ok (.aload_n 0, 1) := by decide +kernel
theorem d_Matcher_find_87 : decode b_Matcher_find 87 = .ok (.aload_n 1, 1) := by decide +kernel
theorem d_Matcher_find_88 : decode b_Matcher_find 88 = .ok (.iload 6, 2) := by decide +kernel
theorem d_Matcher_find_90 : decode b_Matcher_find 90 = .ok (.iload_n 2, 1) := by decide +kernel
theorem d_Matcher_find_91 : decode b_Matcher_find 91 = .ok (.iload 5, 2) := by decide +kernel
theorem d_Matcher_find_93 : decode b_Matcher_find 93 = .ok (.invokevirtual 57, 3) := by decide +kernel
theorem d_Matcher_find_96 : decode b_Matcher_find 96 = .ok (.istore 8, 2) := by decide +kernel
theorem d_Matcher_find_98 : decode b_Matcher_find 98 = .ok (.iload 8, 2) := by decide +kernel
theorem d_Matcher_find_100 : decode b_Matcher_find 100 = .ok (.aload_n 0, 1) := by decide +kernel
theorem d_Matcher_find_101 : decode b_Matcher_find 101 = .ok (.getfield 21, 3) := by decide +kernel
theorem d_Matcher_find_104 : decode b_Matcher_find 104 = .ok (.if_icmp .le 17, 3) := by decide +kernel
theorem d_Matcher_find_107 : decode b_Matcher_find 107 = .ok (.aload_n 0, 1) := by decide +kernel
theorem d_Matcher_find_108 : decode b_Matcher_find 108 = .ok (.iload 8, 2) := by decide +kernel
theorem d_Matcher_find_110 : decode b_Matcher_find 110 = .ok (.putfield 21, 3) := by decide +kernel
theorem d_Matcher_find_113 : decode b_Matcher_find 113 = .ok (.aload_n 0, 1) := by decide +kernel
theorem d_Matcher_find_114 : decode b_Matcher_find 114 = .ok (.iload_n 2, 1) := by decide +kernel
theorem d_Matcher_find_115 : decode b_Matcher_find 115 = .ok (.iload 6, 2) := by decide +kernel
theorem d_Matcher_find_117 : decode b_Matcher_find 117 = .ok (.isub, 1) := by decide +kernel
theorem d_Matcher_find_118 : decode b_Matcher_find 118 = .ok (.putfield 25, 3) := by decide +kernel
theorem d_Matcher_find_121 : decode b_Matcher_find 121 = .ok (.aload_n 0, 1) := by decide +kernel
theorem d_Matcher_find_122 : decode b_Matcher_find 122 = .ok (.getfield 15, 3) := by decide +kernel
theorem d_Matcher_find_125 : decode b_Matcher_find 125 = .ok (.iload 6, 2) := by decide +kernel
theorem d_Matcher_find_127 : decode b_Matcher_find 127 = .ok (.iaload, 1) := by decide +kernel
theorem d_Matcher_find_128 : decode b_Matcher_find 128 = .ok (.istore 6, 2) := by decide +kernel
theorem d_Matcher_find_130 : decode b_Matcher_find 130 = .ok (.iinc 7 1, 3) := by decide +kernel
theorem d_Matcher_find_133 : decode b_Matcher_find 133 = .ok (.goto (-94), 3) := by decide +kernel
theorem d_Matcher_find_136 : decode b_Matcher_find 136 = .ok (.return_, 1) := by decide +kernel
theorem d_Found_addItem_0 : decode b_Found_addItem 0 = .ok (.aload_n 0, 1) := by decide +kernel
theorem d_Found_addItem_1 : decode b_Found_addItem 1 = .ok (.getfield 15, 3) := by decide +kernel
theorem d_Found_addItem_4 : decode b_Found_addItem 4 = .ok (.sipush 4096, 3) := by decide +kernel
theorem d_Found_addItem_7 : decode b_Found_addItem 7 = .ok (.if_icmp .ge 23, 3) := by decide +kernel
theorem d_Found_addItem_10 : decode b_Found_addItem 10 = .ok (.aload_n 0, 1) := by decide +kernel
theorem d_Found_addItem_11 : decode b_Found_addItem 11 = .ok (.getfield 9, 3) := by decide +kernel
theorem d_Found_addItem_14 : decode b_Found_addItem 14 = .ok (.aload_n 0, 1) := by decide +kernel
theorem d_Found_addItem_15 : decode b_Found_addItem 15 = .ok (.getfield 15, 3) := by decide +kernel
theorem d_Found_addItem_18 : decode b_Found_addItem 18 = .ok (.iload_n 1, 1) := by decide +kernel
theorem d_Found_addItem_19 : decode b_Found_addItem 19 = .ok (.iastore, 1) := by decide +kernel
theorem d_Found_addItem_20 : decode b_Found_addItem 20 = .ok (.aload_n 0, 1) := by decide +kernel
theorem d_Found_addItem_21 : decode b_Found_addItem 21 = .ok (.dup, 1) := by decide +kernel
theorem d_Found_addItem_22 : decode b_Found_addItem 22 = .ok (.getfield 15, 3) := by decide +kernel
theorem d_Found_addItem_25 : decode b_Found_addItem 25 = .ok (.iconst 1, 1) := by decide +kernel
theorem d_Found_addItem_26 : decode b_Found_addItem 26 = .ok (.iadd, 1) := by decide +kernel
theorem d_Found_addItem_27 : decode b_Found_addItem 27 = .ok (.putfield 15, 3) := by decide +kernel
theorem d_Found_addItem_30 : decode b_Found_addItem 30 = .ok (.return_, 1) := by decide +kernel
theorem d_Found_addSingle_0 : decode b_Found_addSingle 0 = .ok (.aload_n 0, 1) := by decide +kernel
theorem d_Found_addSingle_1 : decode b_Found_addSingle 1 = .ok (.iload_n 1, 1) := by decide +kernel
theorem d_Found_addSingle_2 : decode b_Found_addSingle 2 = .ok (.invokevirtual 31, 3) := by decide +kernel
theorem d_Found_addSingle_5 : decode b_Found_addSingle 5 = .ok (.aload_n 0, 1) := by decide +kernel
theorem d_Found_addSingle_6 : decode b_Found_addSingle 6 = .ok (.getfield 19, 3) := by decide +kernel
theorem d_Found_addSingle_9 : decode b_Found_addSingle 9 = .ok (.iload_n 1, 1) := by decide +kernel
theorem d_Found_addSingle_10 : decode b_Found_addSingle 10 = .ok (.sipush 255, 3) := by decide +kernel
theorem d_Found_addSingle_13 : decode b_Found_addSingle 13 = .ok (.iand, 1) := by decide +kernel
theorem d_Found_addSingle_14 : decode b_Found_addSingle 14 = .ok (.dup2, 1) := by decide +kernel
theorem d_Found_addSingle_15 : decode b_Found_addSingle 15 = .ok (.iaload, 1) := by decide +kernel
theorem d_Found_addSingle_16 : decode b_Found_addSingle 16 = .ok (.iconst 1, 1) := by decide +kernel
theorem d_Found_addSingle_17 : decode b_Found_addSingle 17 = .ok (.iadd, 1) := by decide +kernel
theorem d_Found_addSingle_18 : decode b_Found_addSingle 18 = .ok (.iastore, 1) := by decide +kernel
theorem d_Found_addSingle_19 : decode b_Found_addSingle 19 = .ok (.return_, 1) := by decide +kernel
theorem d_Bp_bitsIn_0 : decode b_Bp_bitsIn 0 = .ok (.iconst 0, 1) := by decide +kernel
theorem d_Bp_bitsIn_1 : decode b_Bp_bitsIn 1 = .ok (.istore_n 1, 1) := by decide +kernel
theorem d_Bp_bitsIn_2 : decode b_Bp_bitsIn 2 = .ok (.iload_n 1, 1) := by decide +kernel
theorem d_Bp_bitsIn_3 : decode b_Bp_bitsIn 3 = .ok (.bipush 31, 2) := by decide +kernel
theorem d_Bp_bitsIn_5 : decode b_Bp_bitsIn 5 = .ok (.if_icmp .ge 17, 3) := by decide +kernel
theorem d_Bp_bitsIn_8 : decode b_Bp_bitsIn 8 = .ok (.iload_n 0, 1) := by decide +kernel
theorem d_Bp_bitsIn_9 : decode b_Bp_bitsIn 9 = .ok (.iload_n 1, 1) := by decide +kernel
theorem d_Bp_bitsIn_10 : decode b_Bp_bitsIn 10 = .ok (.ishr, 1) := by decide +kernel
theorem d_Bp_bitsIn_11 : decode b_Bp_bitsIn 11 = .ok (.ifCond .ne 5, 3) := by decide +kernel
theorem d_Bp_bitsIn_14 : decode b_Bp_bitsIn 14 = .ok (.iload_n 1, 1) := by decide +kernel
theorem d_Bp_bitsIn_15 : decode b_Bp_bitsIn 15 = .ok (.ireturn, 1) := by decide +kernel
theorem d_Bp_bitsIn_16 : decode b_Bp_bitsIn 16 = .ok (.iinc 1 1, 3) := by decide +kernel
theorem d_Bp_bitsIn_19 : decode b_Bp_bitsIn 19 = .ok (.goto (-17), 3) := by decide +kernel
theorem d_Bp_bitsIn_22 : decode b_Bp_bitsIn 22 = .ok (.bipush 31, 2) := by decide +kernel
theorem d_Bp_bitsIn_24 : decode b_Bp_bitsIn 24 = .ok (.ireturn, 1) := by decide +kernel
theorem d_Bp_symbolForLength_0 : decode b_Bp_symbolForLength 0 = .ok (.iload_n 0, 1) := by decide +kernel
theorem d_Bp_symbolForLength_1 : decode b_Bp_symbolForLength 1 = .ok (.sipush 258, 3) := by decide +kernel
theorem d_Bp_symbolForLength_4 : decode b_Bp_symbolForLength 4 = .ok (.if_icmp .lt 7, 3) := by decide +kernel
theorem d_Bp_symbolForLength_7 : decode b_Bp_symbolForLength 7 = .ok (.sipush 285, 3) := by decide +kernel
theorem d_Bp_symbolForLength_10 : decode b_Bp_symbolForLength 10 = .ok (.ireturn, 1) := by decide +kernel
theorem d_Bp_symbolForLength_11 : decode b_Bp_symbolForLength 11 = .ok (.iload_n 0, 1) := by decide +kernel
theorem d_Bp_symbolForLength_12 : decode b_Bp_symbolForLength 12 = .ok (.iconst 3, 1) := by decide +kernel
theorem d_Bp_symbolForLength_13 : decode b_Bp_symbolForLength 13 = .ok (.isub, 1) := by decide +kernel
theorem d_Bp_symbolForLength_14 : decode b_Bp_symbolForLength 14 = .ok (.istore_n 1, 1) := by decide +kernel
theorem d_Bp_symbolForLength_15 : decode b_Bp_symbolForLength 15 = .ok (.iload_n 1, 1) := by decide +kernel
theorem d_Bp_symbolForLength_16 : decode b_Bp_symbolForLength 16 = .ok (.invokestatic 118, 3) := by decide +kernel
theorem d_Bp_symbolForLength_19 : decode b_Bp_symbolForLength 19 = .ok (.iconst 3, 1) := by decide +kernel
theorem d_Bp_symbolForLength_20 : decode b_Bp_symbolForLength 20 = .ok (.isub, 1) := by decide +kernel
theorem d_Bp_symbolForLength_21 : decode b_Bp_symbolForLength 21 = .ok (.iconst 0, 1) := by decide +kernel
theorem d_Bp_symbolForLength_22 : decode b_Bp_symbolForLength 22 = .ok (.invokestatic 121, 3) := by decide +kernel
theorem d_Bp_symbolForLength_25 : decode b_Bp_symbolForLength 25 = .ok (.istore_n 2, 1) := by decide +kernel
theorem d_Bp_symbolForLength_26 : decode b_Bp_symbolForLength 26 = .ok (.sipush 257, 3) := by decide +kernel
theorem d_Bp_symbolForLength_29 : decode b_Bp_symbolForLength 29 = .ok (.iconst 4, 1) := by decide +kernel
theorem d_Bp_symbolForLength_30 : decode b_Bp_symbolForLength 30 = .ok (.iload_n 2, 1) := by decide +kernel
theorem d_Bp_symbolForLength_31 : decode b_Bp_symbolForLength 31 = .ok (.imul, 1) := by decide +kernel
theorem d_Bp_symbolForLength_32 : decode b_Bp_symbolForLength 32 = .ok (.iadd, 1) := by decide +kernel
theorem d_Bp_symbolForLength_33 : decode b_Bp_symbolForLength 33 = .ok (.iload_n 1, 1) := by decide +kernel
theorem d_Bp_symbolForLength_34 : decode b_Bp_symbolForLength 34 = .ok (.iload_n 2, 1) := by decide +kernel
theorem d_Bp_symbolForLength_35 : decode b_Bp_symbolForLength 35 = .ok (.ishr, 1) := by decide +kernel
theorem d_Bp_symbolForLength_36 : decode b_Bp_symbolForLength 36 = .ok (.iadd, 1) := by decide +kernel
theorem d_Bp_symbolForLength_37 : decode b_Bp_symbolForLength 37 = .ok (.ireturn, 1) := by decide +kernel
theorem d_Bp_symbolForDistance_0 : decode b_Bp_symbolForDistance 0 = .ok (.iload_n 0, 1) := by decide +kernel
theorem d_Bp_symbolForDistance_1 : decode b_Bp_symbolForDistance 1 = .ok (.iconst 1, 1) := by decide +kernel
theorem d_Bp_symbolForDistance_2 : decode b_Bp_symbolForDistance 2 = .ok (.isub, 1) := by decide +kernel
theorem d_Bp_symbolForDistance_3 : decode b_Bp_symbolForDistance 3 = .ok (.istore_n 1, 1) := by decide +kernel
theorem d_Bp_symbolForDistance_4 : decode b_Bp_symbolForDistance 4 = .ok (.iload_n 1, 1) := by decide +kernel
theorem d_Bp_symbolForDistance_5 : decode b_Bp_symbolForDistance 5 = .ok (.invokestatic 118, 3) := by decide +kernel
theorem d_Bp_symbolForDistance_8 : decode b_Bp_symbolForDistance 8 = .ok (.iconst 2, 1) := by decide +kernel
theorem d_Bp_symbolForDistance_9 : decode b_Bp_symbolForDistance 9 = .ok (.isub, 1) := by decide +kernel
theorem d_Bp_symbolForDistance_10 : decode b_Bp_symbolForDistance 10 = .ok (.iconst 0, 1) := by decide +kernel
theorem d_Bp_symbolForDistance_11 : decode b_Bp_symbolForDistance 11 = .ok (.invokestatic 121, 3) := by decide +kernel
theorem d_Bp_symbolForDistance_14 : decode b_Bp_symbolForDistance 14 = .ok (.istore_n 2, 1) := by decide +kernel
theorem d_Bp_symbolForDistance_15 : decode b_Bp_symbolForDistance 15 = .ok (.iconst 2, 1) := by decide +kernel
theorem d_Bp_symbolForDistance_16 : decode b_Bp_symbolForDistance 16 = .ok (.iload_n 2, 1) := by decide +kernel
theorem d_Bp_symbolForDistance_17 : decode b_Bp_symbolForDistance 17 = .ok (.imul, 1) := by decide +kernel
theorem d_Bp_symbolForDistance_18 : decode b_Bp_symbolForDistance 18 = .ok (.iload_n 1, 1) := by decide +kernel
theorem d_Bp_symbolForDistance_19 : decode b_Bp_symbolForDistance 19 = .ok (.iload_n 2, 1) := by decide +kernel
theorem d_Bp_symbolForDistance_20 : decode b_Bp_symbolForDistance 20 = .ok (.ishr, 1) := by decide +kernel
theorem d_Bp_symbolForDistance_21 : decode b_Bp_symbolForDistance 21 = .ok (.iadd, 1) := by decide +kernel
theorem d_Bp_symbolForDistance_22 : decode b_Bp_symbolForDistance 22 = .ok (.ireturn, 1) := by decide +kernel
theorem d_Found_addMatch_0 : decode b_Found_addMatch 0 = .ok (.aload_n 0, 1) := by decide +kernel
theorem d_Found_addMatch_1 : decode b_Found_addMatch 1 = .ok (.iload_n 1, 1) := by decide +kernel
theorem d_Found_addMatch_2 : decode b_Found_addMatch 2 = .ok (.bipush 16, 2) := by decide +kernel
theorem d_Found_addMatch_4 : decode b_Found_addMatch 4 = .ok (.ishl, 1) := by decide +kernel
theorem d_Found_addMatch_5 : decode b_Found_addMatch 5 = .ok (.iload_n 2, 1) := by decide +kernel
theorem d_Found_addMatch_6 : decode b_Found_addMatch 6 = .ok (.ior, 1) := by decide +kernel
theorem d_Found_addMatch_7 : decode b_Found_addMatch 7 = .ok (.invokevirtual 31, 3) := by decide +kernel
theorem d_Found_addMatch_10 : decode b_Found_addMatch 10 = .ok (.aload_n 0, 1) := by decide +kernel
theorem d_Found_addMatch_11 : decode b_Found_addMatch 11 = .ok (.getfield 19, 3) := by decide +kernel
theorem d_Found_addMatch_14 : decode b_Found_addMatch 14 = .ok (.iload_n 1, 1) := by decide +kernel
theorem d_Found_addMatch_15 : decode b_Found_addMatch 15 = .ok (.invokestatic 35, 3) := by decide +kernel
theorem d_Found_addMatch_18 : decode b_Found_addMatch 18 = .ok (.dup2, 1) := by decide +kernel
theorem d_Found_addMatch_19 : decode b_Found_addMatch 19 = .ok (.iaload, 1) := by decide +kernel
theorem d_Found_addMatch_20 : decode b_Found_addMatch 20 = .ok (.iconst 1, 1) := by decide +kernel
theorem d_Found_addMatch_21 : decode b_Found_addMatch 21 = .ok (.iadd, 1) := by decide +kernel
theorem d_Found_addMatch_22 : decode b_Found_addMatch 22 = .ok (.iastore, 1) := by decide +kernel
theorem d_Found_addMatch_23 : decode b_Found_addMatch 23 = .ok (.aload_n 0, 1) := by decide +kernel
theorem d_Found_addMatch_24 : decode b_Found_addMatch 24 = .ok (.getfield 22, 3) := by decide +kernel
theorem d_Found_addMatch_27 : decode b_Found_addMatch 27 = .ok (.iload_n 2, 1) := by decide +kernel
theorem d_Found_addMatch_28 : decode b_Found_addMatch 28 = .ok (.invokestatic 39, 3) := by decide +kernel
theorem d_Found_addMatch_31 : decode b_Found_addMatch 31 = .ok (.dup2, 1) := by decide +kernel
theorem d_Found_addMatch_32 : decode b_Found_addMatch 32 = .ok (.iaload, 1) := by decide +kernel
theorem d_Found_addMatch_33 : decode b_Found_addMatch 33 = .ok (.iconst 1, 1) := by decide +kernel
theorem d_Found_addMatch_34 : decode b_Found_addMatch 34 = .ok (.iadd, 1) := by decide +kernel
theorem d_Found_addMatch_35 : decode b_Found_addMatch 35 = .ok (.iastore, 1) := by decide +kernel
theorem d_Found_addMatch_36 : decode b_Found_addMatch 36 = .ok (.return_, 1) := by decide +kernel
theorem d_Packer_findSymbols_0 : decode b_Packer_findSymbols 0 = .ok (.aload_n 0, 1) := by decide +kernel
theorem d_Packer_findSymbols_1 : decode b_Packer_findSymbols 1 = .ok (.getfield 28, 3) := by decide +kernel
theorem d_Packer_findSymbols_4 : decode b_Packer_findSymbols 4 = .ok (.invokevirtual 132, 3) := by decide +kernel
theorem d_Packer_findSymbols_7 : decode b_Packer_findSymbols 7 = .ok (.iconst 0, 1) := by decide +kernel
theorem d_Packer_findSymbols_8 : decode b_Packer_findSymbols 8 = .ok (.istore 6, 2) := by decide +kernel
theorem d_Packer_findSymbols_10 : decode b_Packer_findSymbols 10 = .ok (.iconst 1, 1) := by decide +kernel
theorem d_Packer_findSymbols_11 : decode b_Packer_findSymbols 11 = .ok (.istore 7, 2) := by decide +kernel
theorem d_Packer_findSymbols_13 : decode b_Packer_findSymbols 13 = .ok (.iload_n 2, 1) := by decide +kernel
theorem d_Packer_findSymbols_14 : decode b_Packer_findSymbols 14 = .ok (.istore 8, 2) := by decide +kernel
theorem d_Packer_findSymbols_16 : decode b_Packer_findSymbols 16 = .ok (.iload 8, 2) := by decide +kernel
theorem d_Packer_findSymbols_18 : decode b_Packer_findSymbols 18 = .ok (.iload_n 3, 1) := by decide +kernel
theorem d_Packer_findSymbols_19 : decode b_Packer_findSymbols 19 = .ok (.if_icmp .ge 169, 3) := by decide +kernel
theorem d_Packer_findSymbols_22 : decode b_Packer_findSymbols 22 = .ok (.iload 6, 2) := by decide +kernel
theorem d_Packer_findSymbols_24 : decode b_Packer_findSymbols 24 = .ok (.ifCond .ne 16, 3) := by decide +kernel
theorem d_Packer_findSymbols_27 : decode b_Packer_findSymbols 27 = .ok (.aload_n 0, 1) := by decide +kernel
theorem d_Packer_findSymbols_28 : decode b_Packer_findSymbols 28 = .ok (.getfield 12, 3) := by decide +kernel
theorem d_Packer_findSymbols_31 : decode b_Packer_findSymbols 31 = .ok (.aload_n 1, 1) := by decide +kernel
theorem d_Packer_findSymbols_32 : decode b_Packer_findSymbols 32 = .ok (.iload 8, 2) := by decide +kernel
theorem d_Packer_findSymbols_34 : decode b_Packer_findSymbols 34 = .ok (.iload_n 3, 1) := by decide +kernel
theorem d_Packer_findSymbols_35 : decode b_Packer_findSymbols 35 = .ok (.iload 4, 2) := by decide +kernel
theorem d_Packer_findSymbols_37 : decode b_Packer_findSymbols 37 = .ok (.invokevirtual 135, 3) := by decide +kernel
theorem d_Packer_findSymbols_40 : decode b_Packer_findSymbols 40 = .ok (.aload_n 0, 1) := by decide +kernel
theorem d_Packer_findSymbols_41 : decode b_Packer_findSymbols 41 = .ok (.getfield 12, 3) := by decide +kernel
theorem d_Packer_findSymbols_44 : decode b_Packer_findSymbols 44 = .ok (.getfield 139, 3) := by decide +kernel
theorem d_Packer_findSymbols_47 : decode b_Packer_findSymbols 47 = .ok (.istore 9, 2) := by decide +kernel
theorem d_Packer_findSymbols_49 : decode b_Packer_findSymbols 49 = .ok (.aload_n 0, 1) := by decide +kernel
theorem d_Packer_findSymbols_50 : decode b_Packer_findSymbols 50 = .ok (.getfield 12, 3) := by decide +kernel
theorem d_Packer_findSymbols_53 : decode b_Packer_findSymbols 53 = .ok (.getfield 142, 3) := by decide +kernel
theorem d_Packer_findSymbols_56 : decode b_Packer_findSymbols 56 = .ok (.istore 10, 2) := by decide +kernel
theorem d_Packer_findSymbols_58 : decode b_Packer_findSymbols 58 = .ok (.iload 5, 2) := by decide +kernel
theorem d_Packer_findSymbols_60 : decode b_Packer_findSymbols 60 = .ok (.ifCond .eq 12, 3) := by decide +kernel
theorem d_Packer_findSymbols_63 : decode b_Packer_findSymbols 63 = .ok (.iload 9, 2) := by decide +kernel
theorem d_Packer_findSymbols_65 : decode b_Packer_findSymbols 65 = .ok (.ifCond .le 7, 3) := by decide +kernel
theorem d_Packer_findSymbols_68 : decode b_Packer_findSymbols 68 = .ok (.iconst 1, 1) := by decide +kernel
theorem d_Packer_findSymbols_69 : decode b_Packer_findSymbols 69 = .ok (.goto 4, 3) := by decide +kernel
theorem d_Packer_findSymbols_72 : decode b_Packer_findSymbols 72 = .ok (.iconst 0, 1) := by decide +kernel
theorem d_Packer_findSymbols_73 : decode b_Packer_findSymbols 73 = .ok (.istore 6, 2) := by decide +kernel
theorem d_Packer_findSymbols_75 : decode b_Packer_findSymbols 75 = .ok (.iload 6, 2) := by decide +kernel
theorem d_Packer_findSymbols_77 : decode b_Packer_findSymbols 77 = .ok (.ifCond .eq 18, 3) := by decide +kernel
theorem d_Packer_findSymbols_80 : decode b_Packer_findSymbols 80 = .ok (.aload_n 0, 1) := by decide +kernel
theorem d_Packer_findSymbols_81 : decode b_Packer_findSymbols 81 = .ok (.getfield 12, 3) := by decide +kernel
theorem d_Packer_findSymbols_84 : decode b_Packer_findSymbols 84 = .ok (.aload_n 1, 1) := by decide +kernel
theorem d_Packer_findSymbols_85 : decode b_Packer_findSymbols 85 = .ok (.iload 8, 2) := by decide +kernel
theorem d_Packer_findSymbols_87 : decode b_Packer_findSymbols 87 = .ok (.iconst 1, 1) := by decide +kernel
theorem d_Packer_findSymbols_88 : decode b_Packer_findSymbols 88 = .ok (.iadd, 1) := by decide +kernel
theorem d_Packer_findSymbols_89 : decode b_Packer_findSymbols 89 = .ok (.iload_n 3, 1) := by decide +kernel
theorem d_Packer_findSymbols_90 : decode b_Packer_findSymbols 90 = .ok (.iload 4, 2) := by decide +kernel
theorem d_Packer_findSymbols_92 : decode b_Packer_findSymbols 92 = .ok (.invokevirtual 135, 3) := by decide +kernel
theorem d_Packer_findSymbols_95 : decode b_Packer_findSymbols 95 = .ok (.iload 9, 2) := by decide +kernel
theorem d_Packer_findSymbols_97 : decode b_Packer_findSymbols 97 = .ok (.ifCond .eq 20, 3) := by decide +kernel
theorem d_Packer_findSymbols_100 : decode b_Packer_findSymbols 100 = .ok (.iload 6, 2) := by decide +kernel
theorem d_Packer_findSymbols_102 : decode b_Packer_findSymbols 102 = .ok (.ifCond .eq 44, 3) := by decide +kernel
theorem d_Packer_findSymbols_105 : decode b_Packer_findSymbols 105 = .ok (.aload_n 0, 1) := by decide +kernel
theorem d_Packer_findSymbols_106 : decode b_Packer_findSymbols 106 = .ok (.getfield 12, 3) := by decide +kernel
theorem d_Packer_findSymbols_109 : decode b_Packer_findSymbols 109 = .ok (.getfield 139, 3) := by decide +kernel
theorem d_Packer_findSymbols_112 : decode b_Packer_findSymbols 112 = .ok (.iload 9, 2) := by decide +kernel
theorem d_Packer_findSymbols_114 : decode b_Packer_findSymbols 114 = .ok (.if_icmp .le 32, 3) := by decide +kernel
theorem d_Packer_findSymbols_117 : decode b_Packer_findSymbols 117 = .ok (.aload_n 0, 1) := by decide +kernel
theorem d_Packer_findSymbols_118 : decode b_Packer_findSymbols 118 = .ok (.getfield 28, 3) := by decide +kernel
theorem d_Packer_findSymbols_121 : decode b_Packer_findSymbols 121 = .ok (.aload_n 1, 1) := by decide +kernel
theorem d_Packer_findSymbols_122 : decode b_Packer_findSymbols 122 = .ok (.iload 8, 2) := by decide +kernel
theorem d_Packer_findSymbols_124 : decode b_Packer_findSymbols 124 = .ok (.invokevirtual 145, 3) := by decide +kernel
theorem d_Packer_findSymbols_127 : decode b_Packer_findSymbols 127 = .ok (.invokevirtual 148, 3) := by decide +kernel
theorem d_Packer_findSymbols_130 : decode b_Packer_findSymbols 130 = .ok (.aload_n 0, 1) := by decide +kernel
theorem d_Packer_findSymbols_131 : decode b_Packer_findSymbols 131 = .ok (.dup, 1) := by decide +kernel
theorem d_Packer_findSymbols_132 : decode b_Packer_findSymbols 132 = .ok (.getfield 68, 3) := by decide +kernel
theorem d_Packer_findSymbols_135 : decode b_Packer_findSymbols 135 = .ok (.iconst 1, 1) := by decide +kernel
theorem d_Packer_findSymbols_136 : decode b_Packer_findSymbols 136 = .ok (.iadd, 1) := by decide +kernel
theorem d_Packer_findSymbols_137 : decode b_Packer_findSymbols 137 = .ok (.putfield 68, 3) := by decide +kernel
theorem d_Packer_findSymbols_140 : decode b_Packer_findSymbols 140 = .ok (.iconst 1, 1) := by decide +kernel
theorem d_Packer_findSymbols_141 : decode b_Packer_findSymbols 141 = .ok (.istore 7, 2) := by decide +kernel
theorem d_Packer_findSymbols_143 : decode b_Packer_findSymbols 143 = .ok (.goto 31, 3) := by decide +kernel
theorem d_Packer_findSymbols_146 : decode b_Packer_findSymbols 146 = .ok (.aload_n 0, 1) := by decide +kernel
theorem d_Packer_findSymbols_147 : decode b_Packer_findSymbols 147 = .ok (.getfield 28, 3) := by decide +kernel
theorem d_Packer_findSymbols_150 : decode b_Packer_findSymbols 150 = .ok (.iload 9, 2) := by decide +kernel
theorem d_Packer_findSymbols_152 : decode b_Packer_findSymbols 152 = .ok (.iload 10, 2) := by decide +kernel
theorem d_Packer_findSymbols_154 : decode b_Packer_findSymbols 154 = .ok (.invokevirtual 152, 3) := by decide +kernel
theorem d_Packer_findSymbols_157 : decode b_Packer_findSymbols 157 = .ok (.aload_n 0, 1) := by decide +kernel
theorem d_Packer_findSymbols_158 : decode b_Packer_findSymbols 158 = .ok (.dup, 1) := by decide +kernel
theorem d_Packer_findSymbols_159 : decode b_Packer_findSymbols 159 = .ok (.getfield 65, 3) := by decide +kernel
theorem d_Packer_findSymbols_162 : decode b_Packer_findSymbols 162 = .ok (.iconst 1, 1) := by decide +kernel
theorem d_Packer_findSymbols_163 : decode b_Packer_findSymbols 163 = .ok (.iadd, 1) := by decide +kernel
theorem d_Packer_findSymbols_164 : decode b_Packer_findSymbols 164 = .ok (.putfield 65, 3) := by decide +kernel
theorem d_Packer_findSymbols_167 : decode b_Packer_findSymbols 167 = .ok (.iconst 0, 1) := by decide +kernel
theorem d_Packer_findSymbols_168 : decode b_Packer_findSymbols 168 = .ok (.istore 6, 2) := by decide +kernel
theorem d_Packer_findSymbols_170 : decode b_Packer_findSymbols 170 = .ok (.iload 9, 2) := by decide +kernel
theorem d_Packer_findSymbols_172 : decode b_Packer_findSymbols 172 = .ok (.istore 7, 2) := by decide +kernel
theorem d_Packer_findSymbols_174 : decode b_Packer_findSymbols 174 = .ok (.iload 8, 2) := by decide +kernel
theorem d_Packer_findSymbols_176 : decode b_Packer_findSymbols 176 = .ok (.iload 7, 2) := by decide +kernel
theorem d_Packer_findSymbols_178 : decode b_Packer_findSymbols 178 = .ok (.iconst 1, 1) := by decide +kernel
theorem d_Packer_findSymbols_179 : decode b_Packer_findSymbols 179 = .ok (.invokestatic 155, 3) := by decide +kernel
theorem d_Packer_findSymbols_182 : decode b_Packer_findSymbols 182 = .ok (.iadd, 1) := by decide +kernel
theorem d_Packer_findSymbols_183 : decode b_Packer_findSymbols 183 = .ok (.istore 8, 2) := by decide +kernel
theorem d_Packer_findSymbols_185 : decode b_Packer_findSymbols 185 = .ok (.goto (-169), 3) := by decide +kernel
theorem d_Packer_findSymbols_188 : decode b_Packer_findSymbols 188 = .ok (.return_, 1) := by decide +kernel
theorem d_LengthMaker_sortSymbols_0 : decode b_LengthMaker_sortSymbols 0 = .ok (.iconst 0, 1) := by decide +kernel
theorem d_LengthMaker_sortSymbols_1 : decode b_LengthMaker_sortSymbols 1 = .ok (.istore_n 3, 1) := by decide +kernel
theorem d_LengthMaker_sortSymbols_2 : decode b_LengthMaker_sortSymbols 2 = .ok (.iconst 0, 1) := by decide +kernel
theorem d_LengthMaker_sortSymbols_3 : decode b_LengthMaker_sortSymbols 3 = .ok (.istore 4, 2) := by decide +kernel
theorem d_LengthMaker_sortSymbols_5 : decode b_LengthMaker_sortSymbols 5 = .ok (.iload 4, 2) := by decide +kernel
theorem d_LengthMaker_sortSymbols_7 : decode b_LengthMaker_sortSymbols 7 = .ok (.iload_n 2, 1) := by decide +kernel
theorem d_LengthMaker_sortSymbols_8 : decode b_LengthMaker_sortSymbols 8 = .ok (.if_icmp .ge 76, 3) := by decide +kernel
theorem d_LengthMaker_sortSymbols_11 : decode b_LengthMaker_sortSymbols 11 = .ok (.aload_n 1, 1) := by decide +kernel
theorem d_LengthMaker_sortSymbols_12 : decode b_LengthMaker_sortSymbols 12 = .ok (.iload 4, 2) := by decide +kernel
theorem d_LengthMaker_sortSymbols_14 : decode b_LengthMaker_sortSymbols 14 = .ok (.iaload, 1) := by decide +kernel
theorem d_LengthMaker_sortSymbols_15 : decode b_LengthMaker_sortSymbols 15 = .ok (.ifCond .le 63, 3) := by decide +kernel
theorem d_LengthMaker_sortSymbols_18 : decode b_LengthMaker_sortSymbols 18 = .ok (.iload_n 3, 1) := by decide +kernel
theorem d_LengthMaker_sortSymbols_19 : decode b_LengthMaker_sortSymbols 19 = .ok (.istore 5, 2) := by decide +kernel
theorem d_LengthMaker_sortSymbols_21 : decode b_LengthMaker_sortSymbols 21 = .ok (.iload 5, 2) := by decide +kernel
theorem d_LengthMaker_sortSymbols_23 : decode b_LengthMaker_sortSymbols 23 = .ok (.ifCond .le 43, 3) := by decide +kernel
theorem d_LengthMaker_sortSymbols_26 : decode b_LengthMaker_sortSymbols 26 = .ok (.aload_n 1, 1) := by decide +kernel
theorem d_LengthMaker_sortSymbols_27 : decode b_LengthMaker_sortSymbols 27 = .ok (.aload_n 0, 1) := by decide +kernel
theorem d_LengthMaker_sortSymbols_28 : decode b_LengthMaker_sortSymbols 28 = .ok (.getfield 9, 3) := by decide +kernel
theorem d_LengthMaker_sortSymbols_31 : decode b_LengthMaker_sortSymbols 31 = .ok (.iload 5, 2) := by decide +kernel
theorem d_LengthMaker_sortSymbols_33 : decode b_LengthMaker_sortSymbols 33 = .ok (.iconst 1, 1) := by decide +kernel
theorem d_LengthMaker_sortSymbols_34 : decode b_LengthMaker_sortSymbols 34 = .ok (.isub, 1) := by decide +kernel
theorem d_LengthMaker_sortSymbols_35 : decode b_LengthMaker_sortSymbols 35 = .ok (.iaload, 1) := by decide +kernel
theorem d_LengthMaker_sortSymbols_36 : decode b_LengthMaker_sortSymbols 36 = .ok (.iaload, 1) := by decide +kernel
theorem d_LengthMaker_sortSymbols_37 : decode b_LengthMaker_sortSymbols 37 = .ok (.aload_n 1, 1) := by decide +kernel
theorem d_LengthMaker_sortSymbols_38 : decode b_LengthMaker_sortSymbols 38 = .ok (.iload 4, 2) := by decide +kernel
theorem d_LengthMaker_sortSymbols_40 : decode b_LengthMaker_sortSymbols 40 = .ok (.iaload, 1) := by decide +kernel
theorem d_LengthMaker_sortSymbols_41 : decode b_LengthMaker_sortSymbols 41 = .ok (.if_icmp .le 25, 3) := by decide +kernel
theorem d_LengthMaker_sortSymbols_44 : decode b_LengthMaker_sortSymbols 44 = .ok (.aload_n 0, 1) := by decide +kernel
theorem d_LengthMaker_sortSymbols_45 : decode b_LengthMaker_sortSymbols 45 = .ok (.getfield 9, 3) := by decide +kernel
theorem d_LengthMaker_sortSymbols_48 : decode b_LengthMaker_sortSymbols 48 = .ok (.iload 5, 2) := by decide +kernel
theorem d_LengthMaker_sortSymbols_50 : decode b_LengthMaker_sortSymbols 50 = .ok (.aload_n 0, 1) := by decide +kernel
theorem d_LengthMaker_sortSymbols_51 : decode b_LengthMaker_sortSymbols 51 = .ok (.getfield 9, 3) := by decide +kernel
theorem d_LengthMaker_sortSymbols_54 : decode b_LengthMaker_sortSymbols 54 = .ok (.iload 5, 2) := by decide +kernel
theorem d_LengthMaker_sortSymbols_56 : decode b_LengthMaker_sortSymbols 56 = .ok (.iconst 1, 1) := by decide +kernel
theorem d_LengthMaker_sortSymbols_57 : decode b_LengthMaker_sortSymbols 57 = .ok (.isub, 1) := by decide +kernel
theorem d_LengthMaker_sortSymbols_58 : decode b_LengthMaker_sortSymbols 58 = .ok (.iaload, 1) := by decide +kernel
theorem d_LengthMaker_sortSymbols_59 : decode b_LengthMaker_sortSymbols 59 = .ok (.iastore, 1) := by decide +kernel
theorem d_LengthMaker_sortSymbols_60 : decode b_LengthMaker_sortSymbols 60 = .ok (.iinc 5 (-1), 3) := by decide +kernel
theorem d_LengthMaker_sortSymbols_63 : decode b_LengthMaker_sortSymbols 63 = .ok (.goto (-42), 3) := by decide +kernel
theorem d_LengthMaker_sortSymbols_66 : decode b_LengthMaker_sortSymbols 66 = .ok (.aload_n 0, 1) := by decide +kernel
theorem d_LengthMaker_sortSymbols_67 : decode b_LengthMaker_sortSymbols 67 = .ok (.getfield 9, 3) := by decide +kernel
theorem d_LengthMaker_sortSymbols_70 : decode b_LengthMaker_sortSymbols 70 = .ok (.iload 5, 2) := by decide +kernel
theorem d_LengthMaker_sortSymbols_72 : decode b_LengthMaker_sortSymbols 72 = .ok (.iload 4, 2) := by decide +kernel
theorem d_LengthMaker_sortSymbols_74 : decode b_LengthMaker_sortSymbols 74 = .ok (.iastore, 1) := by decide +kernel
theorem d_LengthMaker_sortSymbols_75 : decode b_LengthMaker_sortSymbols 75 = .ok (.iinc 3 1, 3) := by decide +kernel
theorem d_LengthMaker_sortSymbols_78 : decode b_LengthMaker_sortSymbols 78 = .ok (.iinc 4 1, 3) := by decide +kernel
theorem d_LengthMaker_sortSymbols_81 : decode b_LengthMaker_sortSymbols 81 = .ok (.goto (-76), 3) := by decide +kernel
theorem d_LengthMaker_sortSymbols_84 : decode b_LengthMaker_sortSymbols 84 = .ok (.iload_n 3, 1) := by decide +kernel
theorem d_LengthMaker_sortSymbols_85 : decode b_LengthMaker_sortSymbols 85 = .ok (.ireturn, 1) := by decide +kernel
theorem d_LengthMaker_makeList_0 : decode b_LengthMaker_makeList 0 = .ok (.iload_n 2, 1) := by decide +kernel
theorem d_LengthMaker_makeList_1 : decode b_LengthMaker_makeList 1 = .ok (.iload 5, 2) := by decide +kernel
theorem d_LengthMaker_makeList_3 : decode b_LengthMaker_makeList 3 = .ok (.iconst 2, 1) := by decide +kernel
theorem d_LengthMaker_makeList_4 : decode b_LengthMaker_makeList 4 = .ok (.idiv, 1) := by decide +kernel
theorem d_LengthMaker_makeList_5 : decode b_LengthMaker_makeList 5 = .ok (.iadd, 1) := by decide +kernel
theorem d_LengthMaker_makeList_6 : decode b_LengthMaker_makeList 6 = .ok (.istore 7, 2) := by decide +kernel
theorem d_LengthMaker_makeList_8 : decode b_LengthMaker_makeList 8 = .ok (.iconst 0, 1) := by decide +kernel
theorem d_LengthMaker_makeList_9 : decode b_LengthMaker_makeList 9 = .ok (.istore 8, 2) := by decide +kernel
theorem d_LengthMaker_makeList_11 : decode b_LengthMaker_makeList 11 = .ok (.iconst 1, 1) := by decide +kernel
theorem d_LengthMaker_makeList_12 : decode b_LengthMaker_makeList 12 = .ok (.istore 9, 2) := by decide +kernel
theorem d_LengthMaker_makeList_14 : decode b_LengthMaker_makeList 14 = .ok (.iconst 0, 1) := by decide +kernel
theorem d_LengthMaker_makeList_15 : decode b_LengthMaker_makeList 15 = .ok (.istore 10, 2) := by decide +kernel
theorem d_LengthMaker_makeList_17 : decode b_LengthMaker_makeList 17 = .ok (.iload 10, 2) := by decide +kernel
theorem d_LengthMaker_makeList_19 : decode b_LengthMaker_makeList 19 = .ok (.iload 7, 2) := by decide +kernel
theorem d_LengthMaker_makeList_21 : decode b_LengthMaker_makeList 21 = .ok (.if_icmp .ge 117, 3) := by decide +kernel
theorem d_LengthMaker_makeList_24 : decode b_LengthMaker_makeList 24 = .ok (.iload 9, 2) := by decide +kernel
theorem d_LengthMaker_makeList_26 : decode b_LengthMaker_makeList 26 = .ok (.iload 5, 2) := by decide +kernel
theorem d_LengthMaker_makeList_28 : decode b_LengthMaker_makeList 28 = .ok (.if_icmp .ge 19, 3) := by decide +kernel
theorem d_LengthMaker_makeList_31 : decode b_LengthMaker_makeList 31 = .ok (.aload 4, 2) := by decide +kernel
theorem d_LengthMaker_makeList_33 : decode b_LengthMaker_makeList 33 = .ok (.iload 9, 2) := by decide +kernel
theorem d_LengthMaker_makeList_35 : decode b_LengthMaker_makeList 35 = .ok (.iconst 1, 1) := by decide +kernel
theorem d_LengthMaker_makeList_36 : decode b_LengthMaker_makeList 36 = .ok (.isub, 1) := by decide +kernel
theorem d_LengthMaker_makeList_37 : decode b_LengthMaker_makeList 37 = .ok (.iaload, 1) := by decide +kernel
theorem d_LengthMaker_makeList_38 : decode b_LengthMaker_makeList 38 = .ok (.aload 4, 2) := by decide +kernel
theorem d_LengthMaker_makeList_40 : decode b_LengthMaker_makeList 40 = .ok (.iload 9, 2) := by decide +kernel
theorem d_LengthMaker_makeList_42 : decode b_LengthMaker_makeList 42 = .ok (.iaload, 1) := by decide +kernel
theorem d_LengthMaker_makeList_43 : decode b_LengthMaker_makeList 43 = .ok (.iadd, 1) := by decide +kernel
theorem d_LengthMaker_makeList_44 : decode b_LengthMaker_makeList 44 = .ok (.goto 4, 3) := by decide +kernel
theorem d_LengthMaker_makeList_47 : decode b_LengthMaker_makeList 47 = .ok (.iconst 0, 1) := by decide +kernel
theorem d_LengthMaker_makeList_48 : decode b_LengthMaker_makeList 48 = .ok (.istore 11, 2) := by decide +kernel
theorem d_LengthMaker_makeList_50 : decode b_LengthMaker_makeList 50 = .ok (.iload 8, 2) := by decide +kernel
theorem d_LengthMaker_makeList_52 : decode b_LengthMaker_makeList 52 = .ok (.iload_n 2, 1) := by decide +kernel
theorem d_LengthMaker_makeList_53 : decode b_LengthMaker_makeList 53 = .ok (.if_icmp .ge 28, 3) := by decide +kernel
theorem d_LengthMaker_makeList_56 : decode b_LengthMaker_makeList 56 = .ok (.iload 9, 2) := by decide +kernel
theorem d_LengthMaker_makeList_58 : decode b_LengthMaker_makeList 58 = .ok (.iload 5, 2) := by decide +kernel
theorem d_LengthMaker_makeList_60 : decode b_LengthMaker_makeList 60 = .ok (.if_icmp .ge 17, 3) := by decide +kernel
theorem d_LengthMaker_makeList_63 : decode b_LengthMaker_makeList 63 = .ok (.aload_n 1, 1) := by decide +kernel
theorem d_LengthMaker_makeList_64 : decode b_LengthMaker_makeList 64 = .ok (.aload_n 0, 1) := by decide +kernel
theorem d_LengthMaker_makeList_65 : decode b_LengthMaker_makeList 65 = .ok (.getfield 9, 3) := by decide +kernel
theorem d_LengthMaker_makeList_68 : decode b_LengthMaker_makeList 68 = .ok (.iload 8, 2) := by decide +kernel
theorem d_LengthMaker_makeList_70 : decode b_LengthMaker_makeList 70 = .ok (.iaload, 1) := by decide +kernel
theorem d_LengthMaker_makeList_71 : decode b_LengthMaker_makeList 71 = .ok (.iaload, 1) := by decide +kernel
theorem d_LengthMaker_makeList_72 : decode b_LengthMaker_makeList 72 = .ok (.iload 11, 2) := by decide +kernel
theorem d_LengthMaker_makeList_74 : decode b_LengthMaker_makeList 74 = .ok (.if_icmp .gt 7, 3) := by decide +kernel
theorem d_LengthMaker_makeList_77 : decode b_LengthMaker_makeList 77 = .ok (.iconst 1, 1) := by decide +kernel
theorem d_LengthMaker_makeList_78 : decode b_LengthMaker_makeList 78 = .ok (.goto 4, 3) := by decide +kernel
theorem d_LengthMaker_makeList_81 : decode b_LengthMaker_makeList 81 = .ok (.iconst 0, 1) := by decide +kernel
theorem d_LengthMaker_makeList_82 : decode b_LengthMaker_makeList 82 = .ok (.istore 12, 2) := by decide +kernel
theorem d_LengthMaker_makeList_84 : decode b_LengthMaker_makeList 84 = .ok (.iload 12, 2) := by decide +kernel
theorem d_LengthMaker_makeList_86 : decode b_LengthMaker_makeList 86 = .ok (.ifCond .eq 23, 3) := by decide +kernel
theorem d_LengthMaker_makeList_89 : decode b_LengthMaker_makeList 89 = .ok (.aload 6, 2) := by decide +kernel
theorem d_LengthMaker_makeList_91 : decode b_LengthMaker_makeList 91 = .ok (.iload 10, 2) := by decide +kernel
theorem d_LengthMaker_makeList_93 : decode b_LengthMaker_makeList 93 = .ok (.aload_n 1, 1) := by decide +kernel
theorem d_LengthMaker_makeList_94 : decode b_LengthMaker_makeList 94 = .ok (.aload_n 0, 1) := by decide +kernel
theorem d_LengthMaker_makeList_95 : decode b_LengthMaker_makeList 95 = .ok (.getfield 9, 3) := by decide +kernel
theorem d_LengthMaker_makeList_98 : decode b_LengthMaker_makeList 98 = .ok (.iload 8, 2) := by decide +kernel
theorem d_LengthMaker_makeList_100 : decode b_LengthMaker_makeList 100 = .ok (.iaload, 1) := by decide +kernel
theorem d_LengthMaker_makeList_101 : decode b_LengthMaker_makeList 101 = .ok (.iaload, 1) := by decide +kernel
theorem d_LengthMaker_makeList_102 : decode b_LengthMaker_makeList 102 = .ok (.iastore, 1) := by decide +kernel
theorem d_LengthMaker_makeList_103 : decode b_LengthMaker_makeList 103 = .ok (.iinc 8 1, 3) := by decide +kernel
theorem d_LengthMaker_makeList_106 : decode b_LengthMaker_makeList 106 = .ok (.goto 26, 3) := by decide +kernel
theorem d_LengthMaker_makeList_109 : decode b_LengthMaker_makeList 109 = .ok (.aload 6, 2) := by decide +kernel
theorem d_LengthMaker_makeList_111 : decode b_LengthMaker_makeList 111 = .ok (.iload 10, 2) := by decide +kernel
theorem d_LengthMaker_makeList_113 : decode b_LengthMaker_makeList 113 = .ok (.iload 11, 2) := by decide +kernel
theorem d_LengthMaker_makeList_115 : decode b_LengthMaker_makeList 115 = .ok (.iastore, 1) := by decide +kernel
theorem d_LengthMaker_makeList_116 : decode b_LengthMaker_makeList 116 = .ok (.aload_n 0, 1) := by decide +kernel
theorem d_LengthMaker_makeList_117 : decode b_LengthMaker_makeList 117 = .ok (.getfield 21, 3) := by decide +kernel
theorem d_LengthMaker_makeList_120 : decode b_LengthMaker_makeList 120 = .ok (.iload 10, 2) := by decide +kernel
theorem d_LengthMaker_makeList_122 : decode b_LengthMaker_makeList 122 = .ok (.dup2, 1) := by decide +kernel
theorem d_LengthMaker_makeList_123 : decode b_LengthMaker_makeList 123 = .ok (.iaload, 1) := by decide +kernel
theorem d_LengthMaker_makeList_124 : decode b_LengthMaker_makeList 124 = .ok (.iconst 1, 1) := by decide +kernel
theorem d_LengthMaker_makeList_125 : decode b_LengthMaker_makeList 125 = .ok (.iload_n 3, 1) := by decide +kernel
theorem d_LengthMaker_makeList_126 : decode b_LengthMaker_makeList 126 = .ok (.ishl, 1) := by decide +kernel
theorem d_LengthMaker_makeList_127 : decode b_LengthMaker_makeList 127 = .ok (.ior, 1) := by decide +kernel
theorem d_LengthMaker_makeList_128 : decode b_LengthMaker_makeList 128 = .ok (.iastore, 1) := by decide +kernel
theorem d_LengthMaker_makeList_129 : decode b_LengthMaker_makeList 129 = .ok (.iinc 9 2, 3) := by decide +kernel
theorem d_LengthMaker_makeList_132 : decode b_LengthMaker_makeList 132 = .ok (.iinc 10 1, 3) := by decide +kernel
theorem d_LengthMaker_makeList_135 : decode b_LengthMaker_makeList 135 = .ok (.goto (-118), 3) := by decide +kernel
theorem d_LengthMaker_makeList_138 : decode b_LengthMaker_makeList 138 = .ok (.iload 7, 2) := by decide +kernel
theorem d_LengthMaker_makeList_140 : decode b_LengthMaker_makeList 140 = .ok (.ireturn, 1) := by decide +kernel
theorem d_LengthMaker_makeLists_0 : decode b_LengthMaker_makeLists 0 = .ok (.aload_n 0, 1) := by decide +kernel
theorem d_LengthMaker_makeLists_1 : decode b_LengthMaker_makeLists 1 = .ok (.getfield 21, 3) := by decide +kernel
theorem d_LengthMaker_makeLists_4 : decode b_LengthMaker_makeLists 4 = .ok (.iconst 0, 1) := by decide +kernel
theorem d_LengthMaker_makeLists_5 : decode b_LengthMaker_makeLists 5 = .ok (.invokestatic 24, 3) := by decide +kernel
theorem d_LengthMaker_makeLists_8 : decode b_LengthMaker_makeLists 8 = .ok (.aload_n 0, 1) := by decide +kernel
theorem d_LengthMaker_makeLists_9 : decode b_LengthMaker_makeLists 9 = .ok (.getfield 15, 3) := by decide +kernel
theorem d_LengthMaker_makeLists_12 : decode b_LengthMaker_makeLists 12 = .ok (.astore 4, 2) := by decide +kernel
theorem d_LengthMaker_makeLists_14 : decode b_LengthMaker_makeLists 14 = .ok (.aload_n 0, 1) := by decide +kernel
theorem d_LengthMaker_makeLists_15 : decode b_LengthMaker_makeLists 15 = .ok (.getfield 18, 3) := by decide +kernel
theorem d_LengthMaker_makeLists_18 : decode b_LengthMaker_makeLists 18 = .ok (.astore 5, 2) := by decide +kernel
theorem d_LengthMaker_makeLists_20 : decode b_LengthMaker_makeLists 20 = .ok (.iconst 0, 1) := by decide +kernel
theorem d_LengthMaker_makeLists_21 : decode b_LengthMaker_makeLists 21 = .ok (.istore 6, 2) := by decide +kernel
theorem d_LengthMaker_makeLists_23 : decode b_LengthMaker_makeLists 23 = .ok (.iconst 0, 1) := by decide +kernel
theorem d_LengthMaker_makeLists_24 : decode b_LengthMaker_makeLists 24 = .ok (.istore 7, 2) := by decide +kernel
theorem d_LengthMaker_makeLists_26 : decode b_LengthMaker_makeLists 26 = .ok (.iload 7, 2) := by decide +kernel
theorem d_LengthMaker_makeLists_28 : decode b_LengthMaker_makeLists 28 = .ok (.iload_n 3, 1) := by decide +kernel
theorem d_LengthMaker_makeLists_29 : decode b_LengthMaker_makeLists 29 = .ok (.if_icmp .ge 37, 3) := by decide +kernel
theorem d_LengthMaker_makeLists_32 : decode b_LengthMaker_makeLists 32 = .ok (.aload_n 0, 1) := by decide +kernel
theorem d_LengthMaker_makeLists_33 : decode b_LengthMaker_makeLists 33 = .ok (.aload_n 1, 1) := by decide +kernel
theorem d_LengthMaker_makeLists_34 : decode b_LengthMaker_makeLists 34 = .ok (.iload_n 2, 1) := by decide +kernel
theorem d_LengthMaker_makeLists_35 : decode b_LengthMaker_makeLists 35 = .ok (.iload 7, 2) := by decide +kernel
theorem d_LengthMaker_makeLists_37 : decode b_LengthMaker_makeLists 37 = .ok (.aload 4, 2) := by decide +kernel
theorem d_LengthMaker_makeLists_39 : decode b_LengthMaker_makeLists 39 = .ok (.iload 6, 2) := by decide +kernel
theorem d_LengthMaker_makeLists_41 : decode b_LengthMaker_makeLists 41 = .ok (.aload 5, 2) := by decide +kernel
theorem d_LengthMaker_makeLists_43 : decode b_LengthMaker_makeLists 43 = .ok (.invokevirtual 42, 3) := by decide +kernel
theorem d_LengthMaker_makeLists_46 : decode b_LengthMaker_makeLists 46 = .ok (.istore 6, 2) := by decide +kernel
theorem d_LengthMaker_makeLists_48 : decode b_LengthMaker_makeLists 48 = .ok (.aload 4, 2) := by decide +kernel
theorem d_LengthMaker_makeLists_50 : decode b_LengthMaker_makeLists 50 = .ok (.astore 8, 2) := by decide +kernel
theorem d_LengthMaker_makeLists_52 : decode b_LengthMaker_makeLists 52 = .ok (.aload 5, 2) := by decide +kernel
theorem d_LengthMaker_makeLists_54 : decode b_LengthMaker_makeLists 54 = .ok (.astore 4, 2) := by decide +kernel
theorem d_LengthMaker_makeLists_56 : decode b_LengthMaker_makeLists 56 = .ok (.aload 8, 2) := by decide +kernel
theorem d_LengthMaker_makeLists_58 : decode b_LengthMaker_makeLists 58 = .ok (.astore 5, 2) := by decide +kernel
theorem d_LengthMaker_makeLists_60 : decode b_LengthMaker_makeLists 60 = .ok (.iinc 7 1, 3) := by decide +kernel
theorem d_LengthMaker_makeLists_63 : decode b_LengthMaker_makeLists 63 = .ok (.goto (-37), 3) := by decide +kernel
theorem d_LengthMaker_makeLists_66 : decode b_LengthMaker_makeLists 66 = .ok (.return_, 1) := by decide +kernel
theorem d_LengthMaker_takeItems_0 : decode b_LengthMaker_takeItems 0 = .ok (.iconst 2, 1) := by decide +kernel
theorem d_LengthMaker_takeItems_1 : decode b_LengthMaker_takeItems 1 = .ok (.iload_n 1, 1) := by decide +kernel
theorem d_LengthMaker_takeItems_2 : decode b_LengthMaker_takeItems 2 = .ok (.imul, 1) := by decide +kernel
theorem d_LengthMaker_takeItems_3 : decode b_LengthMaker_takeItems 3 = .ok (.iconst 2, 1) := by decide +kernel
theorem d_LengthMaker_takeItems_4 : decode b_LengthMaker_takeItems 4 = .ok (.isub, 1) := by decide +kernel
theorem d_LengthMaker_takeItems_5 : decode b_LengthMaker_takeItems 5 = .ok (.istore 4, 2) := by decide +kernel
theorem d_LengthMaker_takeItems_7 : decode b_LengthMaker_takeItems 7 = .ok (.iload_n 2, 1) := by decide +kernel
theorem d_LengthMaker_takeItems_8 : decode b_LengthMaker_takeItems 8 = .ok (.iconst 1, 1) := by decide +kernel
theorem d_LengthMaker_takeItems_9 : decode b_LengthMaker_takeItems 9 = .ok (.isub, 1) := by decide +kernel
theorem d_LengthMaker_takeItems_10 : decode b_LengthMaker_takeItems 10 = .ok (.istore 5, 2) := by decide +kernel
theorem d_LengthMaker_takeItems_12 : decode b_LengthMaker_takeItems 12 = .ok (.iload 5, 2) := by decide +kernel
theorem d_LengthMaker_takeItems_14 : decode b_LengthMaker_takeItems 14 = .ok (.ifCond .lt 68, 3) := by decide +kernel
theorem d_LengthMaker_takeItems_17 : decode b_LengthMaker_takeItems 17 = .ok (.iconst 0, 1) := by decide +kernel
theorem d_LengthMaker_takeItems_18 : decode b_LengthMaker_takeItems 18 = .ok (.istore 6, 2) := by decide +kernel
theorem d_LengthMaker_takeItems_20 : decode b_LengthMaker_takeItems 20 = .ok (.iconst 0, 1) := by decide +kernel
theorem d_LengthMaker_takeItems_21 : decode b_LengthMaker_takeItems 21 = .ok (.istore 7, 2) := by decide +kernel
theorem d_LengthMaker_takeItems_23 : decode b_LengthMaker_takeItems 23 = .ok (.iload 7, 2) := by decide +kernel
theorem d_LengthMaker_takeItems_25 : decode b_LengthMaker_takeItems 25 = .ok (.iload 4, 2) := by decide +kernel
theorem d_LengthMaker_takeItems_27 : decode b_LengthMaker_takeItems 27 = .ok (.if_icmp .ge 40, 3) := by decide +kernel
theorem d_LengthMaker_takeItems_30 : decode b_LengthMaker_takeItems 30 = .ok (.aload_n 0, 1) := by decide +kernel
theorem d_LengthMaker_takeItems_31 : decode b_LengthMaker_takeItems 31 = .ok (.getfield 21, 3) := by decide +kernel
theorem d_LengthMaker_takeItems_34 : decode b_LengthMaker_takeItems 34 = .ok (.iload 7, 2) := by decide +kernel
theorem d_LengthMaker_takeItems_36 : decode b_LengthMaker_takeItems 36 = .ok (.iaload, 1) := by decide +kernel
theorem d_LengthMaker_takeItems_37 : decode b_LengthMaker_takeItems 37 = .ok (.iload 5, 2) := by decide +kernel
theorem d_LengthMaker_takeItems_39 : decode b_LengthMaker_takeItems 39 = .ok (.ishr, 1) := by decide +kernel
theorem d_LengthMaker_takeItems_40 : decode b_LengthMaker_takeItems 40 = .ok (.iconst 1, 1) := by decide +kernel
theorem d_LengthMaker_takeItems_41 : decode b_LengthMaker_takeItems 41 = .ok (.iand, 1) := by decide +kernel
theorem d_LengthMaker_takeItems_42 : decode b_LengthMaker_takeItems 42 = .ok (.ifCond .ne 19, 3) := by decide +kernel
theorem d_LengthMaker_takeItems_45 : decode b_LengthMaker_takeItems 45 = .ok (.aload_n 3, 1) := by decide +kernel
theorem d_LengthMaker_takeItems_46 : decode b_LengthMaker_takeItems 46 = .ok (.aload_n 0, 1) := by decide +kernel
theorem d_LengthMaker_takeItems_47 : decode b_LengthMaker_takeItems 47 = .ok (.getfield 9, 3) := by decide +kernel
theorem d_LengthMaker_takeItems_50 : decode b_LengthMaker_takeItems 50 = .ok (.iload 6, 2) := by decide +kernel
theorem d_LengthMaker_takeItems_52 : decode b_LengthMaker_takeItems 52 = .ok (.iaload, 1) := by decide +kernel
theorem d_LengthMaker_takeItems_53 : decode b_LengthMaker_takeItems 53 = .ok (.dup2, 1) := by decide +kernel
theorem d_LengthMaker_takeItems_54 : decode b_LengthMaker_takeItems 54 = .ok (.iaload, 1) := by decide +kernel
theorem d_LengthMaker_takeItems_55 : decode b_LengthMaker_takeItems 55 = .ok (.iconst 1, 1) := by decide +kernel
theorem d_LengthMaker_takeItems_56 : decode b_LengthMaker_takeItems 56 = .ok (.iadd, 1) := by decide +kernel
theorem d_LengthMaker_takeItems_57 : decode b_LengthMaker_takeItems 57 = .ok (.iastore, 1) := by decide +kernel
theorem d_LengthMaker_takeItems_58 : decode b_LengthMaker_takeItems 58 = .ok (.iinc 6 1, 3) := by decide +kernel
theorem d_LengthMaker_takeItems_61 : decode b_LengthMaker_takeItems 61 = .ok (.iinc 7 1, 3) := by decide +kernel
theorem d_LengthMaker_takeItems_64 : decode b_LengthMaker_takeItems 64 = .ok (.goto (-41), 3) := by decide +kernel
theorem d_LengthMaker_takeItems_67 : decode b_LengthMaker_takeItems 67 = .ok (.iconst 2, 1) := by decide +kernel
theorem d_LengthMaker_takeItems_68 : decode b_LengthMaker_takeItems 68 = .ok (.iload 4, 2) := by decide +kernel
theorem d_LengthMaker_takeItems_70 : decode b_LengthMaker_takeItems 70 = .ok (.iload 6, 2) := by decide +kernel
theorem d_LengthMaker_takeItems_72 : decode b_LengthMaker_takeItems 72 = .ok (.isub, 1) := by decide +kernel
theorem d_LengthMaker_takeItems_73 : decode b_LengthMaker_takeItems 73 = .ok (.imul, 1) := by decide +kernel
theorem d_LengthMaker_takeItems_74 : decode b_LengthMaker_takeItems 74 = .ok (.istore 4, 2) := by decide +kernel
theorem d_LengthMaker_takeItems_76 : decode b_LengthMaker_takeItems 76 = .ok (.iinc 5 (-1), 3) := by decide +kernel
theorem d_LengthMaker_takeItems_79 : decode b_LengthMaker_takeItems 79 = .ok (.goto (-67), 3) := by decide +kernel
theorem d_LengthMaker_takeItems_82 : decode b_LengthMaker_takeItems 82 = .ok (.return_, 1) := by decide +kernel
theorem d_LengthMaker_make_0 : decode b_LengthMaker_make 0 = .ok (.aload 4, 2) := by decide +kernel
theorem d_LengthMaker_make_2 : decode b_LengthMaker_make 2 = .ok (.iconst 0, 1) := by decide +kernel
theorem d_LengthMaker_make_3 : decode b_LengthMaker_make 3 = .ok (.invokestatic 24, 3) := by decide +kernel
theorem d_LengthMaker_make_6 : decode b_LengthMaker_make 6 = .ok (.aload_n 0, 1) := by decide +kernel
theorem d_LengthMaker_make_7 : decode b_LengthMaker_make 7 = .ok (.aload_n 1, 1) := by decide +kernel
theorem d_LengthMaker_make_8 : decode b_LengthMaker_make 8 = .ok (.iload_n 2, 1) := by decide +kernel
theorem d_LengthMaker_make_9 : decode b_LengthMaker_make 9 = .ok (.invokevirtual 30, 3) := by decide +kernel
theorem d_LengthMaker_make_12 : decode b_LengthMaker_make 12 = .ok (.istore 5, 2) := by decide +kernel
theorem d_LengthMaker_make_14 : decode b_LengthMaker_make 14 = .ok (.iload 5, 2) := by decide +kernel
theorem d_LengthMaker_make_16 : decode b_LengthMaker_make 16 = .ok (.iconst 1, 1) := by decide +kernel
theorem d_LengthMaker_make_17 : decode b_LengthMaker_make 17 = .ok (.if_icmp .ne 13, 3) := by decide +kernel
theorem d_LengthMaker_make_20 : decode b_LengthMaker_make 20 = .ok (.aload 4, 2) := by decide +kernel
theorem d_LengthMaker_make_22 : decode b_LengthMaker_make 22 = .ok (.aload_n 0, 1) := by decide +kernel
theorem d_LengthMaker_make_23 : decode b_LengthMaker_make 23 = .ok (.getfield 9, 3) := by decide +kernel
theorem d_LengthMaker_make_26 : decode b_LengthMaker_make 26 = .ok (.iconst 0, 1) := by decide +kernel
theorem d_LengthMaker_make_27 : decode b_LengthMaker_make 27 = .ok (.iaload, 1) := by decide +kernel
theorem d_LengthMaker_make_28 : decode b_LengthMaker_make 28 = .ok (.iconst 1, 1) := by decide +kernel
theorem d_LengthMaker_make_29 : decode b_LengthMaker_make 29 = .ok (.iastore, 1) := by decide +kernel
theorem d_LengthMaker_make_30 : decode b_LengthMaker_make 30 = .ok (.iload 5, 2) := by decide +kernel
theorem d_LengthMaker_make_32 : decode b_LengthMaker_make 32 = .ok (.iconst 1, 1) := by decide +kernel
theorem d_LengthMaker_make_33 : decode b_LengthMaker_make 33 = .ok (.if_icmp .le 20, 3) := by decide +kernel
theorem d_LengthMaker_make_36 : decode b_LengthMaker_make 36 = .ok (.aload_n 0, 1) := by decide +kernel
theorem d_LengthMaker_make_37 : decode b_LengthMaker_make 37 = .ok (.aload_n 1, 1) := by decide +kernel
theorem d_LengthMaker_make_38 : decode b_LengthMaker_make 38 = .ok (.iload 5, 2) := by decide +kernel
theorem d_LengthMaker_make_40 : decode b_LengthMaker_make 40 = .ok (.iload_n 3, 1) := by decide +kernel
theorem d_LengthMaker_make_41 : decode b_LengthMaker_make 41 = .ok (.invokevirtual 34, 3) := by decide +kernel
theorem d_LengthMaker_make_44 : decode b_LengthMaker_make 44 = .ok (.aload_n 0, 1) := by decide +kernel
theorem d_LengthMaker_make_45 : decode b_LengthMaker_make 45 = .ok (.iload 5, 2) := by decide +kernel
theorem d_LengthMaker_make_47 : decode b_LengthMaker_make 47 = .ok (.iload_n 3, 1) := by decide +kernel
theorem d_LengthMaker_make_48 : decode b_LengthMaker_make 48 = .ok (.aload 4, 2) := by decide +kernel
theorem d_LengthMaker_make_50 : decode b_LengthMaker_make 50 = .ok (.invokevirtual 38, 3) := by decide +kernel
theorem d_LengthMaker_make_53 : decode b_LengthMaker_make 53 = .ok (.return_, 1) := by decide +kernel
theorem d_Tale_needed_0 : decode b_Tale_needed 0 = .ok (.iload_n 3, 1) := by decide +kernel
theorem d_Tale_needed_1 : decode b_Tale_needed 1 = .ok (.istore 4, 2) := by decide +kernel
theorem d_Tale_needed_3 : decode b_Tale_needed 3 = .ok (.iload_n 3, 1) := by decide +kernel
theorem d_Tale_needed_4 : decode b_Tale_needed 4 = .ok (.istore 5, 2) := by decide +kernel
theorem d_Tale_needed_6 : decode b_Tale_needed 6 = .ok (.iload 5, 2) := by decide +kernel
theorem d_Tale_needed_8 : decode b_Tale_needed 8 = .ok (.iload_n 2, 1) := by decide +kernel
theorem d_Tale_needed_9 : decode b_Tale_needed 9 = .ok (.if_icmp .ge 22, 3) := by decide +kernel
theorem d_Tale_needed_12 : decode b_Tale_needed 12 = .ok (.aload_n 1, 1) := by decide +kernel
theorem d_Tale_needed_13 : decode b_Tale_needed 13 = .ok (.iload 5, 2) := by decide +kernel
theorem d_Tale_needed_15 : decode b_Tale_needed 15 = .ok (.iaload, 1) := by decide +kernel
theorem d_Tale_needed_16 : decode b_Tale_needed 16 = .ok (.ifCond .le 9, 3) := by decide +kernel
theorem d_Tale_needed_19 : decode b_Tale_needed 19 = .ok (.iload 5, 2) := by decide +kernel
theorem d_Tale_needed_21 : decode b_Tale_needed 21 = .ok (.iconst 1, 1) := by decide +kernel
theorem d_Tale_needed_22 : decode b_Tale_needed 22 = .ok (.iadd, 1) := by decide +kernel
theorem d_Tale_needed_23 : decode b_Tale_needed 23 = .ok (.istore 4, 2) := by decide +kernel
theorem d_Tale_needed_25 : decode b_Tale_needed 25 = .ok (.iinc 5 1, 3) := by decide +kernel
theorem d_Tale_needed_28 : decode b_Tale_needed 28 = .ok (.goto (-22), 3) := by decide +kernel
theorem d_Tale_needed_31 : decode b_Tale_needed 31 = .ok (.iload 4, 2) := by decide +kernel
theorem d_Tale_needed_33 : decode b_Tale_needed 33 = .ok (.ireturn, 1) := by decide +kernel
theorem d_Tale_addItem_0 : decode b_Tale_addItem 0 = .ok (.aload_n 0, 1) := by decide +kernel
theorem d_Tale_addItem_1 : decode b_Tale_addItem 1 = .ok (.getfield 31, 3) := by decide +kernel
theorem d_Tale_addItem_4 : decode b_Tale_addItem 4 = .ok (.aload_n 0, 1) := by decide +kernel
theorem d_Tale_addItem_5 : decode b_Tale_addItem 5 = .ok (.getfield 15, 3) := by decide +kernel
theorem d_Tale_addItem_8 : decode b_Tale_addItem 8 = .ok (.arraylength, 1) := by decide +kernel
theorem d_Tale_addItem_9 : decode b_Tale_addItem 9 = .ok (.if_icmp .ge 43, 3) := by decide +kernel
theorem d_Tale_addItem_12 : decode b_Tale_addItem 12 = .ok (.aload_n 0, 1) := by decide +kernel
theorem d_Tale_addItem_13 : decode b_Tale_addItem 13 = .ok (.getfield 15, 3) := by decide +kernel
theorem d_Tale_addItem_16 : decode b_Tale_addItem 16 = .ok (.aload_n 0, 1) := by decide +kernel
theorem d_Tale_addItem_17 : decode b_Tale_addItem 17 = .ok (.getfield 31, 3) := by decide +kernel
theorem d_Tale_addItem_20 : decode b_Tale_addItem 20 = .ok (.iload_n 1, 1) := by decide +kernel
theorem d_Tale_addItem_21 : decode b_Tale_addItem 21 = .ok (.iastore, 1) := by decide +kernel
theorem d_Tale_addItem_22 : decode b_Tale_addItem 22 = .ok (.aload_n 0, 1) := by decide +kernel
theorem d_Tale_addItem_23 : decode b_Tale_addItem 23 = .ok (.getfield 18, 3) := by decide +kernel
theorem d_Tale_addItem_26 : decode b_Tale_addItem 26 = .ok (.aload_n 0, 1) := by decide +kernel
theorem d_Tale_addItem_27 : decode b_Tale_addItem 27 = .ok (.getfield 31, 3) := by decide +kernel
theorem d_Tale_addItem_30 : decode b_Tale_addItem 30 = .ok (.iload_n 2, 1) := by decide +kernel
theorem d_Tale_addItem_31 : decode b_Tale_addItem 31 = .ok (.iastore, 1) := by decide +kernel
theorem d_Tale_addItem_32 : decode b_Tale_addItem 32 = .ok (.aload_n 0, 1) := by decide +kernel
theorem d_Tale_addItem_33 : decode b_Tale_addItem 33 = .ok (.dup, 1) := by decide +kernel
theorem d_Tale_addItem_34 : decode b_Tale_addItem 34 = .ok (.getfield 31, 3) := by decide +kernel
theorem d_Tale_addItem_37 : decode b_Tale_addItem 37 = .ok (.iconst 1, 1) := by decide +kernel
theorem d_Tale_addItem_38 : decode b_Tale_addItem 38 = .ok (.iadd, 1) := by decide +kernel
theorem d_Tale_addItem_39 : decode b_Tale_addItem 39 = .ok (.putfield 31, 3) := by decide +kernel
theorem d_Tale_addItem_42 : decode b_Tale_addItem 42 = .ok (.aload_n 0, 1) := by decide +kernel
theorem d_Tale_addItem_43 : decode b_Tale_addItem 43 = .ok (.getfield 21, 3) := by decide +kernel
theorem d_Tale_addItem_46 : decode b_Tale_addItem 46 = .ok (.iload_n 1, 1) := by decide +kernel
theorem d_Tale_addItem_47 : decode b_Tale_addItem 47 = .ok (.dup2, 1) := by decide +kernel
theorem d_Tale_addItem_48 : decode b_Tale_addItem 48 = .ok (.iaload, 1) := by decide +kernel
theorem d_Tale_addItem_49 : decode b_Tale_addItem 49 = .ok (.iconst 1, 1) := by decide +kernel
theorem d_Tale_addItem_50 : decode b_Tale_addItem 50 = .ok (.iadd, 1) := by decide +kernel
theorem d_Tale_addItem_51 : decode b_Tale_addItem 51 = .ok (.iastore, 1) := by decide +kernel
theorem d_Tale_addItem_52 : decode b_Tale_addItem 52 = .ok (.return_, 1) := by decide +kernel
theorem d_Bp_leastOfTold_0 : decode b_Bp_leastOfTold 0 = .ok (.iload_n 0, 1) := by decide +kernel
theorem d_Bp_leastOfTold_1 : decode b_Bp_leastOfTold 1 = .ok (.bipush 18, 2) := by decide +kernel
theorem d_Bp_leastOfTold_3 : decode b_Bp_leastOfTold 3 = .ok (.if_icmp .ne 8, 3) := by decide +kernel
theorem d_Bp_leastOfTold_6 : decode b_Bp_leastOfTold 6 = .ok (.bipush 11, 2) := by decide +kernel
theorem d_Bp_leastOfTold_8 : decode b_Bp_leastOfTold 8 = .ok (.goto 4, 3) := by decide +kernel
theorem d_Bp_leastOfTold_11 : decode b_Bp_leastOfTold 11 = .ok (.iconst 3, 1) := by decide +kernel
theorem d_Bp_leastOfTold_12 : decode b_Bp_leastOfTold 12 = .ok (.ireturn, 1) := by decide +kernel
theorem d_Tale_tellBy_0 : decode b_Tale_tellBy 0 = .ok (.iload_n 1, 1) := by decide +kernel
theorem d_Tale_tellBy_1 : decode b_Tale_tellBy 1 = .ok (.invokestatic 87, 3) := by decide +kernel
theorem d_Tale_tellBy_4 : decode b_Tale_tellBy 4 = .ok (.istore 4, 2) := by decide +kernel
theorem d_Tale_tellBy_6 : decode b_Tale_tellBy 6 = .ok (.iload_n 3, 1) := by decide +kernel
theorem d_Tale_tellBy_7 : decode b_Tale_tellBy 7 = .ok (.istore 5, 2) := by decide +kernel
theorem d_Tale_tellBy_9 : decode b_Tale_tellBy 9 = .ok (.iload 5, 2) := by decide +kernel
theorem d_Tale_tellBy_11 : decode b_Tale_tellBy 11 = .ok (.iload 4, 2) := by decide +kernel
theorem d_Tale_tellBy_13 : decode b_Tale_tellBy 13 = .ok (.if_icmp .lt 31, 3) := by decide +kernel
theorem d_Tale_tellBy_16 : decode b_Tale_tellBy 16 = .ok (.aload_n 0, 1) := by decide +kernel
theorem d_Tale_tellBy_17 : decode b_Tale_tellBy 17 = .ok (.iload_n 1, 1) := by decide +kernel
theorem d_Tale_tellBy_18 : decode b_Tale_tellBy 18 = .ok (.iload 5, 2) := by decide +kernel
theorem d_Tale_tellBy_20 : decode b_Tale_tellBy 20 = .ok (.iload_n 2, 1) := by decide +kernel
theorem d_Tale_tellBy_21 : decode b_Tale_tellBy 21 = .ok (.invokestatic 91, 3) := by decide +kernel
theorem d_Tale_tellBy_24 : decode b_Tale_tellBy 24 = .ok (.iload 4, 2) := by decide +kernel
theorem d_Tale_tellBy_26 : decode b_Tale_tellBy 26 = .ok (.isub, 1) := by decide +kernel
theorem d_Tale_tellBy_27 : decode b_Tale_tellBy 27 = .ok (.invokevirtual 84, 3) := by decide +kernel
theorem d_Tale_tellBy_30 : decode b_Tale_tellBy 30 = .ok (.iload 5, 2) := by decide +kernel
theorem d_Tale_tellBy_32 : decode b_Tale_tellBy 32 = .ok (.iload 5, 2) := by decide +kernel
theorem d_Tale_tellBy_34 : decode b_Tale_tellBy 34 = .ok (.iload_n 2, 1) := by decide +kernel
theorem d_Tale_tellBy_35 : decode b_Tale_tellBy 35 = .ok (.invokestatic 91, 3) := by decide +kernel
theorem d_Tale_tellBy_38 : decode b_Tale_tellBy 38 = .ok (.isub, 1) := by decide +kernel
theorem d_Tale_tellBy_39 : decode b_Tale_tellBy 39 = .ok (.istore 5, 2) := by decide +kernel
theorem d_Tale_tellBy_41 : decode b_Tale_tellBy 41 = .ok (.goto (-32), 3) := by decide +kernel
theorem d_Tale_tellBy_44 : decode b_Tale_tellBy 44 = .ok (.iload 5, 2) := by decide +kernel
theorem d_Tale_tellBy_46 : decode b_Tale_tellBy 46 = .ok (.ireturn, 1) := by decide +kernel
theorem d_Tale_tellStretch_0 : decode b_Tale_tellStretch 0 = .ok (.iload_n 2, 1) := by decide +kernel
theorem d_Tale_tellStretch_1 : decode b_Tale_tellStretch 1 = .ok (.istore_n 3, 1) := by decide +kernel
theorem d_Tale_tellStretch_2 : decode b_Tale_tellStretch 2 = .ok (.iload_n 1, 1) := by decide +kernel
theorem d_Tale_tellStretch_3 : decode b_Tale_tellStretch 3 = .ok (.ifCond .ne 27, 3) := by decide +kernel
theorem d_Tale_tellStretch_6 : decode b_Tale_tellStretch 6 = .ok (.aload_n 0, 1) := by decide +kernel
theorem d_Tale_tellStretch_7 : decode b_Tale_tellStretch 7 = .ok (.bipush 18, 2) := by decide +kernel
theorem d_Tale_tellStretch_9 : decode b_Tale_tellStretch 9 = .ok (.sipush 138, 3) := by decide +kernel
theorem d_Tale_tellStretch_12 : decode b_Tale_tellStretch 12 = .ok (.iload_n 3, 1) := by decide +kernel
theorem d_Tale_tellStretch_13 : decode b_Tale_tellStretch 13 = .ok (.invokevirtual 80, 3) := by decide +kernel
theorem d_Tale_tellStretch_16 : decode b_Tale_tellStretch 16 = .ok (.istore_n 3, 1) := by decide +kernel
theorem d_Tale_tellStretch_17 : decode b_Tale_tellStretch 17 = .ok (.aload_n 0, 1) := by decide +kernel
theorem d_Tale_tellStretch_18 : decode b_Tale_tellStretch 18 = .ok (.bipush 17, 2) := by decide +kernel
theorem d_Tale_tellStretch_20 : decode b_Tale_tellStretch 20 = .ok (.bipush 10, 2) := by decide +kernel
theorem d_Tale_tellStretch_22 : decode b_Tale_tellStretch 22 = .ok (.iload_n 3, 1) := by decide +kernel
theorem d_Tale_tellStretch_23 : decode b_Tale_tellStretch 23 = .ok (.invokevirtual 80, 3) := by decide +kernel
theorem d_Tale_tellStretch_26 : decode b_Tale_tellStretch 26 = .ok (.istore_n 3, 1) := by decide +kernel
theorem d_Tale_tellStretch_27 : decode b_Tale_tellStretch 27 = .ok (.goto 21, 3) := by decide +kernel
theorem d_Tale_tellStretch_30 : decode b_Tale_tellStretch 30 = .ok (.aload_n 0, 1) := by decide +kernel
theorem d_Tale_tellStretch_31 : decode b_Tale_tellStretch 31 = .ok (.iload_n 1, 1) := by decide +kernel
theorem d_Tale_tellStretch_32 : decode b_Tale_tellStretch 32 = .ok (.iconst 0, 1) := by decide +kernel
theorem d_Tale_tellStretch_33 : decode b_Tale_tellStretch 33 = .ok (.invokevirtual 84, 3) := by decide +kernel
theorem d_Tale_tellStretch_36 : decode b_Tale_tellStretch 36 = .ok (.aload_n 0, 1) := by decide +kernel
theorem d_Tale_tellStretch_37 : decode b_Tale_tellStretch 37 = .ok (.bipush 16, 2) := by decide +kernel
theorem d_Tale_tellStretch_39 : decode b_Tale_tellStretch 39 = .ok (.bipush 6, 2) := by decide +kernel
theorem d_Tale_tellStretch_41 : decode b_Tale_tellStretch 41 = .ok (.iload_n 3, 1) := by decide +kernel
theorem d_Tale_tellStretch_42 : decode b_Tale_tellStretch 42 = .ok (.iconst 1, 1) := by decide +kernel
theorem d_Tale_tellStretch_43 : decode b_Tale_tellStretch 43 = .ok (.isub, 1) := by decide +kernel
theorem d_Tale_tellStretch_44 : decode b_Tale_tellStretch 44 = .ok (.invokevirtual 80, 3) := by decide +kernel
theorem d_Tale_tellStretch_47 : decode b_Tale_tellStretch 47 = .ok (.istore_n 3, 1) := by decide +kernel
theorem d_Tale_tellStretch_48 : decode b_Tale_tellStretch 48 = .ok (.iconst 0, 1) := by decide +kernel
theorem d_Tale_tellStretch_49 : decode b_Tale_tellStretch 49 = .ok (.istore 4, 2) := by decide +kernel
theorem d_Tale_tellStretch_51 : decode b_Tale_tellStretch 51 = .ok (.iload 4, 2) := by decide +kernel
theorem d_Tale_tellStretch_53 : decode b_Tale_tellStretch 53 = .ok (.iload_n 3, 1) := by decide +kernel
theorem d_Tale_tellStretch_54 : decode b_Tale_tellStretch 54 = .ok (.if_icmp .ge 15, 3) := by decide +kernel
theorem d_Tale_tellStretch_57 : decode b_Tale_tellStretch 57 = .ok (.aload_n 0, 1) := by decide +kernel
theorem d_Tale_tellStretch_58 : decode b_Tale_tellStretch 58 = .ok (.iload_n 1, 1) := by decide +kernel
theorem d_Tale_tellStretch_59 : decode b_Tale_tellStretch 59 = .ok (.iconst 0, 1) := by decide +kernel
theorem d_Tale_tellStretch_60 : decode b_Tale_tellStretch 60 = .ok (.invokevirtual 84, 3) := by decide +kernel
theorem d_Tale_tellStretch_63 : decode b_Tale_tellStretch 63 = .ok (.iinc 4 1, 3) := by decide +kernel
theorem d_Tale_tellStretch_66 : decode b_Tale_tellStretch 66 = .ok (.goto (-15), 3) := by decide +kernel
theorem d_Tale_tellStretch_69 : decode b_Tale_tellStretch 69 = .ok (.return_, 1) := by decide +kernel
theorem d_Tale_tellRow_0 : decode b_Tale_tellRow 0 = .ok (.aload_n 0, 1) := by decide +kernel
theorem d_Tale_tellRow_1 : decode b_Tale_tellRow 1 = .ok (.iconst 0, 1) := by decide +kernel
theorem d_Tale_tellRow_2 : decode b_Tale_tellRow 2 = .ok (.putfield 31, 3) := by decide +kernel
theorem d_Tale_tellRow_5 : decode b_Tale_tellRow 5 = .ok (.aload_n 0, 1) := by decide +kernel
theorem d_Tale_tellRow_6 : decode b_Tale_tellRow 6 = .ok (.getfield 21, 3) := by decide +kernel
theorem d_Tale_tellRow_9 : decode b_Tale_tellRow 9 = .ok (.iconst 0, 1) := by decide +kernel
theorem d_Tale_tellRow_10 : decode b_Tale_tellRow 10 = .ok (.invokestatic 70, 3) := by decide +kernel
theorem d_Tale_tellRow_13 : decode b_Tale_tellRow 13 = .ok (.iconst 0, 1) := by decide +kernel
theorem d_Tale_tellRow_14 : decode b_Tale_tellRow 14 = .ok (.istore_n 2, 1) := by decide +kernel
theorem d_Tale_tellRow_15 : decode b_Tale_tellRow 15 = .ok (.iconst 1, 1) := by decide +kernel
theorem d_Tale_tellRow_16 : decode b_Tale_tellRow 16 = .ok (.istore_n 3, 1) := by decide +kernel
theorem d_Tale_tellRow_17 : decode b_Tale_tellRow 17 = .ok (.iload_n 3, 1) := by decide +kernel
theorem d_Tale_tellRow_18 : decode b_Tale_tellRow 18 = .ok (.iload_n 1, 1) := by decide +kernel
theorem d_Tale_tellRow_19 : decode b_Tale_tellRow 19 = .ok (.if_icmp .gt 44, 3) := by decide +kernel
theorem d_Tale_tellRow_22 : decode b_Tale_tellRow 22 = .ok (.iload_n 3, 1) := by decide +kernel
theorem d_Tale_tellRow_23 : decode b_Tale_tellRow 23 = .ok (.iload_n 1, 1) := by decide +kernel
