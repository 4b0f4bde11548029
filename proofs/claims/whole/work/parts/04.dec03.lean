theorem d_Tale_tellRow_24 : decode b_Tale_tellRow 24 = .ok (.if_icmp .eq 18, 3) := by decide +kernel
theorem d_Tale_tellRow_27 : decode b_Tale_tellRow 27 = .ok (.aload_n 0, 1) := by decide +kernel
theorem d_Tale_tellRow_28 : decode b_Tale_tellRow 28 = .ok (.getfield 9, 3) := by decide +kernel
theorem d_Tale_tellRow_31 : decode b_Tale_tellRow 31 = .ok (.iload_n 3, 1) := by decide +kernel
theorem d_Tale_tellRow_32 : decode b_Tale_tellRow 32 = .ok (.iaload, 1) := by decide +kernel
theorem d_Tale_tellRow_33 : decode b_Tale_tellRow 33 = .ok (.aload_n 0, 1) := by decide +kernel
theorem d_Tale_tellRow_34 : decode b_Tale_tellRow 34 = .ok (.getfield 9, 3) := by decide +kernel
theorem d_Tale_tellRow_37 : decode b_Tale_tellRow 37 = .ok (.iload_n 2, 1) := by decide +kernel
theorem d_Tale_tellRow_38 : decode b_Tale_tellRow 38 = .ok (.iaload, 1) := by decide +kernel
theorem d_Tale_tellRow_39 : decode b_Tale_tellRow 39 = .ok (.if_icmp .eq 18, 3) := by decide +kernel
theorem d_Tale_tellRow_42 : decode b_Tale_tellRow 42 = .ok (.aload_n 0, 1) := by decide +kernel
theorem d_Tale_tellRow_43 : decode b_Tale_tellRow 43 = .ok (.aload_n 0, 1) := by decide +kernel
theorem d_Tale_tellRow_44 : decode b_Tale_tellRow 44 = .ok (.getfield 9, 3) := by decide +kernel
theorem d_Tale_tellRow_47 : decode b_Tale_tellRow 47 = .ok (.iload_n 2, 1) := by decide +kernel
theorem d_Tale_tellRow_48 : decode b_Tale_tellRow 48 = .ok (.iaload, 1) := by decide +kernel
theorem d_Tale_tellRow_49 : decode b_Tale_tellRow 49 = .ok (.iload_n 3, 1) := by decide +kernel
theorem d_Tale_tellRow_50 : decode b_Tale_tellRow 50 = .ok (.iload_n 2, 1) := by decide +kernel
theorem d_Tale_tellRow_51 : decode b_Tale_tellRow 51 = .ok (.isub, 1) := by decide +kernel
theorem d_Tale_tellRow_52 : decode b_Tale_tellRow 52 = .ok (.invokevirtual 76, 3) := by decide +kernel
theorem d_Tale_tellRow_55 : decode b_Tale_tellRow 55 = .ok (.iload_n 3, 1) := by decide +kernel
theorem d_Tale_tellRow_56 : decode b_Tale_tellRow 56 = .ok (.istore_n 2, 1) := by decide +kernel
theorem d_Tale_tellRow_57 : decode b_Tale_tellRow 57 = .ok (.iinc 3 1, 3) := by decide +kernel
theorem d_Tale_tellRow_60 : decode b_Tale_tellRow 60 = .ok (.goto (-43), 3) := by decide +kernel
theorem d_Tale_tellRow_63 : decode b_Tale_tellRow 63 = .ok (.return_, 1) := by decide +kernel
theorem d_Tale_make_0 : decode b_Tale_make 0 = .ok (.aload_n 0, 1) := by decide +kernel
theorem d_Tale_make_1 : decode b_Tale_make 1 = .ok (.aload_n 0, 1) := by decide +kernel
theorem d_Tale_make_2 : decode b_Tale_make 2 = .ok (.aload_n 1, 1) := by decide +kernel
theorem d_Tale_make_3 : decode b_Tale_make 3 = .ok (.getfield 44, 3) := by decide +kernel
theorem d_Tale_make_6 : decode b_Tale_make 6 = .ok (.sipush 286, 3) := by decide +kernel
theorem d_Tale_make_9 : decode b_Tale_make 9 = .ok (.sipush 257, 3) := by decide +kernel
theorem d_Tale_make_12 : decode b_Tale_make 12 = .ok (.invokevirtual 47, 3) := by decide +kernel
theorem d_Tale_make_15 : decode b_Tale_make 15 = .ok (.putfield 35, 3) := by decide +kernel
theorem d_Tale_make_18 : decode b_Tale_make 18 = .ok (.aload_n 0, 1) := by decide +kernel
theorem d_Tale_make_19 : decode b_Tale_make 19 = .ok (.aload_n 0, 1) := by decide +kernel
theorem d_Tale_make_20 : decode b_Tale_make 20 = .ok (.aload_n 2, 1) := by decide +kernel
theorem d_Tale_make_21 : decode b_Tale_make 21 = .ok (.getfield 44, 3) := by decide +kernel
theorem d_Tale_make_24 : decode b_Tale_make 24 = .ok (.bipush 30, 2) := by decide +kernel
theorem d_Tale_make_26 : decode b_Tale_make 26 = .ok (.iconst 1, 1) := by decide +kernel
theorem d_Tale_make_27 : decode b_Tale_make 27 = .ok (.invokevirtual 47, 3) := by decide +kernel
theorem d_Tale_make_30 : decode b_Tale_make 30 = .ok (.putfield 38, 3) := by decide +kernel
theorem d_Tale_make_33 : decode b_Tale_make 33 = .ok (.aload_n 1, 1) := by decide +kernel
theorem d_Tale_make_34 : decode b_Tale_make 34 = .ok (.getfield 44, 3) := by decide +kernel
theorem d_Tale_make_37 : decode b_Tale_make 37 = .ok (.iconst 0, 1) := by decide +kernel
theorem d_Tale_make_38 : decode b_Tale_make 38 = .ok (.aload_n 0, 1) := by decide +kernel
theorem d_Tale_make_39 : decode b_Tale_make 39 = .ok (.getfield 9, 3) := by decide +kernel
theorem d_Tale_make_42 : decode b_Tale_make 42 = .ok (.iconst 0, 1) := by decide +kernel
theorem d_Tale_make_43 : decode b_Tale_make 43 = .ok (.aload_n 0, 1) := by decide +kernel
theorem d_Tale_make_44 : decode b_Tale_make 44 = .ok (.getfield 35, 3) := by decide +kernel
theorem d_Tale_make_47 : decode b_Tale_make 47 = .ok (.invokestatic 51, 3) := by decide +kernel
theorem d_Tale_make_50 : decode b_Tale_make 50 = .ok (.aload_n 2, 1) := by decide +kernel
theorem d_Tale_make_51 : decode b_Tale_make 51 = .ok (.getfield 44, 3) := by decide +kernel
theorem d_Tale_make_54 : decode b_Tale_make 54 = .ok (.iconst 0, 1) := by decide +kernel
theorem d_Tale_make_55 : decode b_Tale_make 55 = .ok (.aload_n 0, 1) := by decide +kernel
theorem d_Tale_make_56 : decode b_Tale_make 56 = .ok (.getfield 9, 3) := by decide +kernel
theorem d_Tale_make_59 : decode b_Tale_make 59 = .ok (.aload_n 0, 1) := by decide +kernel
theorem d_Tale_make_60 : decode b_Tale_make 60 = .ok (.getfield 35, 3) := by decide +kernel
theorem d_Tale_make_63 : decode b_Tale_make 63 = .ok (.aload_n 0, 1) := by decide +kernel
theorem d_Tale_make_64 : decode b_Tale_make 64 = .ok (.getfield 38, 3) := by decide +kernel
theorem d_Tale_make_67 : decode b_Tale_make 67 = .ok (.invokestatic 51, 3) := by decide +kernel
theorem d_Tale_make_70 : decode b_Tale_make 70 = .ok (.aload_n 0, 1) := by decide +kernel
theorem d_Tale_make_71 : decode b_Tale_make 71 = .ok (.aload_n 0, 1) := by decide +kernel
theorem d_Tale_make_72 : decode b_Tale_make 72 = .ok (.getfield 35, 3) := by decide +kernel
theorem d_Tale_make_75 : decode b_Tale_make 75 = .ok (.aload_n 0, 1) := by decide +kernel
theorem d_Tale_make_76 : decode b_Tale_make 76 = .ok (.getfield 38, 3) := by decide +kernel
theorem d_Tale_make_79 : decode b_Tale_make 79 = .ok (.iadd, 1) := by decide +kernel
theorem d_Tale_make_80 : decode b_Tale_make 80 = .ok (.invokevirtual 57, 3) := by decide +kernel
theorem d_Tale_make_83 : decode b_Tale_make 83 = .ok (.aload_n 3, 1) := by decide +kernel
theorem d_Tale_make_84 : decode b_Tale_make 84 = .ok (.aload_n 0, 1) := by decide +kernel
theorem d_Tale_make_85 : decode b_Tale_make 85 = .ok (.getfield 21, 3) := by decide +kernel
theorem d_Tale_make_88 : decode b_Tale_make 88 = .ok (.bipush 19, 2) := by decide +kernel
theorem d_Tale_make_90 : decode b_Tale_make 90 = .ok (.bipush 7, 2) := by decide +kernel
theorem d_Tale_make_92 : decode b_Tale_make 92 = .ok (.aload_n 0, 1) := by decide +kernel
theorem d_Tale_make_93 : decode b_Tale_make 93 = .ok (.getfield 27, 3) := by decide +kernel
theorem d_Tale_make_96 : decode b_Tale_make 96 = .ok (.getfield 44, 3) := by decide +kernel
theorem d_Tale_make_99 : decode b_Tale_make 99 = .ok (.invokevirtual 61, 3) := by decide +kernel
theorem d_Tale_make_102 : decode b_Tale_make 102 = .ok (.aload_n 0, 1) := by decide +kernel
theorem d_Tale_make_103 : decode b_Tale_make 103 = .ok (.iconst 4, 1) := by decide +kernel
theorem d_Tale_make_104 : decode b_Tale_make 104 = .ok (.putfield 41, 3) := by decide +kernel
theorem d_Tale_make_107 : decode b_Tale_make 107 = .ok (.iconst 4, 1) := by decide +kernel
theorem d_Tale_make_108 : decode b_Tale_make 108 = .ok (.istore 4, 2) := by decide +kernel
theorem d_Tale_make_110 : decode b_Tale_make 110 = .ok (.iload 4, 2) := by decide +kernel
theorem d_Tale_make_112 : decode b_Tale_make 112 = .ok (.bipush 19, 2) := by decide +kernel
theorem d_Tale_make_114 : decode b_Tale_make 114 = .ok (.if_icmp .ge 34, 3) := by decide +kernel
theorem d_Tale_make_117 : decode b_Tale_make 117 = .ok (.aload_n 0, 1) := by decide +kernel
theorem d_Tale_make_118 : decode b_Tale_make 118 = .ok (.getfield 27, 3) := by decide +kernel
theorem d_Tale_make_121 : decode b_Tale_make 121 = .ok (.getfield 44, 3) := by decide +kernel
theorem d_Tale_make_124 : decode b_Tale_make 124 = .ok (.getstatic 67, 3) := by decide +kernel
theorem d_Tale_make_127 : decode b_Tale_make 127 = .ok (.iload 4, 2) := by decide +kernel
theorem d_Tale_make_129 : decode b_Tale_make 129 = .ok (.iaload, 1) := by decide +kernel
theorem d_Tale_make_130 : decode b_Tale_make 130 = .ok (.iaload, 1) := by decide +kernel
theorem d_Tale_make_131 : decode b_Tale_make 131 = .ok (.ifCond .le 11, 3) := by decide +kernel
theorem d_Tale_make_134 : decode b_Tale_make 134 = .ok (.aload_n 0, 1) := by decide +kernel
theorem d_Tale_make_135 : decode b_Tale_make 135 = .ok (.iload 4, 2) := by decide +kernel
theorem d_Tale_make_137 : decode b_Tale_make 137 = .ok (.iconst 1, 1) := by decide +kernel
theorem d_Tale_make_138 : decode b_Tale_make 138 = .ok (.iadd, 1) := by decide +kernel
theorem d_Tale_make_139 : decode b_Tale_make 139 = .ok (.putfield 41, 3) := by decide +kernel
theorem d_Tale_make_142 : decode b_Tale_make 142 = .ok (.iinc 4 1, 3) := by decide +kernel
theorem d_Tale_make_145 : decode b_Tale_make 145 = .ok (.goto (-35), 3) := by decide +kernel
theorem d_Tale_make_148 : decode b_Tale_make 148 = .ok (.return_, 1) := by decide +kernel
theorem d_Bp_extraOfSymbol_0 : decode b_Bp_extraOfSymbol 0 = .ok (.iload_n 0, 1) := by decide +kernel
theorem d_Bp_extraOfSymbol_1 : decode b_Bp_extraOfSymbol 1 = .ok (.sipush 265, 3) := by decide +kernel
theorem d_Bp_extraOfSymbol_4 : decode b_Bp_extraOfSymbol 4 = .ok (.if_icmp .lt 10, 3) := by decide +kernel
theorem d_Bp_extraOfSymbol_7 : decode b_Bp_extraOfSymbol 7 = .ok (.iload_n 0, 1) := by decide +kernel
theorem d_Bp_extraOfSymbol_8 : decode b_Bp_extraOfSymbol 8 = .ok (.sipush 285, 3) := by decide +kernel
theorem d_Bp_extraOfSymbol_11 : decode b_Bp_extraOfSymbol 11 = .ok (.if_icmp .lt 7, 3) := by decide +kernel
theorem d_Bp_extraOfSymbol_14 : decode b_Bp_extraOfSymbol 14 = .ok (.iconst 0, 1) := by decide +kernel
theorem d_Bp_extraOfSymbol_15 : decode b_Bp_extraOfSymbol 15 = .ok (.goto 10, 3) := by decide +kernel
theorem d_Bp_extraOfSymbol_18 : decode b_Bp_extraOfSymbol 18 = .ok (.iload_n 0, 1) := by decide +kernel
theorem d_Bp_extraOfSymbol_19 : decode b_Bp_extraOfSymbol 19 = .ok (.sipush 261, 3) := by decide +kernel
theorem d_Bp_extraOfSymbol_22 : decode b_Bp_extraOfSymbol 22 = .ok (.isub, 1) := by decide +kernel
theorem d_Bp_extraOfSymbol_23 : decode b_Bp_extraOfSymbol 23 = .ok (.iconst 4, 1) := by decide +kernel
theorem d_Bp_extraOfSymbol_24 : decode b_Bp_extraOfSymbol 24 = .ok (.idiv, 1) := by decide +kernel
theorem d_Bp_extraOfSymbol_25 : decode b_Bp_extraOfSymbol 25 = .ok (.ireturn, 1) := by decide +kernel
theorem d_Bp_extraOfDistance_0 : decode b_Bp_extraOfDistance 0 = .ok (.iload_n 0, 1) := by decide +kernel
theorem d_Bp_extraOfDistance_1 : decode b_Bp_extraOfDistance 1 = .ok (.iconst 4, 1) := by decide +kernel
theorem d_Bp_extraOfDistance_2 : decode b_Bp_extraOfDistance 2 = .ok (.if_icmp .ge 7, 3) := by decide +kernel
theorem d_Bp_extraOfDistance_5 : decode b_Bp_extraOfDistance 5 = .ok (.iconst 0, 1) := by decide +kernel
theorem d_Bp_extraOfDistance_6 : decode b_Bp_extraOfDistance 6 = .ok (.goto 8, 3) := by decide +kernel
theorem d_Bp_extraOfDistance_9 : decode b_Bp_extraOfDistance 9 = .ok (.iload_n 0, 1) := by decide +kernel
theorem d_Bp_extraOfDistance_10 : decode b_Bp_extraOfDistance 10 = .ok (.iconst 2, 1) := by decide +kernel
theorem d_Bp_extraOfDistance_11 : decode b_Bp_extraOfDistance 11 = .ok (.idiv, 1) := by decide +kernel
theorem d_Bp_extraOfDistance_12 : decode b_Bp_extraOfDistance 12 = .ok (.iconst 1, 1) := by decide +kernel
theorem d_Bp_extraOfDistance_13 : decode b_Bp_extraOfDistance 13 = .ok (.isub, 1) := by decide +kernel
theorem d_Bp_extraOfDistance_14 : decode b_Bp_extraOfDistance 14 = .ok (.ireturn, 1) := by decide +kernel
theorem d_Found_bits_0 : decode b_Found_bits 0 = .ok (.iconst 0, 1) := by decide +kernel
theorem d_Found_bits_1 : decode b_Found_bits 1 = .ok (.istore_n 3, 1) := by decide +kernel
theorem d_Found_bits_2 : decode b_Found_bits 2 = .ok (.iconst 0, 1) := by decide +kernel
theorem d_Found_bits_3 : decode b_Found_bits 3 = .ok (.istore 4, 2) := by decide +kernel
theorem d_Found_bits_5 : decode b_Found_bits 5 = .ok (.iload 4, 2) := by decide +kernel
theorem d_Found_bits_7 : decode b_Found_bits 7 = .ok (.sipush 286, 3) := by decide +kernel
theorem d_Found_bits_10 : decode b_Found_bits 10 = .ok (.if_icmp .ge 33, 3) := by decide +kernel
theorem d_Found_bits_13 : decode b_Found_bits 13 = .ok (.iload_n 3, 1) := by decide +kernel
theorem d_Found_bits_14 : decode b_Found_bits 14 = .ok (.aload_n 0, 1) := by decide +kernel
theorem d_Found_bits_15 : decode b_Found_bits 15 = .ok (.getfield 19, 3) := by decide +kernel
theorem d_Found_bits_18 : decode b_Found_bits 18 = .ok (.iload 4, 2) := by decide +kernel
theorem d_Found_bits_20 : decode b_Found_bits 20 = .ok (.iaload, 1) := by decide +kernel
theorem d_Found_bits_21 : decode b_Found_bits 21 = .ok (.aload_n 1, 1) := by decide +kernel
theorem d_Found_bits_22 : decode b_Found_bits 22 = .ok (.getfield 42, 3) := by decide +kernel
theorem d_Found_bits_25 : decode b_Found_bits 25 = .ok (.iload 4, 2) := by decide +kernel
theorem d_Found_bits_27 : decode b_Found_bits 27 = .ok (.iaload, 1) := by decide +kernel
theorem d_Found_bits_28 : decode b_Found_bits 28 = .ok (.iload 4, 2) := by decide +kernel
theorem d_Found_bits_30 : decode b_Found_bits 30 = .ok (.invokestatic 47, 3) := by decide +kernel
theorem d_Found_bits_33 : decode b_Found_bits 33 = .ok (.iadd, 1) := by decide +kernel
theorem d_Found_bits_34 : decode b_Found_bits 34 = .ok (.imul, 1) := by decide +kernel
theorem d_Found_bits_35 : decode b_Found_bits 35 = .ok (.iadd, 1) := by decide +kernel
theorem d_Found_bits_36 : decode b_Found_bits 36 = .ok (.istore_n 3, 1) := by decide +kernel
theorem d_Found_bits_37 : decode b_Found_bits 37 = .ok (.iinc 4 1, 3) := by decide +kernel
theorem d_Found_bits_40 : decode b_Found_bits 40 = .ok (.goto (-35), 3) := by decide +kernel
theorem d_Found_bits_43 : decode b_Found_bits 43 = .ok (.iconst 0, 1) := by decide +kernel
theorem d_Found_bits_44 : decode b_Found_bits 44 = .ok (.istore 4, 2) := by decide +kernel
theorem d_Found_bits_46 : decode b_Found_bits 46 = .ok (.iload 4, 2) := by decide +kernel
theorem d_Found_bits_48 : decode b_Found_bits 48 = .ok (.bipush 30, 2) := by decide +kernel
theorem d_Found_bits_50 : decode b_Found_bits 50 = .ok (.if_icmp .ge 33, 3) := by decide +kernel
theorem d_Found_bits_53 : decode b_Found_bits 53 = .ok (.iload_n 3, 1) := by decide +kernel
theorem d_Found_bits_54 : decode b_Found_bits 54 = .ok (.aload_n 0, 1) := by decide +kernel
theorem d_Found_bits_55 : decode b_Found_bits 55 = .ok (.getfield 22, 3) := by decide +kernel
theorem d_Found_bits_58 : decode b_Found_bits 58 = .ok (.iload 4, 2) := by decide +kernel
theorem d_Found_bits_60 : decode b_Found_bits 60 = .ok (.iaload, 1) := by decide +kernel
theorem d_Found_bits_61 : decode b_Found_bits 61 = .ok (.aload_n 2, 1) := by decide +kernel
theorem d_Found_bits_62 : decode b_Found_bits 62 = .ok (.getfield 42, 3) := by decide +kernel
theorem d_Found_bits_65 : decode b_Found_bits 65 = .ok (.iload 4, 2) := by decide +kernel
theorem d_Found_bits_67 : decode b_Found_bits 67 = .ok (.iaload, 1) := by decide +kernel
theorem d_Found_bits_68 : decode b_Found_bits 68 = .ok (.iload 4, 2) := by decide +kernel
theorem d_Found_bits_70 : decode b_Found_bits 70 = .ok (.invokestatic 50, 3) := by decide +kernel
theorem d_Found_bits_73 : decode b_Found_bits 73 = .ok (.iadd, 1) := by decide +kernel
theorem d_Found_bits_74 : decode b_Found_bits 74 = .ok (.imul, 1) := by decide +kernel
theorem d_Found_bits_75 : decode b_Found_bits 75 = .ok (.iadd, 1) := by decide +kernel
theorem d_Found_bits_76 : decode b_Found_bits 76 = .ok (.istore_n 3, 1) := by decide +kernel
theorem d_Found_bits_77 : decode b_Found_bits 77 = .ok (.iinc 4 1, 3) := by decide +kernel
theorem d_Found_bits_80 : decode b_Found_bits 80 = .ok (.goto (-34), 3) := by decide +kernel
theorem d_Found_bits_83 : decode b_Found_bits 83 = .ok (.iload_n 3, 1) := by decide +kernel
theorem d_Found_bits_84 : decode b_Found_bits 84 = .ok (.ireturn, 1) := by decide +kernel
theorem d_Bp_extraOfTold_0 : decode b_Bp_extraOfTold 0 = .ok (.iload_n 0, 1) := by decide +kernel
theorem d_Bp_extraOfTold_1 : decode b_Bp_extraOfTold 1 = .ok (.tableswitch 34 16 18 #[27, 29, 31], 27) := by decide +kernel
theorem d_Bp_extraOfTold_28 : decode b_Bp_extraOfTold 28 = .ok (.iconst 2, 1) := by decide +kernel
theorem d_Bp_extraOfTold_29 : decode b_Bp_extraOfTold 29 = .ok (.ireturn, 1) := by decide +kernel
theorem d_Bp_extraOfTold_30 : decode b_Bp_extraOfTold 30 = .ok (.iconst 3, 1) := by decide +kernel
theorem d_Bp_extraOfTold_31 : decode b_Bp_extraOfTold 31 = .ok (.ireturn, 1) := by decide +kernel
theorem d_Bp_extraOfTold_32 : decode b_Bp_extraOfTold 32 = .ok (.bipush 7, 2) := by decide +kernel
theorem d_Bp_extraOfTold_34 : decode b_Bp_extraOfTold 34 = .ok (.ireturn, 1) := by decide +kernel
theorem d_Bp_extraOfTold_35 : decode b_Bp_extraOfTold 35 = .ok (.iconst 0, 1) := by decide +kernel
theorem d_Bp_extraOfTold_36 : decode b_Bp_extraOfTold 36 = .ok (.ireturn, 1) := by decide +kernel
theorem d_Tale_bits_0 : decode b_Tale_bits 0 = .ok (.bipush 14, 2) := by decide +kernel
theorem d_Tale_bits_2 : decode b_Tale_bits 2 = .ok (.iconst 3, 1) := by decide +kernel
theorem d_Tale_bits_3 : decode b_Tale_bits 3 = .ok (.aload_n 0, 1) := by decide +kernel
theorem d_Tale_bits_4 : decode b_Tale_bits 4 = .ok (.getfield 41, 3) := by decide +kernel
theorem d_Tale_bits_7 : decode b_Tale_bits 7 = .ok (.imul, 1) := by decide +kernel
theorem d_Tale_bits_8 : decode b_Tale_bits 8 = .ok (.iadd, 1) := by decide +kernel
theorem d_Tale_bits_9 : decode b_Tale_bits 9 = .ok (.istore_n 1, 1) := by decide +kernel
theorem d_Tale_bits_10 : decode b_Tale_bits 10 = .ok (.iconst 0, 1) := by decide +kernel
theorem d_Tale_bits_11 : decode b_Tale_bits 11 = .ok (.istore_n 2, 1) := by decide +kernel
theorem d_Tale_bits_12 : decode b_Tale_bits 12 = .ok (.iload_n 2, 1) := by decide +kernel
theorem d_Tale_bits_13 : decode b_Tale_bits 13 = .ok (.bipush 19, 2) := by decide +kernel
theorem d_Tale_bits_15 : decode b_Tale_bits 15 = .ok (.if_icmp .ge 33, 3) := by decide +kernel
theorem d_Tale_bits_18 : decode b_Tale_bits 18 = .ok (.iload_n 1, 1) := by decide +kernel
theorem d_Tale_bits_19 : decode b_Tale_bits 19 = .ok (.aload_n 0, 1) := by decide +kernel
theorem d_Tale_bits_20 : decode b_Tale_bits 20 = .ok (.getfield 21, 3) := by decide +kernel
theorem d_Tale_bits_23 : decode b_Tale_bits 23 = .ok (.iload_n 2, 1) := by decide +kernel
theorem d_Tale_bits_24 : decode b_Tale_bits 24 = .ok (.iaload, 1) := by decide +kernel
theorem d_Tale_bits_25 : decode b_Tale_bits 25 = .ok (.aload_n 0, 1) := by decide +kernel
theorem d_Tale_bits_26 : decode b_Tale_bits 26 = .ok (.getfield 27, 3) := by decide +kernel
theorem d_Tale_bits_29 : decode b_Tale_bits 29 = .ok (.getfield 44, 3) := by decide +kernel
theorem d_Tale_bits_32 : decode b_Tale_bits 32 = .ok (.iload_n 2, 1) := by decide +kernel
theorem d_Tale_bits_33 : decode b_Tale_bits 33 = .ok (.iaload, 1) := by decide +kernel
theorem d_Tale_bits_34 : decode b_Tale_bits 34 = .ok (.iload_n 2, 1) := by decide +kernel
theorem d_Tale_bits_35 : decode b_Tale_bits 35 = .ok (.invokestatic 97, 3) := by decide +kernel
theorem d_Tale_bits_38 : decode b_Tale_bits 38 = .ok (.iadd, 1) := by decide +kernel
theorem d_Tale_bits_39 : decode b_Tale_bits 39 = .ok (.imul, 1) := by decide +kernel
theorem d_Tale_bits_40 : decode b_Tale_bits 40 = .ok (.iadd, 1) := by decide +kernel
theorem d_Tale_bits_41 : decode b_Tale_bits 41 = .ok (.istore_n 1, 1) := by decide +kernel
theorem d_Tale_bits_42 : decode b_Tale_bits 42 = .ok (.iinc 2 1, 3) := by decide +kernel
theorem d_Tale_bits_45 : decode b_Tale_bits 45 = .ok (.goto (-33), 3) := by decide +kernel
theorem d_Tale_bits_48 : decode b_Tale_bits 48 = .ok (.iload_n 1, 1) := by decide +kernel
theorem d_Tale_bits_49 : decode b_Tale_bits 49 = .ok (.ireturn, 1) := by decide +kernel
theorem d_Packer_writeStored_0 : decode b_Packer_writeStored 0 = .ok (.aload_n 2, 1) := by decide +kernel
theorem d_Packer_writeStored_1 : decode b_Packer_writeStored 1 = .ok (.iconst 0, 1) := by decide +kernel
theorem d_Packer_writeStored_2 : decode b_Packer_writeStored 2 = .ok (.iconst 2, 1) := by decide +kernel
theorem d_Packer_writeStored_3 : decode b_Packer_writeStored 3 = .ok (.invokevirtual 87, 3) := by decide +kernel
theorem d_Packer_writeStored_6 : decode b_Packer_writeStored 6 = .ok (.aload_n 2, 1) := by decide +kernel
theorem d_Packer_writeStored_7 : decode b_Packer_writeStored 7 = .ok (.invokevirtual 125, 3) := by decide +kernel
theorem d_Packer_writeStored_10 : decode b_Packer_writeStored 10 = .ok (.aload_n 2, 1) := by decide +kernel
theorem d_Packer_writeStored_11 : decode b_Packer_writeStored 11 = .ok (.iload 4, 2) := by decide +kernel
theorem d_Packer_writeStored_13 : decode b_Packer_writeStored 13 = .ok (.iload_n 3, 1) := by decide +kernel
theorem d_Packer_writeStored_14 : decode b_Packer_writeStored 14 = .ok (.isub, 1) := by decide +kernel
theorem d_Packer_writeStored_15 : decode b_Packer_writeStored 15 = .ok (.bipush 16, 2) := by decide +kernel
theorem d_Packer_writeStored_17 : decode b_Packer_writeStored 17 = .ok (.invokevirtual 87, 3) := by decide +kernel
theorem d_Packer_writeStored_20 : decode b_Packer_writeStored 20 = .ok (.aload_n 2, 1) := by decide +kernel
theorem d_Packer_writeStored_21 : decode b_Packer_writeStored 21 = .ok (.ldc 176, 2) := by decide +kernel
theorem d_Packer_writeStored_23 : decode b_Packer_writeStored 23 = .ok (.iload 4, 2) := by decide +kernel
theorem d_Packer_writeStored_25 : decode b_Packer_writeStored 25 = .ok (.iload_n 3, 1) := by decide +kernel
theorem d_Packer_writeStored_26 : decode b_Packer_writeStored 26 = .ok (.isub, 1) := by decide +kernel
theorem d_Packer_writeStored_27 : decode b_Packer_writeStored 27 = .ok (.isub, 1) := by decide +kernel
theorem d_Packer_writeStored_28 : decode b_Packer_writeStored 28 = .ok (.bipush 16, 2) := by decide +kernel
theorem d_Packer_writeStored_30 : decode b_Packer_writeStored 30 = .ok (.invokevirtual 87, 3) := by decide +kernel
theorem d_Packer_writeStored_33 : decode b_Packer_writeStored 33 = .ok (.iload_n 3, 1) := by decide +kernel
theorem d_Packer_writeStored_34 : decode b_Packer_writeStored 34 = .ok (.istore 5, 2) := by decide +kernel
theorem d_Packer_writeStored_36 : decode b_Packer_writeStored 36 = .ok (.iload 5, 2) := by decide +kernel
theorem d_Packer_writeStored_38 : decode b_Packer_writeStored 38 = .ok (.iload 4, 2) := by decide +kernel
theorem d_Packer_writeStored_40 : decode b_Packer_writeStored 40 = .ok (.if_icmp .ge 21, 3) := by decide +kernel
theorem d_Packer_writeStored_43 : decode b_Packer_writeStored 43 = .ok (.aload_n 2, 1) := by decide +kernel
theorem d_Packer_writeStored_44 : decode b_Packer_writeStored 44 = .ok (.aload_n 1, 1) := by decide +kernel
theorem d_Packer_writeStored_45 : decode b_Packer_writeStored 45 = .ok (.iload 5, 2) := by decide +kernel
theorem d_Packer_writeStored_47 : decode b_Packer_writeStored 47 = .ok (.invokevirtual 145, 3) := by decide +kernel
theorem d_Packer_writeStored_50 : decode b_Packer_writeStored 50 = .ok (.bipush 8, 2) := by decide +kernel
theorem d_Packer_writeStored_52 : decode b_Packer_writeStored 52 = .ok (.invokevirtual 87, 3) := by decide +kernel
theorem d_Packer_writeStored_55 : decode b_Packer_writeStored 55 = .ok (.iinc 5 1, 3) := by decide +kernel
theorem d_Packer_writeStored_58 : decode b_Packer_writeStored 58 = .ok (.goto (-22), 3) := by decide +kernel
theorem d_Packer_writeStored_61 : decode b_Packer_writeStored 61 = .ok (.return_, 1) := by decide +kernel
theorem d_WriteCodes_write_0 : decode b_WriteCodes_write 0 = .ok (.aload_n 1, 1) := by decide +kernel
theorem d_WriteCodes_write_1 : decode b_WriteCodes_write 1 = .ok (.aload_n 0, 1) := by decide +kernel
theorem d_WriteCodes_write_2 : decode b_WriteCodes_write 2 = .ok (.getfield 15, 3) := by decide +kernel
theorem d_WriteCodes_write_5 : decode b_WriteCodes_write 5 = .ok (.iload_n 2, 1) := by decide +kernel
theorem d_WriteCodes_write_6 : decode b_WriteCodes_write 6 = .ok (.iaload, 1) := by decide +kernel
theorem d_WriteCodes_write_7 : decode b_WriteCodes_write 7 = .ok (.aload_n 0, 1) := by decide +kernel
theorem d_WriteCodes_write_8 : decode b_WriteCodes_write 8 = .ok (.getfield 9, 3) := by decide +kernel
theorem d_WriteCodes_write_11 : decode b_WriteCodes_write 11 = .ok (.iload_n 2, 1) := by decide +kernel
theorem d_WriteCodes_write_12 : decode b_WriteCodes_write 12 = .ok (.iaload, 1) := by decide +kernel
theorem d_WriteCodes_write_13 : decode b_WriteCodes_write 13 = .ok (.invokevirtual 22, 3) := by decide +kernel
theorem d_WriteCodes_write_16 : decode b_WriteCodes_write 16 = .ok (.return_, 1) := by decide +kernel
theorem d_Tale_write_0 : decode b_Tale_write 0 = .ok (.aload_n 1, 1) := by decide +kernel
theorem d_Tale_write_1 : decode b_Tale_write 1 = .ok (.aload_n 0, 1) := by decide +kernel
theorem d_Tale_write_2 : decode b_Tale_write 2 = .ok (.getfield 35, 3) := by decide +kernel
theorem d_Tale_write_5 : decode b_Tale_write 5 = .ok (.sipush 257, 3) := by decide +kernel
theorem d_Tale_write_8 : decode b_Tale_write 8 = .ok (.isub, 1) := by decide +kernel
theorem d_Tale_write_9 : decode b_Tale_write 9 = .ok (.iconst 5, 1) := by decide +kernel
theorem d_Tale_write_10 : decode b_Tale_write 10 = .ok (.invokevirtual 100, 3) := by decide +kernel
theorem d_Tale_write_13 : decode b_Tale_write 13 = .ok (.aload_n 1, 1) := by decide +kernel
theorem d_Tale_write_14 : decode b_Tale_write 14 = .ok (.aload_n 0, 1) := by decide +kernel
theorem d_Tale_write_15 : decode b_Tale_write 15 = .ok (.getfield 38, 3) := by decide +kernel
theorem d_Tale_write_18 : decode b_Tale_write 18 = .ok (.iconst 1, 1) := by decide +kernel
theorem d_Tale_write_19 : decode b_Tale_write 19 = .ok (.isub, 1) := by decide +kernel
theorem d_Tale_write_20 : decode b_Tale_write 20 = .ok (.iconst 5, 1) := by decide +kernel
theorem d_Tale_write_21 : decode b_Tale_write 21 = .ok (.invokevirtual 100, 3) := by decide +kernel
theorem d_Tale_write_24 : decode b_Tale_write 24 = .ok (.aload_n 1, 1) := by decide +kernel
theorem d_Tale_write_25 : decode b_Tale_write 25 = .ok (.aload_n 0, 1) := by decide +kernel
theorem d_Tale_write_26 : decode b_Tale_write 26 = .ok (.getfield 41, 3) := by decide +kernel
theorem d_Tale_write_29 : decode b_Tale_write 29 = .ok (.iconst 4, 1) := by decide +kernel
theorem d_Tale_write_30 : decode b_Tale_write 30 = .ok (.isub, 1) := by decide +kernel
theorem d_Tale_write_31 : decode b_Tale_write 31 = .ok (.iconst 4, 1) := by decide +kernel
theorem d_Tale_write_32 : decode b_Tale_write 32 = .ok (.invokevirtual 100, 3) := by decide +kernel
theorem d_Tale_write_35 : decode b_Tale_write 35 = .ok (.iconst 0, 1) := by decide +kernel
theorem d_Tale_write_36 : decode b_Tale_write 36 = .ok (.istore_n 2, 1) := by decide +kernel
theorem d_Tale_write_37 : decode b_Tale_write 37 = .ok (.iload_n 2, 1) := by decide +kernel
theorem d_Tale_write_38 : decode b_Tale_write 38 = .ok (.aload_n 0, 1) := by decide +kernel
theorem d_Tale_write_39 : decode b_Tale_write 39 = .ok (.getfield 41, 3) := by decide +kernel
theorem d_Tale_write_42 : decode b_Tale_write 42 = .ok (.if_icmp .ge 27, 3) := by decide +kernel
theorem d_Tale_write_45 : decode b_Tale_write 45 = .ok (.aload_n 1, 1) := by decide +kernel
theorem d_Tale_write_46 : decode b_Tale_write 46 = .ok (.aload_n 0, 1) := by decide +kernel
theorem d_Tale_write_47 : decode b_Tale_write 47 = .ok (.getfield 27, 3) := by decide +kernel
theorem d_Tale_write_50 : decode b_Tale_write 50 = .ok (.getfield 44, 3) := by decide +kernel
theorem d_Tale_write_53 : decode b_Tale_write 53 = .ok (.getstatic 67, 3) := by decide +kernel
theorem d_Tale_write_56 : decode b_Tale_write 56 = .ok (.iload_n 2, 1) := by decide +kernel
theorem d_Tale_write_57 : decode b_Tale_write 57 = .ok (.iaload, 1) := by decide +kernel
theorem d_Tale_write_58 : decode b_Tale_write 58 = .ok (.iaload, 1) := by decide +kernel
theorem d_Tale_write_59 : decode b_Tale_write 59 = .ok (.iconst 3, 1) := by decide +kernel
theorem d_Tale_write_60 : decode b_Tale_write 60 = .ok (.invokevirtual 100, 3) := by decide +kernel
theorem d_Tale_write_63 : decode b_Tale_write 63 = .ok (.iinc 2 1, 3) := by decide +kernel
theorem d_Tale_write_66 : decode b_Tale_write 66 = .ok (.goto (-29), 3) := by decide +kernel
theorem d_Tale_write_69 : decode b_Tale_write 69 = .ok (.aload_n 0, 1) := by decide +kernel
theorem d_Tale_write_70 : decode b_Tale_write 70 = .ok (.getfield 27, 3) := by decide +kernel
theorem d_Tale_write_73 : decode b_Tale_write 73 = .ok (.invokevirtual 105, 3) := by decide +kernel
theorem d_Tale_write_76 : decode b_Tale_write 76 = .ok (.iconst 0, 1) := by decide +kernel
theorem d_Tale_write_77 : decode b_Tale_write 77 = .ok (.istore_n 2, 1) := by decide +kernel
theorem d_Tale_write_78 : decode b_Tale_write 78 = .ok (.iload_n 2, 1) := by decide +kernel
theorem d_Tale_write_79 : decode b_Tale_write 79 = .ok (.aload_n 0, 1) := by decide +kernel
theorem d_Tale_write_80 : decode b_Tale_write 80 = .ok (.getfield 31, 3) := by decide +kernel
theorem d_Tale_write_83 : decode b_Tale_write 83 = .ok (.if_icmp .ge 42, 3) := by decide +kernel
theorem d_Tale_write_86 : decode b_Tale_write 86 = .ok (.aload_n 0, 1) := by decide +kernel
theorem d_Tale_write_87 : decode b_Tale_write 87 = .ok (.getfield 27, 3) := by decide +kernel
theorem d_Tale_write_90 : decode b_Tale_write 90 = .ok (.aload_n 1, 1) := by decide +kernel
theorem d_Tale_write_91 : decode b_Tale_write 91 = .ok (.aload_n 0, 1) := by decide +kernel
theorem d_Tale_write_92 : decode b_Tale_write 92 = .ok (.getfield 15, 3) := by decide +kernel
theorem d_Tale_write_95 : decode b_Tale_write 95 = .ok (.iload_n 2, 1) := by decide +kernel
theorem d_Tale_write_96 : decode b_Tale_write 96 = .ok (.iaload, 1) := by decide +kernel
theorem d_Tale_write_97 : decode b_Tale_write 97 = .ok (.invokevirtual 108, 3) := by decide +kernel
theorem d_Tale_write_100 : decode b_Tale_write 100 = .ok (.aload_n 1, 1) := by decide +kernel
theorem d_Tale_write_101 : decode b_Tale_write 101 = .ok (.aload_n 0, 1) := by decide +kernel
theorem d_Tale_write_102 : decode b_Tale_write 102 = .ok (.getfield 18, 3) := by decide +kernel
theorem d_Tale_write_105 : decode b_Tale_write 105 = .ok (.iload_n 2, 1) := by decide +kernel
theorem d_Tale_write_106 : decode b_Tale_write 106 = .ok (.iaload, 1) := by decide +kernel
theorem d_Tale_write_107 : decode b_Tale_write 107 = .ok (.aload_n 0, 1) := by decide +kernel
theorem d_Tale_write_108 : decode b_Tale_write 108 = .ok (.getfield 15, 3) := by decide +kernel
theorem d_Tale_write_111 : decode b_Tale_write 111 = .ok (.iload_n 2, 1) := by decide +kernel
theorem d_Tale_write_112 : decode b_Tale_write 112 = .ok (.iaload, 1) := by decide +kernel
theorem d_Tale_write_113 : decode b_Tale_write 113 = .ok (.invokestatic 97, 3) := by decide +kernel
theorem d_Tale_write_116 : decode b_Tale_write 116 = .ok (.invokevirtual 100, 3) := by decide +kernel
theorem d_Tale_write_119 : decode b_Tale_write 119 = .ok (.iinc 2 1, 3) := by decide +kernel
theorem d_Tale_write_122 : decode b_Tale_write 122 = .ok (.goto (-44), 3) := by decide +kernel
theorem d_Tale_write_125 : decode b_Tale_write 125 = .ok (.return_, 1) := by decide +kernel
theorem d_Bp_baseOfSymbol_0 : decode b_Bp_baseOfSymbol 0 = .ok (.iload_n 0, 1) := by decide +kernel
theorem d_Bp_baseOfSymbol_1 : decode b_Bp_baseOfSymbol 1 = .ok (.sipush 265, 3) := by decide +kernel
theorem d_Bp_baseOfSymbol_4 : decode b_Bp_baseOfSymbol 4 = .ok (.if_icmp .ge 9, 3) := by decide +kernel
theorem d_Bp_baseOfSymbol_7 : decode b_Bp_baseOfSymbol 7 = .ok (.iload_n 0, 1) := by decide +kernel
theorem d_Bp_baseOfSymbol_8 : decode b_Bp_baseOfSymbol 8 = .ok (.sipush 254, 3) := by decide +kernel
theorem d_Bp_baseOfSymbol_11 : decode b_Bp_baseOfSymbol 11 = .ok (.isub, 1) := by decide +kernel
theorem d_Bp_baseOfSymbol_12 : decode b_Bp_baseOfSymbol 12 = .ok (.ireturn, 1) := by decide +kernel
theorem d_Bp_baseOfSymbol_13 : decode b_Bp_baseOfSymbol 13 = .ok (.iload_n 0, 1) := by decide +kernel
theorem d_Bp_baseOfSymbol_14 : decode b_Bp_baseOfSymbol 14 = .ok (.sipush 285, 3) := by decide +kernel
theorem d_Bp_baseOfSymbol_17 : decode b_Bp_baseOfSymbol 17 = .ok (.if_icmp .lt 9, 3) := by decide +kernel
theorem d_Bp_baseOfSymbol_20 : decode b_Bp_baseOfSymbol 20 = .ok (.sipush 258, 3) := by decide +kernel
theorem d_Bp_baseOfSymbol_23 : decode b_Bp_baseOfSymbol 23 = .ok (.goto 19, 3) := by decide +kernel
theorem d_Bp_baseOfSymbol_26 : decode b_Bp_baseOfSymbol 26 = .ok (.iconst 3, 1) := by decide +kernel
theorem d_Bp_baseOfSymbol_27 : decode b_Bp_baseOfSymbol 27 = .ok (.iconst 4, 1) := by decide +kernel
theorem d_Bp_baseOfSymbol_28 : decode b_Bp_baseOfSymbol 28 = .ok (.iload_n 0, 1) := by decide +kernel
theorem d_Bp_baseOfSymbol_29 : decode b_Bp_baseOfSymbol 29 = .ok (.sipush 261, 3) := by decide +kernel
theorem d_Bp_baseOfSymbol_32 : decode b_Bp_baseOfSymbol 32 = .ok (.isub, 1) := by decide +kernel
theorem d_Bp_baseOfSymbol_33 : decode b_Bp_baseOfSymbol 33 = .ok (.iconst 4, 1) := by decide +kernel
theorem d_Bp_baseOfSymbol_34 : decode b_Bp_baseOfSymbol 34 = .ok (.irem, 1) := by decide +kernel
theorem d_Bp_baseOfSymbol_35 : decode b_Bp_baseOfSymbol 35 = .ok (.iadd, 1) := by decide +kernel
theorem d_Bp_baseOfSymbol_36 : decode b_Bp_baseOfSymbol 36 = .ok (.iload_n 0, 1) := by decide +kernel
theorem d_Bp_baseOfSymbol_37 : decode b_Bp_baseOfSymbol 37 = .ok (.invokestatic 112, 3) := by decide +kernel
theorem d_Bp_baseOfSymbol_40 : decode b_Bp_baseOfSymbol 40 = .ok (.ishl, 1) := by decide +kernel
theorem d_Bp_baseOfSymbol_41 : decode b_Bp_baseOfSymbol 41 = .ok (.iadd, 1) := by decide +kernel
theorem d_Bp_baseOfSymbol_42 : decode b_Bp_baseOfSymbol 42 = .ok (.ireturn, 1) := by decide +kernel
theorem d_Bp_baseOfDistance_0 : decode b_Bp_baseOfDistance 0 = .ok (.iload_n 0, 1) := by decide +kernel
theorem d_Bp_baseOfDistance_1 : decode b_Bp_baseOfDistance 1 = .ok (.iconst 4, 1) := by decide +kernel
theorem d_Bp_baseOfDistance_2 : decode b_Bp_baseOfDistance 2 = .ok (.if_icmp .ge 9, 3) := by decide +kernel
theorem d_Bp_baseOfDistance_5 : decode b_Bp_baseOfDistance 5 = .ok (.iload_n 0, 1) := by decide +kernel
theorem d_Bp_baseOfDistance_6 : decode b_Bp_baseOfDistance 6 = .ok (.iconst 1, 1) := by decide +kernel
theorem d_Bp_baseOfDistance_7 : decode b_Bp_baseOfDistance 7 = .ok (.iadd, 1) := by decide +kernel
theorem d_Bp_baseOfDistance_8 : decode b_Bp_baseOfDistance 8 = .ok (.goto 15, 3) := by decide +kernel
theorem d_Bp_baseOfDistance_11 : decode b_Bp_baseOfDistance 11 = .ok (.iconst 1, 1) := by decide +kernel
theorem d_Bp_baseOfDistance_12 : decode b_Bp_baseOfDistance 12 = .ok (.iconst 2, 1) := by decide +kernel
theorem d_Bp_baseOfDistance_13 : decode b_Bp_baseOfDistance 13 = .ok (.iload_n 0, 1) := by decide +kernel
theorem d_Bp_baseOfDistance_14 : decode b_Bp_baseOfDistance 14 = .ok (.iconst 2, 1) := by decide +kernel
theorem d_Bp_baseOfDistance_15 : decode b_Bp_baseOfDistance 15 = .ok (.irem, 1) := by decide +kernel
theorem d_Bp_baseOfDistance_16 : decode b_Bp_baseOfDistance 16 = .ok (.iadd, 1) := by decide +kernel
theorem d_Bp_baseOfDistance_17 : decode b_Bp_baseOfDistance 17 = .ok (.iload_n 0, 1) := by decide +kernel
theorem d_Bp_baseOfDistance_18 : decode b_Bp_baseOfDistance 18 = .ok (.invokestatic 115, 3) := by decide +kernel
theorem d_Bp_baseOfDistance_21 : decode b_Bp_baseOfDistance 21 = .ok (.ishl, 1) := by decide +kernel
theorem d_Bp_baseOfDistance_22 : decode b_Bp_baseOfDistance 22 = .ok (.iadd, 1) := by decide +kernel
theorem d_Bp_baseOfDistance_23 : decode b_Bp_baseOfDistance 23 = .ok (.ireturn, 1) := by decide +kernel
theorem d_Found_writeMatch_0 : decode b_Found_writeMatch 0 = .ok (.iload_n 2, 1) := by decide +kernel
theorem d_Found_writeMatch_1 : decode b_Found_writeMatch 1 = .ok (.bipush 16, 2) := by decide +kernel
theorem d_Found_writeMatch_3 : decode b_Found_writeMatch 3 = .ok (.ishr, 1) := by decide +kernel
theorem d_Found_writeMatch_4 : decode b_Found_writeMatch 4 = .ok (.istore 5, 2) := by decide +kernel
theorem d_Found_writeMatch_6 : decode b_Found_writeMatch 6 = .ok (.iload 5, 2) := by decide +kernel
theorem d_Found_writeMatch_8 : decode b_Found_writeMatch 8 = .ok (.invokestatic 35, 3) := by decide +kernel
theorem d_Found_writeMatch_11 : decode b_Found_writeMatch 11 = .ok (.istore 6, 2) := by decide +kernel
theorem d_Found_writeMatch_13 : decode b_Found_writeMatch 13 = .ok (.aload_n 3, 1) := by decide +kernel
theorem d_Found_writeMatch_14 : decode b_Found_writeMatch 14 = .ok (.aload_n 1, 1) := by decide +kernel
theorem d_Found_writeMatch_15 : decode b_Found_writeMatch 15 = .ok (.iload 6, 2) := by decide +kernel
theorem d_Found_writeMatch_17 : decode b_Found_writeMatch 17 = .ok (.invokevirtual 53, 3) := by decide +kernel
theorem d_Found_writeMatch_20 : decode b_Found_writeMatch 20 = .ok (.aload_n 1, 1) := by decide +kernel
theorem d_Found_writeMatch_21 : decode b_Found_writeMatch 21 = .ok (.iload 5, 2) := by decide +kernel
theorem d_Found_writeMatch_23 : decode b_Found_writeMatch 23 = .ok (.iload 6, 2) := by decide +kernel
theorem d_Found_writeMatch_25 : decode b_Found_writeMatch 25 = .ok (.invokestatic 61, 3) := by decide +kernel
theorem d_Found_writeMatch_28 : decode b_Found_writeMatch 28 = .ok (.isub, 1) := by decide +kernel
theorem d_Found_writeMatch_29 : decode b_Found_writeMatch 29 = .ok (.iload 6, 2) := by decide +kernel
theorem d_Found_writeMatch_31 : decode b_Found_writeMatch 31 = .ok (.invokestatic 47, 3) := by decide +kernel
theorem d_Found_writeMatch_34 : decode b_Found_writeMatch 34 = .ok (.invokevirtual 64, 3) := by decide +kernel
theorem d_Found_writeMatch_37 : decode b_Found_writeMatch 37 = .ok (.iload_n 2, 1) := by decide +kernel
theorem d_Found_writeMatch_38 : decode b_Found_writeMatch 38 = .ok (.ldc 70, 2) := by decide +kernel
theorem d_Found_writeMatch_40 : decode b_Found_writeMatch 40 = .ok (.iand, 1) := by decide +kernel
theorem d_Found_writeMatch_41 : decode b_Found_writeMatch 41 = .ok (.istore 7, 2) := by decide +kernel
theorem d_Found_writeMatch_43 : decode b_Found_writeMatch 43 = .ok (.iload 7, 2) := by decide +kernel
theorem d_Found_writeMatch_45 : decode b_Found_writeMatch 45 = .ok (.invokestatic 39, 3) := by decide +kernel
theorem d_Found_writeMatch_48 : decode b_Found_writeMatch 48 = .ok (.istore 8, 2) := by decide +kernel
theorem d_Found_writeMatch_50 : decode b_Found_writeMatch 50 = .ok (.aload 4, 2) := by decide +kernel
theorem d_Found_writeMatch_52 : decode b_Found_writeMatch 52 = .ok (.aload_n 1, 1) := by decide +kernel
theorem d_Found_writeMatch_53 : decode b_Found_writeMatch 53 = .ok (.iload 8, 2) := by decide +kernel
theorem d_Found_writeMatch_55 : decode b_Found_writeMatch 55 = .ok (.invokevirtual 53, 3) := by decide +kernel
theorem d_Found_writeMatch_58 : decode b_Found_writeMatch 58 = .ok (.aload_n 1, 1) := by decide +kernel
theorem d_Found_writeMatch_59 : decode b_Found_writeMatch 59 = .ok (.iload 7, 2) := by decide +kernel
theorem d_Found_writeMatch_61 : decode b_Found_writeMatch 61 = .ok (.iload 8, 2) := by decide +kernel
theorem d_Found_writeMatch_63 : decode b_Found_writeMatch 63 = .ok (.invokestatic 71, 3) := by decide +kernel
theorem d_Found_writeMatch_66 : decode b_Found_writeMatch 66 = .ok (.isub, 1) := by decide +kernel
theorem d_Found_writeMatch_67 : decode b_Found_writeMatch 67 = .ok (.iload 8, 2) := by decide +kernel
theorem d_Found_writeMatch_69 : decode b_Found_writeMatch 69 = .ok (.invokestatic 50, 3) := by decide +kernel
theorem d_Found_writeMatch_72 : decode b_Found_writeMatch 72 = .ok (.invokevirtual 64, 3) := by decide +kernel
theorem d_Found_writeMatch_75 : decode b_Found_writeMatch 75 = .ok (.return_, 1) := by decide +kernel
theorem d_Found_write_0 : decode b_Found_write 0 = .ok (.iconst 0, 1) := by decide +kernel
theorem d_Found_write_1 : decode b_Found_write 1 = .ok (.istore 4, 2) := by decide +kernel
theorem d_Found_write_3 : decode b_Found_write 3 = .ok (.iload 4, 2) := by decide +kernel
theorem d_Found_write_5 : decode b_Found_write 5 = .ok (.aload_n 0, 1) := by decide +kernel
theorem d_Found_write_6 : decode b_Found_write 6 = .ok (.getfield 15, 3) := by decide +kernel
theorem d_Found_write_9 : decode b_Found_write 9 = .ok (.if_icmp .ge 45, 3) := by decide +kernel
theorem d_Found_write_12 : decode b_Found_write 12 = .ok (.aload_n 0, 1) := by decide +kernel
theorem d_Found_write_13 : decode b_Found_write 13 = .ok (.getfield 9, 3) := by decide +kernel
theorem d_Found_write_16 : decode b_Found_write 16 = .ok (.iload 4, 2) := by decide +kernel
theorem d_Found_write_18 : decode b_Found_write 18 = .ok (.iaload, 1) := by decide +kernel
theorem d_Found_write_19 : decode b_Found_write 19 = .ok (.istore 5, 2) := by decide +kernel
theorem d_Found_write_21 : decode b_Found_write 21 = .ok (.iload 5, 2) := by decide +kernel
theorem d_Found_write_23 : decode b_Found_write 23 = .ok (.sipush 256, 3) := by decide +kernel
theorem d_Found_write_26 : decode b_Found_write 26 = .ok (.if_icmp .ge 13, 3) := by decide +kernel
theorem d_Found_write_29 : decode b_Found_write 29 = .ok (.aload_n 2, 1) := by decide +kernel
theorem d_Found_write_30 : decode b_Found_write 30 = .ok (.aload_n 1, 1) := by decide +kernel
theorem d_Found_write_31 : decode b_Found_write 31 = .ok (.iload 5, 2) := by decide +kernel
theorem d_Found_write_33 : decode b_Found_write 33 = .ok (.invokevirtual 53, 3) := by decide +kernel
theorem d_Found_write_36 : decode b_Found_write 36 = .ok (.goto 12, 3) := by decide +kernel
theorem d_Found_write_39 : decode b_Found_write 39 = .ok (.aload_n 0, 1) := by decide +kernel
theorem d_Found_write_40 : decode b_Found_write 40 = .ok (.aload_n 1, 1) := by decide +kernel
theorem d_Found_write_41 : decode b_Found_write 41 = .ok (.iload 5, 2) := by decide +kernel
theorem d_Found_write_43 : decode b_Found_write 43 = .ok (.aload_n 2, 1) := by decide +kernel
theorem d_Found_write_44 : decode b_Found_write 44 = .ok (.aload_n 3, 1) := by decide +kernel
theorem d_Found_write_45 : decode b_Found_write 45 = .ok (.invokevirtual 57, 3) := by decide +kernel
theorem d_Found_write_48 : decode b_Found_write 48 = .ok (.iinc 4 1, 3) := by decide +kernel
theorem d_Found_write_51 : decode b_Found_write 51 = .ok (.goto (-48), 3) := by decide +kernel
theorem d_Found_write_54 : decode b_Found_write 54 = .ok (.aload_n 2, 1) := by decide +kernel
theorem d_Found_write_55 : decode b_Found_write 55 = .ok (.aload_n 1, 1) := by decide +kernel
theorem d_Found_write_56 : decode b_Found_write 56 = .ok (.sipush 256, 3) := by decide +kernel
theorem d_Found_write_59 : decode b_Found_write 59 = .ok (.invokevirtual 53, 3) := by decide +kernel
theorem d_Found_write_62 : decode b_Found_write 62 = .ok (.return_, 1) := by decide +kernel
theorem d_Packer_writeBlock_0 : decode b_Packer_writeBlock 0 = .ok (.aload_n 2, 1) := by decide +kernel
theorem d_Packer_writeBlock_1 : decode b_Packer_writeBlock 1 = .ok (.getfield 158, 3) := by decide +kernel
theorem d_Packer_writeBlock_4 : decode b_Packer_writeBlock 4 = .ok (.iconst 3, 1) := by decide +kernel
theorem d_Packer_writeBlock_5 : decode b_Packer_writeBlock 5 = .ok (.iadd, 1) := by decide +kernel
theorem d_Packer_writeBlock_6 : decode b_Packer_writeBlock 6 = .ok (.ineg, 1) := by decide +kernel
theorem d_Packer_writeBlock_7 : decode b_Packer_writeBlock 7 = .ok (.bipush 7, 2) := by decide +kernel
theorem d_Packer_writeBlock_9 : decode b_Packer_writeBlock 9 = .ok (.iand, 1) := by decide +kernel
theorem d_Packer_writeBlock_10 : decode b_Packer_writeBlock 10 = .ok (.bipush 32, 2) := by decide +kernel
theorem d_Packer_writeBlock_12 : decode b_Packer_writeBlock 12 = .ok (.iadd, 1) := by decide +kernel
theorem d_Packer_writeBlock_13 : decode b_Packer_writeBlock 13 = .ok (.bipush 8, 2) := by decide +kernel
theorem d_Packer_writeBlock_15 : decode b_Packer_writeBlock 15 = .ok (.iload 4, 2) := by decide +kernel
theorem d_Packer_writeBlock_17 : decode b_Packer_writeBlock 17 = .ok (.iload_n 3, 1) := by decide +kernel
theorem d_Packer_writeBlock_18 : decode b_Packer_writeBlock 18 = .ok (.isub, 1) := by decide +kernel
theorem d_Packer_writeBlock_19 : decode b_Packer_writeBlock 19 = .ok (.imul, 1) := by decide +kernel
theorem d_Packer_writeBlock_20 : decode b_Packer_writeBlock 20 = .ok (.iadd, 1) := by decide +kernel
theorem d_Packer_writeBlock_21 : decode b_Packer_writeBlock 21 = .ok (.istore 5, 2) := by decide +kernel
theorem d_Packer_writeBlock_23 : decode b_Packer_writeBlock 23 = .ok (.aload_n 0, 1) := by decide +kernel
theorem d_Packer_writeBlock_24 : decode b_Packer_writeBlock 24 = .ok (.getfield 28, 3) := by decide +kernel
theorem d_Packer_writeBlock_27 : decode b_Packer_writeBlock 27 = .ok (.aload_n 0, 1) := by decide +kernel
theorem d_Packer_writeBlock_28 : decode b_Packer_writeBlock 28 = .ok (.getfield 42, 3) := by decide +kernel
theorem d_Packer_writeBlock_31 : decode b_Packer_writeBlock 31 = .ok (.aload_n 0, 1) := by decide +kernel
theorem d_Packer_writeBlock_32 : decode b_Packer_writeBlock 32 = .ok (.getfield 46, 3) := by decide +kernel
theorem d_Packer_writeBlock_35 : decode b_Packer_writeBlock 35 = .ok (.invokevirtual 161, 3) := by decide +kernel
theorem d_Packer_writeBlock_38 : decode b_Packer_writeBlock 38 = .ok (.istore 6, 2) := by decide +kernel
theorem d_Packer_writeBlock_40 : decode b_Packer_writeBlock 40 = .ok (.aload_n 0, 1) := by decide +kernel
theorem d_Packer_writeBlock_41 : decode b_Packer_writeBlock 41 = .ok (.getfield 35, 3) := by decide +kernel
theorem d_Packer_writeBlock_44 : decode b_Packer_writeBlock 44 = .ok (.invokevirtual 165, 3) := by decide +kernel
theorem d_Packer_writeBlock_47 : decode b_Packer_writeBlock 47 = .ok (.aload_n 0, 1) := by decide +kernel
theorem d_Packer_writeBlock_48 : decode b_Packer_writeBlock 48 = .ok (.getfield 28, 3) := by decide +kernel
theorem d_Packer_writeBlock_51 : decode b_Packer_writeBlock 51 = .ok (.aload_n 0, 1) := by decide +kernel
theorem d_Packer_writeBlock_52 : decode b_Packer_writeBlock 52 = .ok (.getfield 49, 3) := by decide +kernel
theorem d_Packer_writeBlock_55 : decode b_Packer_writeBlock 55 = .ok (.aload_n 0, 1) := by decide +kernel
theorem d_Packer_writeBlock_56 : decode b_Packer_writeBlock 56 = .ok (.getfield 52, 3) := by decide +kernel
theorem d_Packer_writeBlock_59 : decode b_Packer_writeBlock 59 = .ok (.invokevirtual 161, 3) := by decide +kernel
theorem d_Packer_writeBlock_62 : decode b_Packer_writeBlock 62 = .ok (.iadd, 1) := by decide +kernel
theorem d_Packer_writeBlock_63 : decode b_Packer_writeBlock 63 = .ok (.istore 7, 2) := by decide +kernel
theorem d_Packer_writeBlock_65 : decode b_Packer_writeBlock 65 = .ok (.aload_n 2, 1) := by decide +kernel
theorem d_Packer_writeBlock_66 : decode b_Packer_writeBlock 66 = .ok (.iload 4, 2) := by decide +kernel
theorem d_Packer_writeBlock_68 : decode b_Packer_writeBlock 68 = .ok (.aload_n 1, 1) := by decide +kernel
theorem d_Packer_writeBlock_69 : decode b_Packer_writeBlock 69 = .ok (.getfield 95, 3) := by decide +kernel
theorem d_Packer_writeBlock_72 : decode b_Packer_writeBlock 72 = .ok (.if_icmp .ne 7, 3) := by decide +kernel
theorem d_Packer_writeBlock_75 : decode b_Packer_writeBlock 75 = .ok (.iconst 1, 1) := by decide +kernel
theorem d_Packer_writeBlock_76 : decode b_Packer_writeBlock 76 = .ok (.goto 4, 3) := by decide +kernel
theorem d_Packer_writeBlock_79 : decode b_Packer_writeBlock 79 = .ok (.iconst 0, 1) := by decide +kernel
theorem d_Packer_writeBlock_80 : decode b_Packer_writeBlock 80 = .ok (.iconst 1, 1) := by decide +kernel
theorem d_Packer_writeBlock_81 : decode b_Packer_writeBlock 81 = .ok (.invokevirtual 87, 3) := by decide +kernel
theorem d_Packer_writeBlock_84 : decode b_Packer_writeBlock 84 = .ok (.iload 5, 2) := by decide +kernel
theorem d_Packer_writeBlock_86 : decode b_Packer_writeBlock 86 = .ok (.iload 6, 2) := by decide +kernel
theorem d_Packer_writeBlock_88 : decode b_Packer_writeBlock 88 = .ok (.if_icmp .gt 32, 3) := by decide +kernel
theorem d_Packer_writeBlock_91 : decode b_Packer_writeBlock 91 = .ok (.iload 5, 2) := by decide +kernel
theorem d_Packer_writeBlock_93 : decode b_Packer_writeBlock 93 = .ok (.iload 7, 2) := by decide +kernel
theorem d_Packer_writeBlock_95 : decode b_Packer_writeBlock 95 = .ok (.if_icmp .gt 25, 3) := by decide +kernel
theorem d_Packer_writeBlock_98 : decode b_Packer_writeBlock 98 = .ok (.aload_n 0, 1) := by decide +kernel
theorem d_Packer_writeBlock_99 : decode b_Packer_writeBlock 99 = .ok (.dup, 1) := by decide +kernel
theorem d_Packer_writeBlock_100 : decode b_Packer_writeBlock 100 = .ok (.getfield 55, 3) := by decide +kernel
theorem d_Packer_writeBlock_103 : decode b_Packer_writeBlock 103 = .ok (.iconst 1, 1) := by decide +kernel
theorem d_Packer_writeBlock_104 : decode b_Packer_writeBlock 104 = .ok (.iadd, 1) := by decide +kernel
theorem d_Packer_writeBlock_105 : decode b_Packer_writeBlock 105 = .ok (.putfield 55, 3) := by decide +kernel
theorem d_Packer_writeBlock_108 : decode b_Packer_writeBlock 108 = .ok (.aload_n 0, 1) := by decide +kernel
theorem d_Packer_writeBlock_109 : decode b_Packer_writeBlock 109 = .ok (.aload_n 1, 1) := by decide +kernel
theorem d_Packer_writeBlock_110 : decode b_Packer_writeBlock 110 = .ok (.aload_n 2, 1) := by decide +kernel
theorem d_Packer_writeBlock_111 : decode b_Packer_writeBlock 111 = .ok (.iload_n 3, 1) := by decide +kernel
theorem d_Packer_writeBlock_112 : decode b_Packer_writeBlock 112 = .ok (.iload 4, 2) := by decide +kernel
theorem d_Packer_writeBlock_114 : decode b_Packer_writeBlock 114 = .ok (.invokevirtual 167, 3) := by decide +kernel
theorem d_Packer_writeBlock_117 : decode b_Packer_writeBlock 117 = .ok (.goto 99, 3) := by decide +kernel
theorem d_Packer_writeBlock_120 : decode b_Packer_writeBlock 120 = .ok (.iload 6, 2) := by decide +kernel
theorem d_Packer_writeBlock_122 : decode b_Packer_writeBlock 122 = .ok (.iload 7, 2) := by decide +kernel
theorem d_Packer_writeBlock_124 : decode b_Packer_writeBlock 124 = .ok (.if_icmp .gt 38, 3) := by decide +kernel
theorem d_Packer_writeBlock_127 : decode b_Packer_writeBlock 127 = .ok (.aload_n 0, 1) := by decide +kernel
theorem d_Packer_writeBlock_128 : decode b_Packer_writeBlock 128 = .ok (.dup, 1) := by decide +kernel
theorem d_Packer_writeBlock_129 : decode b_Packer_writeBlock 129 = .ok (.getfield 59, 3) := by decide +kernel
theorem d_Packer_writeBlock_132 : decode b_Packer_writeBlock 132 = .ok (.iconst 1, 1) := by decide +kernel
theorem d_Packer_writeBlock_133 : decode b_Packer_writeBlock 133 = .ok (.iadd, 1) := by decide +kernel
theorem d_Packer_writeBlock_134 : decode b_Packer_writeBlock 134 = .ok (.putfield 59, 3) := by decide +kernel
theorem d_Packer_writeBlock_137 : decode b_Packer_writeBlock 137 = .ok (.aload_n 2, 1) := by decide +kernel
theorem d_Packer_writeBlock_138 : decode b_Packer_writeBlock 138 = .ok (.iconst 1, 1) := by decide +kernel
theorem d_Packer_writeBlock_139 : decode b_Packer_writeBlock 139 = .ok (.iconst 2, 1) := by decide +kernel
theorem d_Packer_writeBlock_140 : decode b_Packer_writeBlock 140 = .ok (.invokevirtual 87, 3) := by decide +kernel
theorem d_Packer_writeBlock_143 : decode b_Packer_writeBlock 143 = .ok (.aload_n 0, 1) := by decide +kernel
theorem d_Packer_writeBlock_144 : decode b_Packer_writeBlock 144 = .ok (.getfield 28, 3) := by decide +kernel
theorem d_Packer_writeBlock_147 : decode b_Packer_writeBlock 147 = .ok (.aload_n 2, 1) := by decide +kernel
theorem d_Packer_writeBlock_148 : decode b_Packer_writeBlock 148 = .ok (.aload_n 0, 1) := by decide +kernel
theorem d_Packer_writeBlock_149 : decode b_Packer_writeBlock 149 = .ok (.getfield 42, 3) := by decide +kernel
theorem d_Packer_writeBlock_152 : decode b_Packer_writeBlock 152 = .ok (.aload_n 0, 1) := by decide +kernel
theorem d_Packer_writeBlock_153 : decode b_Packer_writeBlock 153 = .ok (.getfield 46, 3) := by decide +kernel
theorem d_Packer_writeBlock_156 : decode b_Packer_writeBlock 156 = .ok (.invokevirtual 170, 3) := by decide +kernel
theorem d_Packer_writeBlock_159 : decode b_Packer_writeBlock 159 = .ok (.goto 57, 3) := by decide +kernel
theorem d_Packer_writeBlock_162 : decode b_Packer_writeBlock 162 = .ok (.aload_n 0, 1) := by decide +kernel
theorem d_Packer_writeBlock_163 : decode b_Packer_writeBlock 163 = .ok (.dup, 1) := by decide +kernel
theorem d_Packer_writeBlock_164 : decode b_Packer_writeBlock 164 = .ok (.getfield 62, 3) := by decide +kernel
theorem d_Packer_writeBlock_167 : decode b_Packer_writeBlock 167 = .ok (.iconst 1, 1) := by decide +kernel
theorem d_Packer_writeBlock_168 : decode b_Packer_writeBlock 168 = .ok (.iadd, 1) := by decide +kernel
theorem d_Packer_writeBlock_169 : decode b_Packer_writeBlock 169 = .ok (.putfield 62, 3) := by decide +kernel
theorem d_Packer_writeBlock_172 : decode b_Packer_writeBlock 172 = .ok (.aload_n 0, 1) := by decide +kernel
theorem d_Packer_writeBlock_173 : decode b_Packer_writeBlock 173 = .ok (.getfield 49, 3) := by decide +kernel
theorem d_Packer_writeBlock_176 : decode b_Packer_writeBlock 176 = .ok (.invokevirtual 79, 3) := by decide +kernel
theorem d_Packer_writeBlock_179 : decode b_Packer_writeBlock 179 = .ok (.aload_n 0, 1) := by decide +kernel
theorem d_Packer_writeBlock_180 : decode b_Packer_writeBlock 180 = .ok (.getfield 52, 3) := by decide +kernel
theorem d_Packer_writeBlock_183 : decode b_Packer_writeBlock 183 = .ok (.invokevirtual 79, 3) := by decide +kernel
theorem d_Packer_writeBlock_186 : decode b_Packer_writeBlock 186 = .ok (.aload_n 2, 1) := by decide +kernel
theorem d_Packer_writeBlock_187 : decode b_Packer_writeBlock 187 = .ok (.iconst 2, 1) := by decide +kernel
theorem d_Packer_writeBlock_188 : decode b_Packer_writeBlock 188 = .ok (.iconst 2, 1) := by decide +kernel
theorem d_Packer_writeBlock_189 : decode b_Packer_writeBlock 189 = .ok (.invokevirtual 87, 3) := by decide +kernel
theorem d_Packer_writeBlock_192 : decode b_Packer_writeBlock 192 = .ok (.aload_n 0, 1) := by decide +kernel
theorem d_Packer_writeBlock_193 : decode b_Packer_writeBlock 193 = .ok (.getfield 35, 3) := by decide +kernel
theorem d_Packer_writeBlock_196 : decode b_Packer_writeBlock 196 = .ok (.aload_n 2, 1) := by decide +kernel
theorem d_Packer_writeBlock_197 : decode b_Packer_writeBlock 197 = .ok (.invokevirtual 174, 3) := by decide +kernel
theorem d_Packer_writeBlock_200 : decode b_Packer_writeBlock 200 = .ok (.aload_n 0, 1) := by decide +kernel
theorem d_Packer_writeBlock_201 : decode b_Packer_writeBlock 201 = .ok (.getfield 28, 3) := by decide +kernel
theorem d_Packer_writeBlock_204 : decode b_Packer_writeBlock 204 = .ok (.aload_n 2, 1) := by decide +kernel
theorem d_Packer_writeBlock_205 : decode b_Packer_writeBlock 205 = .ok (.aload_n 0, 1) := by decide +kernel
theorem d_Packer_writeBlock_206 : decode b_Packer_writeBlock 206 = .ok (.getfield 49, 3) := by decide +kernel
theorem d_Packer_writeBlock_209 : decode b_Packer_writeBlock 209 = .ok (.aload_n 0, 1) := by decide +kernel
theorem d_Packer_writeBlock_210 : decode b_Packer_writeBlock 210 = .ok (.getfield 52, 3) := by decide +kernel
theorem d_Packer_writeBlock_213 : decode b_Packer_writeBlock 213 = .ok (.invokevirtual 170, 3) := by decide +kernel
theorem d_Packer_writeBlock_216 : decode b_Packer_writeBlock 216 = .ok (.return_, 1) := by decide +kernel
theorem d_Packer_run_0 : decode b_Packer_run 0 = .ok (.aload_n 0, 1) := by decide +kernel
theorem d_Packer_run_1 : decode b_Packer_run 1 = .ok (.iconst 0, 1) := by decide +kernel
theorem d_Packer_run_2 : decode b_Packer_run 2 = .ok (.putfield 55, 3) := by decide +kernel
theorem d_Packer_run_5 : decode b_Packer_run 5 = .ok (.aload_n 0, 1) := by decide +kernel
theorem d_Packer_run_6 : decode b_Packer_run 6 = .ok (.iconst 0, 1) := by decide +kernel
theorem d_Packer_run_7 : decode b_Packer_run 7 = .ok (.putfield 59, 3) := by decide +kernel
theorem d_Packer_run_10 : decode b_Packer_run 10 = .ok (.aload_n 0, 1) := by decide +kernel
theorem d_Packer_run_11 : decode b_Packer_run 11 = .ok (.iconst 0, 1) := by decide +kernel
theorem d_Packer_run_12 : decode b_Packer_run 12 = .ok (.putfield 62, 3) := by decide +kernel
theorem d_Packer_run_15 : decode b_Packer_run 15 = .ok (.aload_n 0, 1) := by decide +kernel
theorem d_Packer_run_16 : decode b_Packer_run 16 = .ok (.iconst 0, 1) := by decide +kernel
theorem d_Packer_run_17 : decode b_Packer_run 17 = .ok (.putfield 65, 3) := by decide +kernel
theorem d_Packer_run_20 : decode b_Packer_run 20 = .ok (.aload_n 0, 1) := by decide +kernel
theorem d_Packer_run_21 : decode b_Packer_run 21 = .ok (.iconst 0, 1) := by decide +kernel
theorem d_Packer_run_22 : decode b_Packer_run 22 = .ok (.putfield 68, 3) := by decide +kernel
theorem d_Packer_run_25 : decode b_Packer_run 25 = .ok (.aload_n 2, 1) := by decide +kernel
theorem d_Packer_run_26 : decode b_Packer_run 26 = .ok (.invokevirtual 82, 3) := by decide +kernel
theorem d_Packer_run_29 : decode b_Packer_run 29 = .ok (.aload_n 2, 1) := by decide +kernel
theorem d_Packer_run_30 : decode b_Packer_run 30 = .ok (.bipush 120, 2) := by decide +kernel
theorem d_Packer_run_32 : decode b_Packer_run 32 = .ok (.bipush 8, 2) := by decide +kernel
theorem d_Packer_run_34 : decode b_Packer_run 34 = .ok (.invokevirtual 87, 3) := by decide +kernel
theorem d_Packer_run_37 : decode b_Packer_run 37 = .ok (.aload_n 2, 1) := by decide +kernel
theorem d_Packer_run_38 : decode b_Packer_run 38 = .ok (.sipush 156, 3) := by decide +kernel
theorem d_Packer_run_41 : decode b_Packer_run 41 = .ok (.bipush 8, 2) := by decide +kernel
theorem d_Packer_run_43 : decode b_Packer_run 43 = .ok (.invokevirtual 87, 3) := by decide +kernel
theorem d_Packer_run_46 : decode b_Packer_run 46 = .ok (.aload_n 0, 1) := by decide +kernel
theorem d_Packer_run_47 : decode b_Packer_run 47 = .ok (.getfield 12, 3) := by decide +kernel
theorem d_Packer_run_50 : decode b_Packer_run 50 = .ok (.aload_n 1, 1) := by decide +kernel
theorem d_Packer_run_51 : decode b_Packer_run 51 = .ok (.invokevirtual 91, 3) := by decide +kernel
theorem d_Packer_run_54 : decode b_Packer_run 54 = .ok (.iconst 0, 1) := by decide +kernel
theorem d_Packer_run_55 : decode b_Packer_run 55 = .ok (.istore 5, 2) := by decide +kernel
theorem d_Packer_run_57 : decode b_Packer_run 57 = .ok (.iload 5, 2) := by decide +kernel
theorem d_Packer_run_59 : decode b_Packer_run 59 = .ok (.ifCond .eq 12, 3) := by decide +kernel
theorem d_Packer_run_62 : decode b_Packer_run 62 = .ok (.iload 5, 2) := by decide +kernel
theorem d_Packer_run_64 : decode b_Packer_run 64 = .ok (.aload_n 1, 1) := by decide +kernel
theorem d_Packer_run_65 : decode b_Packer_run 65 = .ok (.getfield 95, 3) := by decide +kernel
theorem d_Packer_run_68 : decode b_Packer_run 68 = .ok (.if_icmp .ge 119, 3) := by decide +kernel
theorem d_Packer_run_71 : decode b_Packer_run 71 = .ok (.iload 5, 2) := by decide +kernel
theorem d_Packer_run_73 : decode b_Packer_run 73 = .ok (.sipush 4096, 3) := by decide +kernel
theorem d_Packer_run_76 : decode b_Packer_run 76 = .ok (.iadd, 1) := by decide +kernel
theorem d_Packer_run_77 : decode b_Packer_run 77 = .ok (.aload_n 1, 1) := by decide +kernel
theorem d_Packer_run_78 : decode b_Packer_run 78 = .ok (.getfield 95, 3) := by decide +kernel
theorem d_Packer_run_81 : decode b_Packer_run 81 = .ok (.invokestatic 98, 3) := by decide +kernel
theorem d_Packer_run_84 : decode b_Packer_run 84 = .ok (.istore 6, 2) := by decide +kernel
theorem d_Packer_run_86 : decode b_Packer_run 86 = .ok (.aload_n 0, 1) := by decide +kernel
theorem d_Packer_run_87 : decode b_Packer_run 87 = .ok (.aload_n 1, 1) := by decide +kernel
theorem d_Packer_run_88 : decode b_Packer_run 88 = .ok (.iload 5, 2) := by decide +kernel
theorem d_Packer_run_90 : decode b_Packer_run 90 = .ok (.iload 6, 2) := by decide +kernel
theorem d_Packer_run_92 : decode b_Packer_run 92 = .ok (.iload_n 3, 1) := by decide +kernel
theorem d_Packer_run_93 : decode b_Packer_run 93 = .ok (.iload 4, 2) := by decide +kernel
theorem d_Packer_run_95 : decode b_Packer_run 95 = .ok (.invokevirtual 104, 3) := by decide +kernel
theorem d_Packer_run_98 : decode b_Packer_run 98 = .ok (.aload_n 0, 1) := by decide +kernel
theorem d_Packer_run_99 : decode b_Packer_run 99 = .ok (.getfield 21, 3) := by decide +kernel
theorem d_Packer_run_102 : decode b_Packer_run 102 = .ok (.aload_n 0, 1) := by decide +kernel
theorem d_Packer_run_103 : decode b_Packer_run 103 = .ok (.getfield 28, 3) := by decide +kernel
theorem d_Packer_run_106 : decode b_Packer_run 106 = .ok (.getfield 108, 3) := by decide +kernel
theorem d_Packer_run_109 : decode b_Packer_run 109 = .ok (.sipush 286, 3) := by decide +kernel
theorem d_Packer_run_112 : decode b_Packer_run 112 = .ok (.bipush 15, 2) := by decide +kernel
theorem d_Packer_run_114 : decode b_Packer_run 114 = .ok (.aload_n 0, 1) := by decide +kernel
theorem d_Packer_run_115 : decode b_Packer_run 115 = .ok (.getfield 49, 3) := by decide +kernel
theorem d_Packer_run_118 : decode b_Packer_run 118 = .ok (.getfield 71, 3) := by decide +kernel
theorem d_Packer_run_121 : decode b_Packer_run 121 = .ok (.invokevirtual 111, 3) := by decide +kernel
theorem d_Packer_run_124 : decode b_Packer_run 124 = .ok (.aload_n 0, 1) := by decide +kernel
theorem d_Packer_run_125 : decode b_Packer_run 125 = .ok (.getfield 21, 3) := by decide +kernel
theorem d_Packer_run_128 : decode b_Packer_run 128 = .ok (.aload_n 0, 1) := by decide +kernel
theorem d_Packer_run_129 : decode b_Packer_run 129 = .ok (.getfield 28, 3) := by decide +kernel
theorem d_Packer_run_132 : decode b_Packer_run 132 = .ok (.getfield 115, 3) := by decide +kernel
theorem d_Packer_run_135 : decode b_Packer_run 135 = .ok (.bipush 30, 2) := by decide +kernel
theorem d_Packer_run_137 : decode b_Packer_run 137 = .ok (.bipush 15, 2) := by decide +kernel
theorem d_Packer_run_139 : decode b_Packer_run 139 = .ok (.aload_n 0, 1) := by decide +kernel
theorem d_Packer_run_140 : decode b_Packer_run 140 = .ok (.getfield 52, 3) := by decide +kernel
theorem d_Packer_run_143 : decode b_Packer_run 143 = .ok (.getfield 71, 3) := by decide +kernel
theorem d_Packer_run_146 : decode b_Packer_run 146 = .ok (.invokevirtual 111, 3) := by decide +kernel
theorem d_Packer_run_149 : decode b_Packer_run 149 = .ok (.aload_n 0, 1) := by decide +kernel
theorem d_Packer_run_150 : decode b_Packer_run 150 = .ok (.getfield 35, 3) := by decide +kernel
theorem d_Packer_run_153 : decode b_Packer_run 153 = .ok (.aload_n 0, 1) := by decide +kernel
theorem d_Packer_run_154 : decode b_Packer_run 154 = .ok (.getfield 49, 3) := by decide +kernel
theorem d_Packer_run_157 : decode b_Packer_run 157 = .ok (.aload_n 0, 1) := by decide +kernel
theorem d_Packer_run_158 : decode b_Packer_run 158 = .ok (.getfield 52, 3) := by decide +kernel
theorem d_Packer_run_161 : decode b_Packer_run 161 = .ok (.aload_n 0, 1) := by decide +kernel
theorem d_Packer_run_162 : decode b_Packer_run 162 = .ok (.getfield 21, 3) := by decide +kernel
theorem d_Packer_run_165 : decode b_Packer_run 165 = .ok (.invokevirtual 118, 3) := by decide +kernel
theorem d_Packer_run_168 : decode b_Packer_run 168 = .ok (.aload_n 0, 1) := by decide +kernel
theorem d_Packer_run_169 : decode b_Packer_run 169 = .ok (.aload_n 1, 1) := by decide +kernel
theorem d_Packer_run_170 : decode b_Packer_run 170 = .ok (.aload_n 2, 1) := by decide +kernel
theorem d_Packer_run_171 : decode b_Packer_run 171 = .ok (.iload 5, 2) := by decide +kernel
theorem d_Packer_run_173 : decode b_Packer_run 173 = .ok (.iload 6, 2) := by decide +kernel
theorem d_Packer_run_175 : decode b_Packer_run 175 = .ok (.invokevirtual 121, 3) := by decide +kernel
theorem d_Packer_run_178 : decode b_Packer_run 178 = .ok (.iinc 5 4096, 6) := by decide +kernel
theorem d_Packer_run_184 : decode b_Packer_run 184 = .ok (.goto (-127), 3) := by decide +kernel
theorem d_Packer_run_187 : decode b_Packer_run 187 = .ok (.aload_n 2, 1) := by decide +kernel
theorem d_Packer_run_188 : decode b_Packer_run 188 = .ok (.invokevirtual 125, 3) := by decide +kernel
theorem d_Packer_run_191 : decode b_Packer_run 191 = .ok (.aload_n 1, 1) := by decide +kernel
theorem d_Packer_run_192 : decode b_Packer_run 192 = .ok (.invokevirtual 128, 3) := by decide +kernel
theorem d_Packer_run_195 : decode b_Packer_run 195 = .ok (.istore 5, 2) := by decide +kernel
theorem d_Packer_run_197 : decode b_Packer_run 197 = .ok (.bipush 24, 2) := by decide +kernel
theorem d_Packer_run_199 : decode b_Packer_run 199 = .ok (.istore 6, 2) := by decide +kernel
theorem d_Packer_run_201 : decode b_Packer_run 201 = .ok (.iload 6, 2) := by decide +kernel
theorem d_Packer_run_203 : decode b_Packer_run 203 = .ok (.ifCond .lt 20, 3) := by decide +kernel
theorem d_Packer_run_206 : decode b_Packer_run 206 = .ok (.aload_n 2, 1) := by decide +kernel
theorem d_Packer_run_207 : decode b_Packer_run 207 = .ok (.iload 5, 2) := by decide +kernel
theorem d_Packer_run_209 : decode b_Packer_run 209 = .ok (.iload 6, 2) := by decide +kernel
theorem d_Packer_run_211 : decode b_Packer_run 211 = .ok (.iushr, 1) := by decide +kernel
theorem d_Packer_run_212 : decode b_Packer_run 212 = .ok (.bipush 8, 2) := by decide +kernel
theorem d_Packer_run_214 : decode b_Packer_run 214 = .ok (.invokevirtual 87, 3) := by decide +kernel
theorem d_Packer_run_217 : decode b_Packer_run 217 = .ok (.iinc 6 (-8), 3) := by decide +kernel
theorem d_Packer_run_220 : decode b_Packer_run 220 = .ok (.goto (-19), 3) := by decide +kernel
theorem d_Packer_run_223 : decode b_Packer_run 223 = .ok (.return_, 1) := by decide +kernel
theorem d_Bp_pack_0 : decode b_Bp_pack 0 = .ok (.iload_n 1, 1) := by decide +kernel
theorem d_Bp_pack_1 : decode b_Bp_pack 1 = .ok (.ifCond .lt 10, 3) := by decide +kernel
theorem d_Bp_pack_4 : decode b_Bp_pack 4 = .ok (.iload_n 1, 1) := by decide +kernel
theorem d_Bp_pack_5 : decode b_Bp_pack 5 = .ok (.sipush 128, 3) := by decide +kernel
theorem d_Bp_pack_8 : decode b_Bp_pack 8 = .ok (.if_icmp .le 6, 3) := by decide +kernel
theorem d_Bp_pack_11 : decode b_Bp_pack 11 = .ok (.bipush (-2), 2) := by decide +kernel
theorem d_Bp_pack_13 : decode b_Bp_pack 13 = .ok (.ireturn, 1) := by decide +kernel
theorem d_Bp_pack_14 : decode b_Bp_pack 14 = .ok (.aload_n 0, 1) := by decide +kernel
theorem d_Bp_pack_15 : decode b_Bp_pack 15 = .ok (.getfield 22, 3) := by decide +kernel
theorem d_Bp_pack_18 : decode b_Bp_pack 18 = .ok (.aload_n 0, 1) := by decide +kernel
theorem d_Bp_pack_19 : decode b_Bp_pack 19 = .ok (.getfield 12, 3) := by decide +kernel
theorem d_Bp_pack_22 : decode b_Bp_pack 22 = .ok (.aload_n 0, 1) := by decide +kernel
theorem d_Bp_pack_23 : decode b_Bp_pack 23 = .ok (.getfield 16, 3) := by decide +kernel
theorem d_Bp_pack_26 : decode b_Bp_pack 26 = .ok (.iload_n 1, 1) := by decide +kernel
theorem d_Bp_pack_27 : decode b_Bp_pack 27 = .ok (.iload_n 2, 1) := by decide +kernel
theorem d_Bp_pack_28 : decode b_Bp_pack 28 = .ok (.invokevirtual 70, 3) := by decide +kernel
theorem d_Bp_pack_31 : decode b_Bp_pack 31 = .ok (.aload_n 0, 1) := by decide +kernel
theorem d_Bp_pack_32 : decode b_Bp_pack 32 = .ok (.getfield 16, 3) := by decide +kernel
theorem d_Bp_pack_35 : decode b_Bp_pack 35 = .ok (.getfield 33, 3) := by decide +kernel
theorem d_Bp_pack_38 : decode b_Bp_pack 38 = .ok (.ireturn, 1) := by decide +kernel
theorem d_Row_bitsLeft_0 : decode b_Row_bitsLeft 0 = .ok (.bipush 8, 2) := by decide +kernel
theorem d_Row_bitsLeft_2 : decode b_Row_bitsLeft 2 = .ok (.aload_n 0, 1) := by decide +kernel
theorem d_Row_bitsLeft_3 : decode b_Row_bitsLeft 3 = .ok (.getfield 15, 3) := by decide +kernel
theorem d_Row_bitsLeft_6 : decode b_Row_bitsLeft 6 = .ok (.imul, 1) := by decide +kernel
theorem d_Row_bitsLeft_7 : decode b_Row_bitsLeft 7 = .ok (.aload_n 0, 1) := by decide +kernel
theorem d_Row_bitsLeft_8 : decode b_Row_bitsLeft 8 = .ok (.getfield 19, 3) := by decide +kernel
theorem d_Row_bitsLeft_11 : decode b_Row_bitsLeft 11 = .ok (.isub, 1) := by decide +kernel
theorem d_Row_bitsLeft_12 : decode b_Row_bitsLeft 12 = .ok (.ireturn, 1) := by decide +kernel
theorem d_Row_nextBit_0 : decode b_Row_nextBit 0 = .ok (.aload_n 0, 1) := by decide +kernel
theorem d_Row_nextBit_1 : decode b_Row_nextBit 1 = .ok (.getfield 19, 3) := by decide +kernel
theorem d_Row_nextBit_4 : decode b_Row_nextBit 4 = .ok (.iconst 3, 1) := by decide +kernel
theorem d_Row_nextBit_5 : decode b_Row_nextBit 5 = .ok (.ishr, 1) := by decide +kernel
theorem d_Row_nextBit_6 : decode b_Row_nextBit 6 = .ok (.istore_n 1, 1) := by decide +kernel
theorem d_Row_nextBit_7 : decode b_Row_nextBit 7 = .ok (.iload_n 1, 1) := by decide +kernel
theorem d_Row_nextBit_8 : decode b_Row_nextBit 8 = .ok (.ifCond .lt 11, 3) := by decide +kernel
theorem d_Row_nextBit_11 : decode b_Row_nextBit 11 = .ok (.iload_n 1, 1) := by decide +kernel
theorem d_Row_nextBit_12 : decode b_Row_nextBit 12 = .ok (.aload_n 0, 1) := by decide +kernel
theorem d_Row_nextBit_13 : decode b_Row_nextBit 13 = .ok (.getfield 15, 3) := by decide +kernel
theorem d_Row_nextBit_16 : decode b_Row_nextBit 16 = .ok (.if_icmp .lt 6, 3) := by decide +kernel
theorem d_Row_nextBit_19 : decode b_Row_nextBit 19 = .ok (.bipush (-2), 2) := by decide +kernel
theorem d_Row_nextBit_21 : decode b_Row_nextBit 21 = .ok (.ireturn, 1) := by decide +kernel
theorem d_Row_nextBit_22 : decode b_Row_nextBit 22 = .ok (.aload_n 0, 1) := by decide +kernel
theorem d_Row_nextBit_23 : decode b_Row_nextBit 23 = .ok (.getfield 9, 3) := by decide +kernel
theorem d_Row_nextBit_26 : decode b_Row_nextBit 26 = .ok (.iload_n 1, 1) := by decide +kernel
theorem d_Row_nextBit_27 : decode b_Row_nextBit 27 = .ok (.baload, 1) := by decide +kernel
theorem d_Row_nextBit_28 : decode b_Row_nextBit 28 = .ok (.aload_n 0, 1) := by decide +kernel
theorem d_Row_nextBit_29 : decode b_Row_nextBit 29 = .ok (.getfield 19, 3) := by decide +kernel
theorem d_Row_nextBit_32 : decode b_Row_nextBit 32 = .ok (.bipush 7, 2) := by decide +kernel
theorem d_Row_nextBit_34 : decode b_Row_nextBit 34 = .ok (.iand, 1) := by decide +kernel
theorem d_Row_nextBit_35 : decode b_Row_nextBit 35 = .ok (.ishr, 1) := by decide +kernel
theorem d_Row_nextBit_36 : decode b_Row_nextBit 36 = .ok (.iconst 1, 1) := by decide +kernel
theorem d_Row_nextBit_37 : decode b_Row_nextBit 37 = .ok (.iand, 1) := by decide +kernel
theorem d_Row_nextBit_38 : decode b_Row_nextBit 38 = .ok (.istore_n 2, 1) := by decide +kernel
theorem d_Row_nextBit_39 : decode b_Row_nextBit 39 = .ok (.aload_n 0, 1) := by decide +kernel
theorem d_Row_nextBit_40 : decode b_Row_nextBit 40 = .ok (.dup, 1) := by decide +kernel
theorem d_Row_nextBit_41 : decode b_Row_nextBit 41 = .ok (.getfield 19, 3) := by decide +kernel
theorem d_Row_nextBit_44 : decode b_Row_nextBit 44 = .ok (.iconst 1, 1) := by decide +kernel
theorem d_Row_nextBit_45 : decode b_Row_nextBit 45 = .ok (.iadd, 1) := by decide +kernel
theorem d_Row_nextBit_46 : decode b_Row_nextBit 46 = .ok (.putfield 19, 3) := by decide +kernel
theorem d_Row_nextBit_49 : decode b_Row_nextBit 49 = .ok (.iload_n 2, 1) := by decide +kernel
theorem d_Row_nextBit_50 : decode b_Row_nextBit 50 = .ok (.ireturn, 1) := by decide +kernel
theorem d_Row_nextNumber_0 : decode b_Row_nextNumber 0 = .ok (.aload_n 0, 1) := by decide +kernel
theorem d_Row_nextNumber_1 : decode b_Row_nextNumber 1 = .ok (.invokevirtual 22, 3) := by decide +kernel
theorem d_Row_nextNumber_4 : decode b_Row_nextNumber 4 = .ok (.iload_n 1, 1) := by decide +kernel
theorem d_Row_nextNumber_5 : decode b_Row_nextNumber 5 = .ok (.if_icmp .ge 17, 3) := by decide +kernel
theorem d_Row_nextNumber_8 : decode b_Row_nextNumber 8 = .ok (.aload_n 0, 1) := by decide +kernel
theorem d_Row_nextNumber_9 : decode b_Row_nextNumber 9 = .ok (.bipush 8, 2) := by decide +kernel
theorem d_Row_nextNumber_11 : decode b_Row_nextNumber 11 = .ok (.aload_n 0, 1) := by decide +kernel
theorem d_Row_nextNumber_12 : decode b_Row_nextNumber 12 = .ok (.getfield 15, 3) := by decide +kernel
theorem d_Row_nextNumber_15 : decode b_Row_nextNumber 15 = .ok (.imul, 1) := by decide +kernel
theorem d_Row_nextNumber_16 : decode b_Row_nextNumber 16 = .ok (.putfield 19, 3) := by decide +kernel
theorem d_Row_nextNumber_19 : decode b_Row_nextNumber 19 = .ok (.bipush (-2), 2) := by decide +kernel
theorem d_Row_nextNumber_21 : decode b_Row_nextNumber 21 = .ok (.ireturn, 1) := by decide +kernel
theorem d_Row_nextNumber_22 : decode b_Row_nextNumber 22 = .ok (.iconst 0, 1) := by decide +kernel
theorem d_Row_nextNumber_23 : decode b_Row_nextNumber 23 = .ok (.istore_n 2, 1) := by decide +kernel
theorem d_Row_nextNumber_24 : decode b_Row_nextNumber 24 = .ok (.iconst 0, 1) := by decide +kernel
theorem d_Row_nextNumber_25 : decode b_Row_nextNumber 25 = .ok (.istore_n 3, 1) := by decide +kernel
theorem d_Row_nextNumber_26 : decode b_Row_nextNumber 26 = .ok (.iload_n 3, 1) := by decide +kernel
theorem d_Row_nextNumber_27 : decode b_Row_nextNumber 27 = .ok (.iload_n 1, 1) := by decide +kernel
theorem d_Row_nextNumber_28 : decode b_Row_nextNumber 28 = .ok (.if_icmp .ge 18, 3) := by decide +kernel
theorem d_Row_nextNumber_31 : decode b_Row_nextNumber 31 = .ok (.iload_n 2, 1) := by decide +kernel
theorem d_Row_nextNumber_32 : decode b_Row_nextNumber 32 = .ok (.aload_n 0, 1) := by decide +kernel
theorem d_Row_nextNumber_33 : decode b_Row_nextNumber 33 = .ok (.invokevirtual 26, 3) := by decide +kernel
theorem d_Row_nextNumber_36 : decode b_Row_nextNumber 36 = .ok (.iload_n 3, 1) := by decide +kernel
theorem d_Row_nextNumber_37 : decode b_Row_nextNumber 37 = .ok (.ishl, 1) := by decide +kernel
theorem d_Row_nextNumber_38 : decode b_Row_nextNumber 38 = .ok (.ior, 1) := by decide +kernel
theorem d_Row_nextNumber_39 : decode b_Row_nextNumber 39 = .ok (.istore_n 2, 1) := by decide +kernel
theorem d_Row_nextNumber_40 : decode b_Row_nextNumber 40 = .ok (.iinc 3 1, 3) := by decide +kernel
theorem d_Row_nextNumber_43 : decode b_Row_nextNumber 43 = .ok (.goto (-17), 3) := by decide +kernel
theorem d_Row_nextNumber_46 : decode b_Row_nextNumber 46 = .ok (.iload_n 2, 1) := by decide +kernel
theorem d_Row_nextNumber_47 : decode b_Row_nextNumber 47 = .ok (.ireturn, 1) := by decide +kernel
theorem d_Unpacker_readHead_0 : decode b_Unpacker_readHead 0 = .ok (.aload_n 1, 1) := by decide +kernel
theorem d_Unpacker_readHead_1 : decode b_Unpacker_readHead 1 = .ok (.bipush 8, 2) := by decide +kernel
theorem d_Unpacker_readHead_3 : decode b_Unpacker_readHead 3 = .ok (.invokevirtual 85, 3) := by decide +kernel
theorem d_Unpacker_readHead_6 : decode b_Unpacker_readHead 6 = .ok (.istore_n 2, 1) := by decide +kernel
theorem d_Unpacker_readHead_7 : decode b_Unpacker_readHead 7 = .ok (.aload_n 1, 1) := by decide +kernel
theorem d_Unpacker_readHead_8 : decode b_Unpacker_readHead 8 = .ok (.bipush 8, 2) := by decide +kernel
theorem d_Unpacker_readHead_10 : decode b_Unpacker_readHead 10 = .ok (.invokevirtual 85, 3) := by decide +kernel
theorem d_Unpacker_readHead_13 : decode b_Unpacker_readHead 13 = .ok (.istore_n 3, 1) := by decide +kernel
theorem d_Unpacker_readHead_14 : decode b_Unpacker_readHead 14 = .ok (.iload_n 2, 1) := by decide +kernel
theorem d_Unpacker_readHead_15 : decode b_Unpacker_readHead 15 = .ok (.ifCond .lt 7, 3) := by decide +kernel
theorem d_Unpacker_readHead_18 : decode b_Unpacker_readHead 18 = .ok (.iload_n 3, 1) := by decide +kernel
theorem d_Unpacker_readHead_19 : decode b_Unpacker_readHead 19 = .ok (.ifCond .ge 5, 3) := by decide +kernel
theorem d_Unpacker_readHead_22 : decode b_Unpacker_readHead 22 = .ok (.iconst 2, 1) := by decide +kernel
theorem d_Unpacker_readHead_23 : decode b_Unpacker_readHead 23 = .ok (.ireturn, 1) := by decide +kernel
theorem d_Unpacker_readHead_24 : decode b_Unpacker_readHead 24 = .ok (.sipush 256, 3) := by decide +kernel
theorem d_Unpacker_readHead_27 : decode b_Unpacker_readHead 27 = .ok (.iload_n 2, 1) := by decide +kernel
theorem d_Unpacker_readHead_28 : decode b_Unpacker_readHead 28 = .ok (.imul, 1) := by decide +kernel
theorem d_Unpacker_readHead_29 : decode b_Unpacker_readHead 29 = .ok (.iload_n 3, 1) := by decide +kernel
theorem d_Unpacker_readHead_30 : decode b_Unpacker_readHead 30 = .ok (.iadd, 1) := by decide +kernel
theorem d_Unpacker_readHead_31 : decode b_Unpacker_readHead 31 = .ok (.bipush 31, 2) := by decide +kernel
theorem d_Unpacker_readHead_33 : decode b_Unpacker_readHead 33 = .ok (.irem, 1) := by decide +kernel
theorem d_Unpacker_readHead_34 : decode b_Unpacker_readHead 34 = .ok (.ifCond .ne 27, 3) := by decide +kernel
theorem d_Unpacker_readHead_37 : decode b_Unpacker_readHead 37 = .ok (.iload_n 2, 1) := by decide +kernel
theorem d_Unpacker_readHead_38 : decode b_Unpacker_readHead 38 = .ok (.bipush 15, 2) := by decide +kernel
theorem d_Unpacker_readHead_40 : decode b_Unpacker_readHead 40 = .ok (.iand, 1) := by decide +kernel
theorem d_Unpacker_readHead_41 : decode b_Unpacker_readHead 41 = .ok (.bipush 8, 2) := by decide +kernel
theorem d_Unpacker_readHead_43 : decode b_Unpacker_readHead 43 = .ok (.if_icmp .ne 18, 3) := by decide +kernel
theorem d_Unpacker_readHead_46 : decode b_Unpacker_readHead 46 = .ok (.iload_n 2, 1) := by decide +kernel
theorem d_Unpacker_readHead_47 : decode b_Unpacker_readHead 47 = .ok (.iconst 4, 1) := by decide +kernel
theorem d_Unpacker_readHead_48 : decode b_Unpacker_readHead 48 = .ok (.ishr, 1) := by decide +kernel
theorem d_Unpacker_readHead_49 : decode b_Unpacker_readHead 49 = .ok (.bipush 7, 2) := by decide +kernel
theorem d_Unpacker_readHead_51 : decode b_Unpacker_readHead 51 = .ok (.if_icmp .gt 10, 3) := by decide +kernel
theorem d_Unpacker_readHead_54 : decode b_Unpacker_readHead 54 = .ok (.iload_n 3, 1) := by decide +kernel
theorem d_Unpacker_readHead_55 : decode b_Unpacker_readHead 55 = .ok (.bipush 32, 2) := by decide +kernel
theorem d_Unpacker_readHead_57 : decode b_Unpacker_readHead 57 = .ok (.iand, 1) := by decide +kernel
theorem d_Unpacker_readHead_58 : decode b_Unpacker_readHead 58 = .ok (.ifCond .eq 5, 3) := by decide +kernel
theorem d_Unpacker_readHead_61 : decode b_Unpacker_readHead 61 = .ok (.iconst 1, 1) := by decide +kernel
theorem d_Unpacker_readHead_62 : decode b_Unpacker_readHead 62 = .ok (.ireturn, 1) := by decide +kernel
theorem d_Unpacker_readHead_63 : decode b_Unpacker_readHead 63 = .ok (.aload_n 0, 1) := by decide +kernel
theorem d_Unpacker_readHead_64 : decode b_Unpacker_readHead 64 = .ok (.sipush 256, 3) := by decide +kernel
theorem d_Unpacker_readHead_67 : decode b_Unpacker_readHead 67 = .ok (.iload_n 2, 1) := by decide +kernel
theorem d_Unpacker_readHead_68 : decode b_Unpacker_readHead 68 = .ok (.iconst 4, 1) := by decide +kernel
theorem d_Unpacker_readHead_69 : decode b_Unpacker_readHead 69 = .ok (.ishr, 1) := by decide +kernel
theorem d_Unpacker_readHead_70 : decode b_Unpacker_readHead 70 = .ok (.ishl, 1) := by decide +kernel
theorem d_Unpacker_readHead_71 : decode b_Unpacker_readHead 71 = .ok (.putfield 34, 3) := by decide +kernel
theorem d_Unpacker_readHead_74 : decode b_Unpacker_readHead 74 = .ok (.iconst 0, 1) := by decide +kernel
theorem d_Unpacker_readHead_75 : decode b_Unpacker_readHead 75 = .ok (.ireturn, 1) := by decide +kernel
theorem d_ReadCodes_fit_0 : decode b_ReadCodes_fit 0 = .ok (.iconst 0, 1) := by decide +kernel
theorem d_ReadCodes_fit_1 : decode b_ReadCodes_fit 1 = .ok (.istore_n 1, 1) := by decide +kernel
theorem d_ReadCodes_fit_2 : decode b_ReadCodes_fit 2 = .ok (.iconst 1, 1) := by decide +kernel
theorem d_ReadCodes_fit_3 : decode b_ReadCodes_fit 3 = .ok (.istore_n 2, 1) := by decide +kernel
theorem d_ReadCodes_fit_4 : decode b_ReadCodes_fit 4 = .ok (.iload_n 2, 1) := by decide +kernel
theorem d_ReadCodes_fit_5 : decode b_ReadCodes_fit 5 = .ok (.bipush 15, 2) := by decide +kernel
theorem d_ReadCodes_fit_7 : decode b_ReadCodes_fit 7 = .ok (.if_icmp .gt 23, 3) := by decide +kernel
theorem d_ReadCodes_fit_10 : decode b_ReadCodes_fit 10 = .ok (.iload_n 1, 1) := by decide +kernel
theorem d_ReadCodes_fit_11 : decode b_ReadCodes_fit 11 = .ok (.aload_n 0, 1) := by decide +kernel
theorem d_ReadCodes_fit_12 : decode b_ReadCodes_fit 12 = .ok (.getfield 9, 3) := by decide +kernel
theorem d_ReadCodes_fit_15 : decode b_ReadCodes_fit 15 = .ok (.iload_n 2, 1) := by decide +kernel
theorem d_ReadCodes_fit_16 : decode b_ReadCodes_fit 16 = .ok (.iaload, 1) := by decide +kernel
theorem d_ReadCodes_fit_17 : decode b_ReadCodes_fit 17 = .ok (.bipush 15, 2) := by decide +kernel
theorem d_ReadCodes_fit_19 : decode b_ReadCodes_fit 19 = .ok (.iload_n 2, 1) := by decide +kernel
theorem d_ReadCodes_fit_20 : decode b_ReadCodes_fit 20 = .ok (.isub, 1) := by decide +kernel
theorem d_ReadCodes_fit_21 : decode b_ReadCodes_fit 21 = .ok (.ishl, 1) := by decide +kernel
theorem d_ReadCodes_fit_22 : decode b_ReadCodes_fit 22 = .ok (.iadd, 1) := by decide +kernel
theorem d_ReadCodes_fit_23 : decode b_ReadCodes_fit 23 = .ok (.istore_n 1, 1) := by decide +kernel
theorem d_ReadCodes_fit_24 : decode b_ReadCodes_fit 24 = .ok (.iinc 2 1, 3) := by decide +kernel
theorem d_ReadCodes_fit_27 : decode b_ReadCodes_fit 27 = .ok (.goto (-23), 3) := by decide +kernel
theorem d_ReadCodes_fit_30 : decode b_ReadCodes_fit 30 = .ok (.iload_n 1, 1) := by decide +kernel
theorem d_ReadCodes_fit_31 : decode b_ReadCodes_fit 31 = .ok (.ldc 35, 2) := by decide +kernel
theorem d_ReadCodes_fit_33 : decode b_ReadCodes_fit 33 = .ok (.if_icmp .eq 19, 3) := by decide +kernel
theorem d_ReadCodes_fit_36 : decode b_ReadCodes_fit 36 = .ok (.aload_n 0, 1) := by decide +kernel
theorem d_ReadCodes_fit_37 : decode b_ReadCodes_fit 37 = .ok (.getfield 18, 3) := by decide +kernel
theorem d_ReadCodes_fit_40 : decode b_ReadCodes_fit 40 = .ok (.iconst 1, 1) := by decide +kernel
theorem d_ReadCodes_fit_41 : decode b_ReadCodes_fit 41 = .ok (.if_icmp .ne 15, 3) := by decide +kernel
theorem d_ReadCodes_fit_44 : decode b_ReadCodes_fit 44 = .ok (.aload_n 0, 1) := by decide +kernel
theorem d_ReadCodes_fit_45 : decode b_ReadCodes_fit 45 = .ok (.getfield 22, 3) := by decide +kernel
theorem d_ReadCodes_fit_48 : decode b_ReadCodes_fit 48 = .ok (.iconst 1, 1) := by decide +kernel
theorem d_ReadCodes_fit_49 : decode b_ReadCodes_fit 49 = .ok (.if_icmp .ne 7, 3) := by decide +kernel
theorem d_ReadCodes_fit_52 : decode b_ReadCodes_fit 52 = .ok (.iconst 1, 1) := by decide +kernel
theorem d_ReadCodes_fit_53 : decode b_ReadCodes_fit 53 = .ok (.goto 4, 3) := by decide +kernel
theorem d_ReadCodes_fit_56 : decode b_ReadCodes_fit 56 = .ok (.iconst 0, 1) := by decide +kernel
theorem d_ReadCodes_fit_57 : decode b_ReadCodes_fit 57 = .ok (.ireturn, 1) := by decide +kernel
theorem d_Unpacker_readLengthCodes_0 : decode b_Unpacker_readLengthCodes 0 = .ok (.aload_n 1, 1) := by decide +kernel
theorem d_Unpacker_readLengthCodes_1 : decode b_Unpacker_readLengthCodes 1 = .ok (.iconst 4, 1) := by decide +kernel
theorem d_Unpacker_readLengthCodes_2 : decode b_Unpacker_readLengthCodes 2 = .ok (.invokevirtual 85, 3) := by decide +kernel
theorem d_Unpacker_readLengthCodes_5 : decode b_Unpacker_readLengthCodes 5 = .ok (.istore_n 2, 1) := by decide +kernel
theorem d_Unpacker_readLengthCodes_6 : decode b_Unpacker_readLengthCodes 6 = .ok (.iload_n 2, 1) := by decide +kernel
theorem d_Unpacker_readLengthCodes_7 : decode b_Unpacker_readLengthCodes 7 = .ok (.ifCond .ge 5, 3) := by decide +kernel
theorem d_Unpacker_readLengthCodes_10 : decode b_Unpacker_readLengthCodes 10 = .ok (.iconst 2, 1) := by decide +kernel
theorem d_Unpacker_readLengthCodes_11 : decode b_Unpacker_readLengthCodes 11 = .ok (.ireturn, 1) := by decide +kernel
theorem d_Unpacker_readLengthCodes_12 : decode b_Unpacker_readLengthCodes 12 = .ok (.aload_n 0, 1) := by decide +kernel
theorem d_Unpacker_readLengthCodes_13 : decode b_Unpacker_readLengthCodes 13 = .ok (.getfield 30, 3) := by decide +kernel
theorem d_Unpacker_readLengthCodes_16 : decode b_Unpacker_readLengthCodes 16 = .ok (.iconst 0, 1) := by decide +kernel
theorem d_Unpacker_readLengthCodes_17 : decode b_Unpacker_readLengthCodes 17 = .ok (.invokestatic 59, 3) := by decide +kernel
theorem d_Unpacker_readLengthCodes_20 : decode b_Unpacker_readLengthCodes 20 = .ok (.iconst 0, 1) := by decide +kernel
theorem d_Unpacker_readLengthCodes_21 : decode b_Unpacker_readLengthCodes 21 = .ok (.istore_n 3, 1) := by decide +kernel
theorem d_Unpacker_readLengthCodes_22 : decode b_Unpacker_readLengthCodes 22 = .ok (.iload_n 3, 1) := by decide +kernel
theorem d_Unpacker_readLengthCodes_23 : decode b_Unpacker_readLengthCodes 23 = .ok (.iload_n 2, 1) := by decide +kernel
theorem d_Unpacker_readLengthCodes_24 : decode b_Unpacker_readLengthCodes 24 = .ok (.iconst 4, 1) := by decide +kernel
theorem d_Unpacker_readLengthCodes_25 : decode b_Unpacker_readLengthCodes 25 = .ok (.iadd, 1) := by decide +kernel
theorem d_Unpacker_readLengthCodes_26 : decode b_Unpacker_readLengthCodes 26 = .ok (.if_icmp .ge 41, 3) := by decide +kernel
theorem d_Unpacker_readLengthCodes_29 : decode b_Unpacker_readLengthCodes 29 = .ok (.iload_n 3, 1) := by decide +kernel
theorem d_Unpacker_readLengthCodes_30 : decode b_Unpacker_readLengthCodes 30 = .ok (.bipush 19, 2) := by decide +kernel
theorem d_Unpacker_readLengthCodes_32 : decode b_Unpacker_readLengthCodes 32 = .ok (.if_icmp .ge 35, 3) := by decide +kernel
theorem d_Unpacker_readLengthCodes_35 : decode b_Unpacker_readLengthCodes 35 = .ok (.aload_n 1, 1) := by decide +kernel
theorem d_Unpacker_readLengthCodes_36 : decode b_Unpacker_readLengthCodes 36 = .ok (.iconst 3, 1) := by decide +kernel
theorem d_Unpacker_readLengthCodes_37 : decode b_Unpacker_readLengthCodes 37 = .ok (.invokevirtual 85, 3) := by decide +kernel
theorem d_Unpacker_readLengthCodes_40 : decode b_Unpacker_readLengthCodes 40 = .ok (.istore 4, 2) := by decide +kernel
theorem d_Unpacker_readLengthCodes_42 : decode b_Unpacker_readLengthCodes 42 = .ok (.iload 4, 2) := by decide +kernel
theorem d_Unpacker_readLengthCodes_44 : decode b_Unpacker_readLengthCodes 44 = .ok (.ifCond .ge 5, 3) := by decide +kernel
theorem d_Unpacker_readLengthCodes_47 : decode b_Unpacker_readLengthCodes 47 = .ok (.iconst 2, 1) := by decide +kernel
theorem d_Unpacker_readLengthCodes_48 : decode b_Unpacker_readLengthCodes 48 = .ok (.ireturn, 1) := by decide +kernel
theorem d_Unpacker_readLengthCodes_49 : decode b_Unpacker_readLengthCodes 49 = .ok (.aload_n 0, 1) := by decide +kernel
theorem d_Unpacker_readLengthCodes_50 : decode b_Unpacker_readLengthCodes 50 = .ok (.getfield 30, 3) := by decide +kernel
theorem d_Unpacker_readLengthCodes_53 : decode b_Unpacker_readLengthCodes 53 = .ok (.getstatic 130, 3) := by decide +kernel
theorem d_Unpacker_readLengthCodes_56 : decode b_Unpacker_readLengthCodes 56 = .ok (.iload_n 3, 1) := by decide +kernel
theorem d_Unpacker_readLengthCodes_57 : decode b_Unpacker_readLengthCodes 57 = .ok (.iaload, 1) := by decide +kernel
theorem d_Unpacker_readLengthCodes_58 : decode b_Unpacker_readLengthCodes 58 = .ok (.iload 4, 2) := by decide +kernel
theorem d_Unpacker_readLengthCodes_60 : decode b_Unpacker_readLengthCodes 60 = .ok (.iastore, 1) := by decide +kernel
theorem d_Unpacker_readLengthCodes_61 : decode b_Unpacker_readLengthCodes 61 = .ok (.iinc 3 1, 3) := by decide +kernel
theorem d_Unpacker_readLengthCodes_64 : decode b_Unpacker_readLengthCodes 64 = .ok (.goto (-42), 3) := by decide +kernel
theorem d_Unpacker_readLengthCodes_67 : decode b_Unpacker_readLengthCodes 67 = .ok (.aload_n 0, 1) := by decide +kernel
theorem d_Unpacker_readLengthCodes_68 : decode b_Unpacker_readLengthCodes 68 = .ok (.getfield 27, 3) := by decide +kernel
theorem d_Unpacker_readLengthCodes_71 : decode b_Unpacker_readLengthCodes 71 = .ok (.aload_n 0, 1) := by decide +kernel
theorem d_Unpacker_readLengthCodes_72 : decode b_Unpacker_readLengthCodes 72 = .ok (.getfield 30, 3) := by decide +kernel
theorem d_Unpacker_readLengthCodes_75 : decode b_Unpacker_readLengthCodes 75 = .ok (.iconst 0, 1) := by decide +kernel
theorem d_Unpacker_readLengthCodes_76 : decode b_Unpacker_readLengthCodes 76 = .ok (.bipush 19, 2) := by decide +kernel
theorem d_Unpacker_readLengthCodes_78 : decode b_Unpacker_readLengthCodes 78 = .ok (.invokevirtual 55, 3) := by decide +kernel
theorem d_Unpacker_readLengthCodes_81 : decode b_Unpacker_readLengthCodes 81 = .ok (.aload_n 0, 1) := by decide +kernel
theorem d_Unpacker_readLengthCodes_82 : decode b_Unpacker_readLengthCodes 82 = .ok (.getfield 27, 3) := by decide +kernel
theorem d_Unpacker_readLengthCodes_85 : decode b_Unpacker_readLengthCodes 85 = .ok (.invokevirtual 123, 3) := by decide +kernel
theorem d_Unpacker_readLengthCodes_88 : decode b_Unpacker_readLengthCodes 88 = .ok (.ifCond .eq 7, 3) := by decide +kernel
theorem d_Unpacker_readLengthCodes_91 : decode b_Unpacker_readLengthCodes 91 = .ok (.iconst 0, 1) := by decide +kernel
theorem d_Unpacker_readLengthCodes_92 : decode b_Unpacker_readLengthCodes 92 = .ok (.goto 5, 3) := by decide +kernel
theorem d_Unpacker_readLengthCodes_95 : decode b_Unpacker_readLengthCodes 95 = .ok (.bipush 7, 2) := by decide +kernel
theorem d_Unpacker_readLengthCodes_97 : decode b_Unpacker_readLengthCodes 97 = .ok (.ireturn, 1) := by decide +kernel
theorem d_ReadCodes_next_0 : decode b_ReadCodes_next 0 = .ok (.iconst 0, 1) := by decide +kernel
theorem d_ReadCodes_next_1 : decode b_ReadCodes_next 1 = .ok (.istore_n 2, 1) := by decide +kernel
theorem d_ReadCodes_next_2 : decode b_ReadCodes_next 2 = .ok (.iconst 0, 1) := by decide +kernel
theorem d_ReadCodes_next_3 : decode b_ReadCodes_next 3 = .ok (.istore_n 3, 1) := by decide +kernel
theorem d_ReadCodes_next_4 : decode b_ReadCodes_next 4 = .ok (.iconst 0, 1) := by decide +kernel
theorem d_ReadCodes_next_5 : decode b_ReadCodes_next 5 = .ok (.istore 4, 2) := by decide +kernel
