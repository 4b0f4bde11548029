theorem d_ReadCodes_next_7 : decode b_ReadCodes_next 7 = .ok (.iconst 1, 1) := by decide +kernel
theorem d_ReadCodes_next_8 : decode b_ReadCodes_next 8 = .ok (.istore 5, 2) := by decide +kernel
theorem d_ReadCodes_next_10 : decode b_ReadCodes_next 10 = .ok (.iload 5, 2) := by decide +kernel
theorem d_ReadCodes_next_12 : decode b_ReadCodes_next 12 = .ok (.aload_n 0, 1) := by decide +kernel
theorem d_ReadCodes_next_13 : decode b_ReadCodes_next 13 = .ok (.getfield 22, 3) := by decide +kernel
theorem d_ReadCodes_next_16 : decode b_ReadCodes_next 16 = .ok (.if_icmp .gt 101, 3) := by decide +kernel
theorem d_ReadCodes_next_19 : decode b_ReadCodes_next 19 = .ok (.aload_n 1, 1) := by decide +kernel
theorem d_ReadCodes_next_20 : decode b_ReadCodes_next 20 = .ok (.invokevirtual 36, 3) := by decide +kernel
theorem d_ReadCodes_next_23 : decode b_ReadCodes_next 23 = .ok (.istore 6, 2) := by decide +kernel
theorem d_ReadCodes_next_25 : decode b_ReadCodes_next 25 = .ok (.iload 6, 2) := by decide +kernel
theorem d_ReadCodes_next_27 : decode b_ReadCodes_next 27 = .ok (.ifCond .ge 6, 3) := by decide +kernel
theorem d_ReadCodes_next_30 : decode b_ReadCodes_next 30 = .ok (.iload 6, 2) := by decide +kernel
theorem d_ReadCodes_next_32 : decode b_ReadCodes_next 32 = .ok (.ireturn, 1) := by decide +kernel
theorem d_ReadCodes_next_33 : decode b_ReadCodes_next 33 = .ok (.iconst 2, 1) := by decide +kernel
theorem d_ReadCodes_next_34 : decode b_ReadCodes_next 34 = .ok (.iload_n 2, 1) := by decide +kernel
theorem d_ReadCodes_next_35 : decode b_ReadCodes_next 35 = .ok (.imul, 1) := by decide +kernel
theorem d_ReadCodes_next_36 : decode b_ReadCodes_next 36 = .ok (.iload 6, 2) := by decide +kernel
theorem d_ReadCodes_next_38 : decode b_ReadCodes_next 38 = .ok (.iadd, 1) := by decide +kernel
theorem d_ReadCodes_next_39 : decode b_ReadCodes_next 39 = .ok (.istore_n 2, 1) := by decide +kernel
theorem d_ReadCodes_next_40 : decode b_ReadCodes_next 40 = .ok (.iconst 2, 1) := by decide +kernel
theorem d_ReadCodes_next_41 : decode b_ReadCodes_next 41 = .ok (.iload_n 3, 1) := by decide +kernel
theorem d_ReadCodes_next_42 : decode b_ReadCodes_next 42 = .ok (.imul, 1) := by decide +kernel
theorem d_ReadCodes_next_43 : decode b_ReadCodes_next 43 = .ok (.istore_n 3, 1) := by decide +kernel
theorem d_ReadCodes_next_44 : decode b_ReadCodes_next 44 = .ok (.iload_n 2, 1) := by decide +kernel
theorem d_ReadCodes_next_45 : decode b_ReadCodes_next 45 = .ok (.iload_n 3, 1) := by decide +kernel
theorem d_ReadCodes_next_46 : decode b_ReadCodes_next 46 = .ok (.isub, 1) := by decide +kernel
theorem d_ReadCodes_next_47 : decode b_ReadCodes_next 47 = .ok (.istore 7, 2) := by decide +kernel
theorem d_ReadCodes_next_49 : decode b_ReadCodes_next 49 = .ok (.iload 7, 2) := by decide +kernel
theorem d_ReadCodes_next_51 : decode b_ReadCodes_next 51 = .ok (.ifCond .lt 38, 3) := by decide +kernel
theorem d_ReadCodes_next_54 : decode b_ReadCodes_next 54 = .ok (.iload 7, 2) := by decide +kernel
theorem d_ReadCodes_next_56 : decode b_ReadCodes_next 56 = .ok (.aload_n 0, 1) := by decide +kernel
theorem d_ReadCodes_next_57 : decode b_ReadCodes_next 57 = .ok (.getfield 9, 3) := by decide +kernel
theorem d_ReadCodes_next_60 : decode b_ReadCodes_next 60 = .ok (.iload 5, 2) := by decide +kernel
theorem d_ReadCodes_next_62 : decode b_ReadCodes_next 62 = .ok (.iaload, 1) := by decide +kernel
theorem d_ReadCodes_next_63 : decode b_ReadCodes_next 63 = .ok (.if_icmp .ge 26, 3) := by decide +kernel
theorem d_ReadCodes_next_66 : decode b_ReadCodes_next 66 = .ok (.iload 4, 2) := by decide +kernel
theorem d_ReadCodes_next_68 : decode b_ReadCodes_next 68 = .ok (.iload 7, 2) := by decide +kernel
theorem d_ReadCodes_next_70 : decode b_ReadCodes_next 70 = .ok (.iadd, 1) := by decide +kernel
theorem d_ReadCodes_next_71 : decode b_ReadCodes_next 71 = .ok (.aload_n 0, 1) := by decide +kernel
theorem d_ReadCodes_next_72 : decode b_ReadCodes_next 72 = .ok (.getfield 18, 3) := by decide +kernel
theorem d_ReadCodes_next_75 : decode b_ReadCodes_next 75 = .ok (.if_icmp .ge 14, 3) := by decide +kernel
theorem d_ReadCodes_next_78 : decode b_ReadCodes_next 78 = .ok (.aload_n 0, 1) := by decide +kernel
theorem d_ReadCodes_next_79 : decode b_ReadCodes_next 79 = .ok (.getfield 15, 3) := by decide +kernel
theorem d_ReadCodes_next_82 : decode b_ReadCodes_next 82 = .ok (.iload 4, 2) := by decide +kernel
theorem d_ReadCodes_next_84 : decode b_ReadCodes_next 84 = .ok (.iload 7, 2) := by decide +kernel
theorem d_ReadCodes_next_86 : decode b_ReadCodes_next 86 = .ok (.iadd, 1) := by decide +kernel
theorem d_ReadCodes_next_87 : decode b_ReadCodes_next 87 = .ok (.iaload, 1) := by decide +kernel
theorem d_ReadCodes_next_88 : decode b_ReadCodes_next 88 = .ok (.ireturn, 1) := by decide +kernel
theorem d_ReadCodes_next_89 : decode b_ReadCodes_next 89 = .ok (.iload_n 3, 1) := by decide +kernel
theorem d_ReadCodes_next_90 : decode b_ReadCodes_next 90 = .ok (.aload_n 0, 1) := by decide +kernel
theorem d_ReadCodes_next_91 : decode b_ReadCodes_next 91 = .ok (.getfield 9, 3) := by decide +kernel
theorem d_ReadCodes_next_94 : decode b_ReadCodes_next 94 = .ok (.iload 5, 2) := by decide +kernel
theorem d_ReadCodes_next_96 : decode b_ReadCodes_next 96 = .ok (.iaload, 1) := by decide +kernel
theorem d_ReadCodes_next_97 : decode b_ReadCodes_next 97 = .ok (.iadd, 1) := by decide +kernel
theorem d_ReadCodes_next_98 : decode b_ReadCodes_next 98 = .ok (.istore_n 3, 1) := by decide +kernel
theorem d_ReadCodes_next_99 : decode b_ReadCodes_next 99 = .ok (.iload 4, 2) := by decide +kernel
theorem d_ReadCodes_next_101 : decode b_ReadCodes_next 101 = .ok (.aload_n 0, 1) := by decide +kernel
theorem d_ReadCodes_next_102 : decode b_ReadCodes_next 102 = .ok (.getfield 9, 3) := by decide +kernel
theorem d_ReadCodes_next_105 : decode b_ReadCodes_next 105 = .ok (.iload 5, 2) := by decide +kernel
theorem d_ReadCodes_next_107 : decode b_ReadCodes_next 107 = .ok (.iaload, 1) := by decide +kernel
theorem d_ReadCodes_next_108 : decode b_ReadCodes_next 108 = .ok (.iadd, 1) := by decide +kernel
theorem d_ReadCodes_next_109 : decode b_ReadCodes_next 109 = .ok (.istore 4, 2) := by decide +kernel
theorem d_ReadCodes_next_111 : decode b_ReadCodes_next 111 = .ok (.iinc 5 1, 3) := by decide +kernel
theorem d_ReadCodes_next_114 : decode b_ReadCodes_next 114 = .ok (.goto (-104), 3) := by decide +kernel
theorem d_ReadCodes_next_117 : decode b_ReadCodes_next 117 = .ok (.bipush (-8), 2) := by decide +kernel
theorem d_ReadCodes_next_119 : decode b_ReadCodes_next 119 = .ok (.ireturn, 1) := by decide +kernel
theorem d_Ar_rangeCheck_0 : decode b_Ar_rangeCheck 0 = .ok (.iload_n 1, 1) := by decide +kernel
theorem d_Ar_rangeCheck_1 : decode b_Ar_rangeCheck 1 = .ok (.iload_n 2, 1) := by decide +kernel
theorem d_Ar_rangeCheck_2 : decode b_Ar_rangeCheck 2 = .ok (.if_icmp .le 44, 3) := by decide +kernel
theorem d_Ar_rangeCheck_5 : decode b_Ar_rangeCheck 5 = .ok (.new 43, 3) := by decide +kernel
theorem d_Ar_rangeCheck_8 : decode b_Ar_rangeCheck 8 = .ok (.dup, 1) := by decide +kernel
theorem d_Ar_rangeCheck_9 : decode b_Ar_rangeCheck 9 = .ok (.new 45, 3) := by decide +kernel
theorem d_Ar_rangeCheck_12 : decode b_Ar_rangeCheck 12 = .ok (.dup, 1) := by decide +kernel
theorem d_Ar_rangeCheck_13 : decode b_Ar_rangeCheck 13 = .ok (.invokespecial 47, 3) := by decide +kernel
theorem d_Ar_rangeCheck_16 : decode b_Ar_rangeCheck 16 = .ok (.ldc 48, 2) := by decide +kernel
theorem d_Ar_rangeCheck_18 : decode b_Ar_rangeCheck 18 = .ok (.invokevirtual 50, 3) := by decide +kernel
theorem d_Ar_rangeCheck_21 : decode b_Ar_rangeCheck 21 = .ok (.iload_n 1, 1) := by decide +kernel
theorem d_Ar_rangeCheck_22 : decode b_Ar_rangeCheck 22 = .ok (.invokevirtual 54, 3) := by decide +kernel
theorem d_Ar_rangeCheck_25 : decode b_Ar_rangeCheck 25 = .ok (.ldc 57, 2) := by decide +kernel
theorem d_Ar_rangeCheck_27 : decode b_Ar_rangeCheck 27 = .ok (.invokevirtual 50, 3) := by decide +kernel
theorem d_Ar_rangeCheck_30 : decode b_Ar_rangeCheck 30 = .ok (.iload_n 2, 1) := by decide +kernel
theorem d_Ar_rangeCheck_31 : decode b_Ar_rangeCheck 31 = .ok (.invokevirtual 54, 3) := by decide +kernel
theorem d_Ar_rangeCheck_34 : decode b_Ar_rangeCheck 34 = .ok (.ldc 59, 2) := by decide +kernel
theorem d_Ar_rangeCheck_36 : decode b_Ar_rangeCheck 36 = .ok (.invokevirtual 50, 3) := by decide +kernel
theorem d_Ar_rangeCheck_39 : decode b_Ar_rangeCheck 39 = .ok (.invokevirtual 61, 3) := by decide +kernel
theorem d_Ar_rangeCheck_42 : decode b_Ar_rangeCheck 42 = .ok (.invokespecial 65, 3) := by decide +kernel
theorem d_Ar_rangeCheck_45 : decode b_Ar_rangeCheck 45 = .ok (.athrow, 1) := by decide +kernel
theorem d_Ar_rangeCheck_46 : decode b_Ar_rangeCheck 46 = .ok (.iload_n 1, 1) := by decide +kernel
theorem d_Ar_rangeCheck_47 : decode b_Ar_rangeCheck 47 = .ok (.ifCond .ge 12, 3) := by decide +kernel
theorem d_Ar_rangeCheck_50 : decode b_Ar_rangeCheck 50 = .ok (.new 68, 3) := by decide +kernel
theorem d_Ar_rangeCheck_53 : decode b_Ar_rangeCheck 53 = .ok (.dup, 1) := by decide +kernel
theorem d_Ar_rangeCheck_54 : decode b_Ar_rangeCheck 54 = .ok (.iload_n 1, 1) := by decide +kernel
theorem d_Ar_rangeCheck_55 : decode b_Ar_rangeCheck 55 = .ok (.invokespecial 70, 3) := by decide +kernel
theorem d_Ar_rangeCheck_58 : decode b_Ar_rangeCheck 58 = .ok (.athrow, 1) := by decide +kernel
theorem d_Ar_rangeCheck_59 : decode b_Ar_rangeCheck 59 = .ok (.iload_n 2, 1) := by decide +kernel
theorem d_Ar_rangeCheck_60 : decode b_Ar_rangeCheck 60 = .ok (.iload_n 0, 1) := by decide +kernel
theorem d_Ar_rangeCheck_61 : decode b_Ar_rangeCheck 61 = .ok (.if_icmp .le 12, 3) := by decide +kernel
theorem d_Ar_rangeCheck_64 : decode b_Ar_rangeCheck 64 = .ok (.new 68, 3) := by decide +kernel
theorem d_Ar_rangeCheck_67 : decode b_Ar_rangeCheck 67 = .ok (.dup, 1) := by decide +kernel
theorem d_Ar_rangeCheck_68 : decode b_Ar_rangeCheck 68 = .ok (.iload_n 2, 1) := by decide +kernel
theorem d_Ar_rangeCheck_69 : decode b_Ar_rangeCheck 69 = .ok (.invokespecial 70, 3) := by decide +kernel
theorem d_Ar_rangeCheck_72 : decode b_Ar_rangeCheck 72 = .ok (.athrow, 1) := by decide +kernel
theorem d_Ar_rangeCheck_73 : decode b_Ar_rangeCheck 73 = .ok (.return_, 1) := by decide +kernel
theorem d_Ar_fill4_0 : decode b_Ar_fill4 0 = .ok (.aload_n 0, 1) := by decide +kernel
theorem d_Ar_fill4_1 : decode b_Ar_fill4 1 = .ok (.arraylength, 1) := by decide +kernel
theorem d_Ar_fill4_2 : decode b_Ar_fill4 2 = .ok (.iload_n 1, 1) := by decide +kernel
theorem d_Ar_fill4_3 : decode b_Ar_fill4 3 = .ok (.iload_n 2, 1) := by decide +kernel
theorem d_Ar_fill4_4 : decode b_Ar_fill4 4 = .ok (.invokestatic 13, 3) := by decide +kernel
theorem d_Ar_fill4_7 : decode b_Ar_fill4 7 = .ok (.iload_n 1, 1) := by decide +kernel
theorem d_Ar_fill4_8 : decode b_Ar_fill4 8 = .ok (.istore 4, 2) := by decide +kernel
theorem d_Ar_fill4_10 : decode b_Ar_fill4 10 = .ok (.iload 4, 2) := by decide +kernel
theorem d_Ar_fill4_12 : decode b_Ar_fill4 12 = .ok (.iload_n 2, 1) := by decide +kernel
theorem d_Ar_fill4_13 : decode b_Ar_fill4 13 = .ok (.if_icmp .ge 14, 3) := by decide +kernel
theorem d_Ar_fill4_16 : decode b_Ar_fill4 16 = .ok (.aload_n 0, 1) := by decide +kernel
theorem d_Ar_fill4_17 : decode b_Ar_fill4 17 = .ok (.iload 4, 2) := by decide +kernel
theorem d_Ar_fill4_19 : decode b_Ar_fill4 19 = .ok (.iload_n 3, 1) := by decide +kernel
theorem d_Ar_fill4_20 : decode b_Ar_fill4 20 = .ok (.iastore, 1) := by decide +kernel
theorem d_Ar_fill4_21 : decode b_Ar_fill4 21 = .ok (.iinc 4 1, 3) := by decide +kernel
theorem d_Ar_fill4_24 : decode b_Ar_fill4 24 = .ok (.goto (-14), 3) := by decide +kernel
theorem d_Ar_fill4_27 : decode b_Ar_fill4 27 = .ok (.return_, 1) := by decide +kernel
theorem d_Unpacker_readLengths_0 : decode b_Unpacker_readLengths 0 = .ok (.iconst 0, 1) := by decide +kernel
theorem d_Unpacker_readLengths_1 : decode b_Unpacker_readLengths 1 = .ok (.istore_n 3, 1) := by decide +kernel
theorem d_Unpacker_readLengths_2 : decode b_Unpacker_readLengths 2 = .ok (.iconst 0, 1) := by decide +kernel
theorem d_Unpacker_readLengths_3 : decode b_Unpacker_readLengths 3 = .ok (.istore 4, 2) := by decide +kernel
theorem d_Unpacker_readLengths_5 : decode b_Unpacker_readLengths 5 = .ok (.iload 4, 2) := by decide +kernel
theorem d_Unpacker_readLengths_7 : decode b_Unpacker_readLengths 7 = .ok (.iload_n 2, 1) := by decide +kernel
theorem d_Unpacker_readLengths_8 : decode b_Unpacker_readLengths 8 = .ok (.if_icmp .ge 149, 3) := by decide +kernel
theorem d_Unpacker_readLengths_11 : decode b_Unpacker_readLengths 11 = .ok (.iload_n 3, 1) := by decide +kernel
theorem d_Unpacker_readLengths_12 : decode b_Unpacker_readLengths 12 = .ok (.iload_n 2, 1) := by decide +kernel
theorem d_Unpacker_readLengths_13 : decode b_Unpacker_readLengths 13 = .ok (.if_icmp .ge 144, 3) := by decide +kernel
theorem d_Unpacker_readLengths_16 : decode b_Unpacker_readLengths 16 = .ok (.aload_n 0, 1) := by decide +kernel
theorem d_Unpacker_readLengths_17 : decode b_Unpacker_readLengths 17 = .ok (.getfield 27, 3) := by decide +kernel
theorem d_Unpacker_readLengths_20 : decode b_Unpacker_readLengths 20 = .ok (.aload_n 1, 1) := by decide +kernel
theorem d_Unpacker_readLengths_21 : decode b_Unpacker_readLengths 21 = .ok (.invokevirtual 133, 3) := by decide +kernel
theorem d_Unpacker_readLengths_24 : decode b_Unpacker_readLengths 24 = .ok (.istore 5, 2) := by decide +kernel
theorem d_Unpacker_readLengths_26 : decode b_Unpacker_readLengths 26 = .ok (.iload 5, 2) := by decide +kernel
theorem d_Unpacker_readLengths_28 : decode b_Unpacker_readLengths 28 = .ok (.ifCond .ge 7, 3) := by decide +kernel
theorem d_Unpacker_readLengths_31 : decode b_Unpacker_readLengths 31 = .ok (.iload 5, 2) := by decide +kernel
theorem d_Unpacker_readLengths_33 : decode b_Unpacker_readLengths 33 = .ok (.ineg, 1) := by decide +kernel
theorem d_Unpacker_readLengths_34 : decode b_Unpacker_readLengths 34 = .ok (.ireturn, 1) := by decide +kernel
theorem d_Unpacker_readLengths_35 : decode b_Unpacker_readLengths 35 = .ok (.iload 5, 2) := by decide +kernel
theorem d_Unpacker_readLengths_37 : decode b_Unpacker_readLengths 37 = .ok (.bipush 16, 2) := by decide +kernel
theorem d_Unpacker_readLengths_39 : decode b_Unpacker_readLengths 39 = .ok (.if_icmp .ne 10, 3) := by decide +kernel
theorem d_Unpacker_readLengths_42 : decode b_Unpacker_readLengths 42 = .ok (.iload_n 3, 1) := by decide +kernel
theorem d_Unpacker_readLengths_43 : decode b_Unpacker_readLengths 43 = .ok (.ifCond .ne 6, 3) := by decide +kernel
theorem d_Unpacker_readLengths_46 : decode b_Unpacker_readLengths 46 = .ok (.bipush 6, 2) := by decide +kernel
theorem d_Unpacker_readLengths_48 : decode b_Unpacker_readLengths 48 = .ok (.ireturn, 1) := by decide +kernel
theorem d_Unpacker_readLengths_49 : decode b_Unpacker_readLengths 49 = .ok (.aload_n 1, 1) := by decide +kernel
theorem d_Unpacker_readLengths_50 : decode b_Unpacker_readLengths 50 = .ok (.iload 5, 2) := by decide +kernel
theorem d_Unpacker_readLengths_52 : decode b_Unpacker_readLengths 52 = .ok (.invokestatic 136, 3) := by decide +kernel
theorem d_Unpacker_readLengths_55 : decode b_Unpacker_readLengths 55 = .ok (.invokevirtual 85, 3) := by decide +kernel
theorem d_Unpacker_readLengths_58 : decode b_Unpacker_readLengths 58 = .ok (.istore 6, 2) := by decide +kernel
theorem d_Unpacker_readLengths_60 : decode b_Unpacker_readLengths 60 = .ok (.iload 6, 2) := by decide +kernel
theorem d_Unpacker_readLengths_62 : decode b_Unpacker_readLengths 62 = .ok (.ifCond .ge 5, 3) := by decide +kernel
theorem d_Unpacker_readLengths_65 : decode b_Unpacker_readLengths 65 = .ok (.iconst 2, 1) := by decide +kernel
theorem d_Unpacker_readLengths_66 : decode b_Unpacker_readLengths 66 = .ok (.ireturn, 1) := by decide +kernel
theorem d_Unpacker_readLengths_67 : decode b_Unpacker_readLengths 67 = .ok (.iload 5, 2) := by decide +kernel
theorem d_Unpacker_readLengths_69 : decode b_Unpacker_readLengths 69 = .ok (.bipush 16, 2) := by decide +kernel
theorem d_Unpacker_readLengths_71 : decode b_Unpacker_readLengths 71 = .ok (.if_icmp .ge 7, 3) := by decide +kernel
theorem d_Unpacker_readLengths_74 : decode b_Unpacker_readLengths 74 = .ok (.iconst 1, 1) := by decide +kernel
theorem d_Unpacker_readLengths_75 : decode b_Unpacker_readLengths 75 = .ok (.goto 11, 3) := by decide +kernel
theorem d_Unpacker_readLengths_78 : decode b_Unpacker_readLengths 78 = .ok (.iload 5, 2) := by decide +kernel
theorem d_Unpacker_readLengths_80 : decode b_Unpacker_readLengths 80 = .ok (.invokestatic 139, 3) := by decide +kernel
theorem d_Unpacker_readLengths_83 : decode b_Unpacker_readLengths 83 = .ok (.iload 6, 2) := by decide +kernel
theorem d_Unpacker_readLengths_85 : decode b_Unpacker_readLengths 85 = .ok (.iadd, 1) := by decide +kernel
theorem d_Unpacker_readLengths_86 : decode b_Unpacker_readLengths 86 = .ok (.istore 7, 2) := by decide +kernel
theorem d_Unpacker_readLengths_88 : decode b_Unpacker_readLengths 88 = .ok (.iload 7, 2) := by decide +kernel
theorem d_Unpacker_readLengths_90 : decode b_Unpacker_readLengths 90 = .ok (.iload_n 2, 1) := by decide +kernel
theorem d_Unpacker_readLengths_91 : decode b_Unpacker_readLengths 91 = .ok (.iload_n 3, 1) := by decide +kernel
theorem d_Unpacker_readLengths_92 : decode b_Unpacker_readLengths 92 = .ok (.isub, 1) := by decide +kernel
theorem d_Unpacker_readLengths_93 : decode b_Unpacker_readLengths 93 = .ok (.if_icmp .le 6, 3) := by decide +kernel
theorem d_Unpacker_readLengths_96 : decode b_Unpacker_readLengths 96 = .ok (.bipush 6, 2) := by decide +kernel
theorem d_Unpacker_readLengths_98 : decode b_Unpacker_readLengths 98 = .ok (.ireturn, 1) := by decide +kernel
theorem d_Unpacker_readLengths_99 : decode b_Unpacker_readLengths 99 = .ok (.iload 5, 2) := by decide +kernel
theorem d_Unpacker_readLengths_101 : decode b_Unpacker_readLengths 101 = .ok (.bipush 16, 2) := by decide +kernel
theorem d_Unpacker_readLengths_103 : decode b_Unpacker_readLengths 103 = .ok (.if_icmp .ge 8, 3) := by decide +kernel
theorem d_Unpacker_readLengths_106 : decode b_Unpacker_readLengths 106 = .ok (.iload 5, 2) := by decide +kernel
theorem d_Unpacker_readLengths_108 : decode b_Unpacker_readLengths 108 = .ok (.goto 22, 3) := by decide +kernel
theorem d_Unpacker_readLengths_111 : decode b_Unpacker_readLengths 111 = .ok (.iload 5, 2) := by decide +kernel
theorem d_Unpacker_readLengths_113 : decode b_Unpacker_readLengths 113 = .ok (.bipush 16, 2) := by decide +kernel
theorem d_Unpacker_readLengths_115 : decode b_Unpacker_readLengths 115 = .ok (.if_icmp .ne 14, 3) := by decide +kernel
theorem d_Unpacker_readLengths_118 : decode b_Unpacker_readLengths 118 = .ok (.aload_n 0, 1) := by decide +kernel
theorem d_Unpacker_readLengths_119 : decode b_Unpacker_readLengths 119 = .ok (.getfield 30, 3) := by decide +kernel
theorem d_Unpacker_readLengths_122 : decode b_Unpacker_readLengths 122 = .ok (.iload_n 3, 1) := by decide +kernel
theorem d_Unpacker_readLengths_123 : decode b_Unpacker_readLengths 123 = .ok (.iconst 1, 1) := by decide +kernel
theorem d_Unpacker_readLengths_124 : decode b_Unpacker_readLengths 124 = .ok (.isub, 1) := by decide +kernel
theorem d_Unpacker_readLengths_125 : decode b_Unpacker_readLengths 125 = .ok (.iaload, 1) := by decide +kernel
theorem d_Unpacker_readLengths_126 : decode b_Unpacker_readLengths 126 = .ok (.goto 4, 3) := by decide +kernel
theorem d_Unpacker_readLengths_129 : decode b_Unpacker_readLengths 129 = .ok (.iconst 0, 1) := by decide +kernel
theorem d_Unpacker_readLengths_130 : decode b_Unpacker_readLengths 130 = .ok (.istore 8, 2) := by decide +kernel
theorem d_Unpacker_readLengths_132 : decode b_Unpacker_readLengths 132 = .ok (.aload_n 0, 1) := by decide +kernel
theorem d_Unpacker_readLengths_133 : decode b_Unpacker_readLengths 133 = .ok (.getfield 30, 3) := by decide +kernel
theorem d_Unpacker_readLengths_136 : decode b_Unpacker_readLengths 136 = .ok (.iload_n 3, 1) := by decide +kernel
theorem d_Unpacker_readLengths_137 : decode b_Unpacker_readLengths 137 = .ok (.iload_n 3, 1) := by decide +kernel
theorem d_Unpacker_readLengths_138 : decode b_Unpacker_readLengths 138 = .ok (.iload 7, 2) := by decide +kernel
theorem d_Unpacker_readLengths_140 : decode b_Unpacker_readLengths 140 = .ok (.iadd, 1) := by decide +kernel
theorem d_Unpacker_readLengths_141 : decode b_Unpacker_readLengths 141 = .ok (.iload 8, 2) := by decide +kernel
theorem d_Unpacker_readLengths_143 : decode b_Unpacker_readLengths 143 = .ok (.invokestatic 142, 3) := by decide +kernel
theorem d_Unpacker_readLengths_146 : decode b_Unpacker_readLengths 146 = .ok (.iload_n 3, 1) := by decide +kernel
theorem d_Unpacker_readLengths_147 : decode b_Unpacker_readLengths 147 = .ok (.iload 7, 2) := by decide +kernel
theorem d_Unpacker_readLengths_149 : decode b_Unpacker_readLengths 149 = .ok (.iadd, 1) := by decide +kernel
theorem d_Unpacker_readLengths_150 : decode b_Unpacker_readLengths 150 = .ok (.istore_n 3, 1) := by decide +kernel
theorem d_Unpacker_readLengths_151 : decode b_Unpacker_readLengths 151 = .ok (.iinc 4 1, 3) := by decide +kernel
theorem d_Unpacker_readLengths_154 : decode b_Unpacker_readLengths 154 = .ok (.goto (-149), 3) := by decide +kernel
theorem d_Unpacker_readLengths_157 : decode b_Unpacker_readLengths 157 = .ok (.iconst 0, 1) := by decide +kernel
theorem d_Unpacker_readLengths_158 : decode b_Unpacker_readLengths 158 = .ok (.ireturn, 1) := by decide +kernel
theorem d_ReadCodes_none_0 : decode b_ReadCodes_none 0 = .ok (.aload_n 0, 1) := by decide +kernel
theorem d_ReadCodes_none_1 : decode b_ReadCodes_none 1 = .ok (.getfield 18, 3) := by decide +kernel
theorem d_ReadCodes_none_4 : decode b_ReadCodes_none 4 = .ok (.ifCond .ne 7, 3) := by decide +kernel
theorem d_ReadCodes_none_7 : decode b_ReadCodes_none 7 = .ok (.iconst 1, 1) := by decide +kernel
theorem d_ReadCodes_none_8 : decode b_ReadCodes_none 8 = .ok (.goto 4, 3) := by decide +kernel
theorem d_ReadCodes_none_11 : decode b_ReadCodes_none 11 = .ok (.iconst 0, 1) := by decide +kernel
theorem d_ReadCodes_none_12 : decode b_ReadCodes_none 12 = .ok (.ireturn, 1) := by decide +kernel
theorem d_Unpacker_readCodes_0 : decode b_Unpacker_readCodes 0 = .ok (.aload_n 1, 1) := by decide +kernel
theorem d_Unpacker_readCodes_1 : decode b_Unpacker_readCodes 1 = .ok (.iconst 5, 1) := by decide +kernel
theorem d_Unpacker_readCodes_2 : decode b_Unpacker_readCodes 2 = .ok (.invokevirtual 85, 3) := by decide +kernel
theorem d_Unpacker_readCodes_5 : decode b_Unpacker_readCodes 5 = .ok (.istore_n 2, 1) := by decide +kernel
theorem d_Unpacker_readCodes_6 : decode b_Unpacker_readCodes 6 = .ok (.aload_n 1, 1) := by decide +kernel
theorem d_Unpacker_readCodes_7 : decode b_Unpacker_readCodes 7 = .ok (.iconst 5, 1) := by decide +kernel
theorem d_Unpacker_readCodes_8 : decode b_Unpacker_readCodes 8 = .ok (.invokevirtual 85, 3) := by decide +kernel
theorem d_Unpacker_readCodes_11 : decode b_Unpacker_readCodes 11 = .ok (.istore_n 3, 1) := by decide +kernel
theorem d_Unpacker_readCodes_12 : decode b_Unpacker_readCodes 12 = .ok (.iload_n 2, 1) := by decide +kernel
theorem d_Unpacker_readCodes_13 : decode b_Unpacker_readCodes 13 = .ok (.ifCond .lt 7, 3) := by decide +kernel
theorem d_Unpacker_readCodes_16 : decode b_Unpacker_readCodes 16 = .ok (.iload_n 3, 1) := by decide +kernel
theorem d_Unpacker_readCodes_17 : decode b_Unpacker_readCodes 17 = .ok (.ifCond .ge 5, 3) := by decide +kernel
theorem d_Unpacker_readCodes_20 : decode b_Unpacker_readCodes 20 = .ok (.iconst 2, 1) := by decide +kernel
theorem d_Unpacker_readCodes_21 : decode b_Unpacker_readCodes 21 = .ok (.ireturn, 1) := by decide +kernel
theorem d_Unpacker_readCodes_22 : decode b_Unpacker_readCodes 22 = .ok (.iload_n 2, 1) := by decide +kernel
theorem d_Unpacker_readCodes_23 : decode b_Unpacker_readCodes 23 = .ok (.sipush 257, 3) := by decide +kernel
theorem d_Unpacker_readCodes_26 : decode b_Unpacker_readCodes 26 = .ok (.iadd, 1) := by decide +kernel
theorem d_Unpacker_readCodes_27 : decode b_Unpacker_readCodes 27 = .ok (.istore 4, 2) := by decide +kernel
theorem d_Unpacker_readCodes_29 : decode b_Unpacker_readCodes 29 = .ok (.iload_n 3, 1) := by decide +kernel
theorem d_Unpacker_readCodes_30 : decode b_Unpacker_readCodes 30 = .ok (.iconst 1, 1) := by decide +kernel
theorem d_Unpacker_readCodes_31 : decode b_Unpacker_readCodes 31 = .ok (.iadd, 1) := by decide +kernel
theorem d_Unpacker_readCodes_32 : decode b_Unpacker_readCodes 32 = .ok (.istore 5, 2) := by decide +kernel
theorem d_Unpacker_readCodes_34 : decode b_Unpacker_readCodes 34 = .ok (.iload 4, 2) := by decide +kernel
theorem d_Unpacker_readCodes_36 : decode b_Unpacker_readCodes 36 = .ok (.sipush 286, 3) := by decide +kernel
theorem d_Unpacker_readCodes_39 : decode b_Unpacker_readCodes 39 = .ok (.if_icmp .gt 10, 3) := by decide +kernel
theorem d_Unpacker_readCodes_42 : decode b_Unpacker_readCodes 42 = .ok (.iload 5, 2) := by decide +kernel
theorem d_Unpacker_readCodes_44 : decode b_Unpacker_readCodes 44 = .ok (.bipush 30, 2) := by decide +kernel
theorem d_Unpacker_readCodes_46 : decode b_Unpacker_readCodes 46 = .ok (.if_icmp .le 5, 3) := by decide +kernel
theorem d_Unpacker_readCodes_49 : decode b_Unpacker_readCodes 49 = .ok (.iconst 5, 1) := by decide +kernel
theorem d_Unpacker_readCodes_50 : decode b_Unpacker_readCodes 50 = .ok (.ireturn, 1) := by decide +kernel
theorem d_Unpacker_readCodes_51 : decode b_Unpacker_readCodes 51 = .ok (.aload_n 0, 1) := by decide +kernel
theorem d_Unpacker_readCodes_52 : decode b_Unpacker_readCodes 52 = .ok (.aload_n 1, 1) := by decide +kernel
theorem d_Unpacker_readCodes_53 : decode b_Unpacker_readCodes 53 = .ok (.invokevirtual 116, 3) := by decide +kernel
theorem d_Unpacker_readCodes_56 : decode b_Unpacker_readCodes 56 = .ok (.istore 6, 2) := by decide +kernel
theorem d_Unpacker_readCodes_58 : decode b_Unpacker_readCodes 58 = .ok (.iload 6, 2) := by decide +kernel
theorem d_Unpacker_readCodes_60 : decode b_Unpacker_readCodes 60 = .ok (.ifCond .ne 15, 3) := by decide +kernel
theorem d_Unpacker_readCodes_63 : decode b_Unpacker_readCodes 63 = .ok (.aload_n 0, 1) := by decide +kernel
theorem d_Unpacker_readCodes_64 : decode b_Unpacker_readCodes 64 = .ok (.aload_n 1, 1) := by decide +kernel
theorem d_Unpacker_readCodes_65 : decode b_Unpacker_readCodes 65 = .ok (.iload 4, 2) := by decide +kernel
theorem d_Unpacker_readCodes_67 : decode b_Unpacker_readCodes 67 = .ok (.iload 5, 2) := by decide +kernel
theorem d_Unpacker_readCodes_69 : decode b_Unpacker_readCodes 69 = .ok (.iadd, 1) := by decide +kernel
theorem d_Unpacker_readCodes_70 : decode b_Unpacker_readCodes 70 = .ok (.invokevirtual 119, 3) := by decide +kernel
theorem d_Unpacker_readCodes_73 : decode b_Unpacker_readCodes 73 = .ok (.istore 6, 2) := by decide +kernel
theorem d_Unpacker_readCodes_75 : decode b_Unpacker_readCodes 75 = .ok (.iload 6, 2) := by decide +kernel
theorem d_Unpacker_readCodes_77 : decode b_Unpacker_readCodes 77 = .ok (.ifCond .eq 6, 3) := by decide +kernel
theorem d_Unpacker_readCodes_80 : decode b_Unpacker_readCodes 80 = .ok (.iload 6, 2) := by decide +kernel
theorem d_Unpacker_readCodes_82 : decode b_Unpacker_readCodes 82 = .ok (.ireturn, 1) := by decide +kernel
theorem d_Unpacker_readCodes_83 : decode b_Unpacker_readCodes 83 = .ok (.aload_n 0, 1) := by decide +kernel
theorem d_Unpacker_readCodes_84 : decode b_Unpacker_readCodes 84 = .ok (.getfield 21, 3) := by decide +kernel
theorem d_Unpacker_readCodes_87 : decode b_Unpacker_readCodes 87 = .ok (.aload_n 0, 1) := by decide +kernel
theorem d_Unpacker_readCodes_88 : decode b_Unpacker_readCodes 88 = .ok (.getfield 30, 3) := by decide +kernel
theorem d_Unpacker_readCodes_91 : decode b_Unpacker_readCodes 91 = .ok (.iconst 0, 1) := by decide +kernel
theorem d_Unpacker_readCodes_92 : decode b_Unpacker_readCodes 92 = .ok (.iload 4, 2) := by decide +kernel
theorem d_Unpacker_readCodes_94 : decode b_Unpacker_readCodes 94 = .ok (.invokevirtual 55, 3) := by decide +kernel
theorem d_Unpacker_readCodes_97 : decode b_Unpacker_readCodes 97 = .ok (.aload_n 0, 1) := by decide +kernel
theorem d_Unpacker_readCodes_98 : decode b_Unpacker_readCodes 98 = .ok (.getfield 24, 3) := by decide +kernel
theorem d_Unpacker_readCodes_101 : decode b_Unpacker_readCodes 101 = .ok (.aload_n 0, 1) := by decide +kernel
theorem d_Unpacker_readCodes_102 : decode b_Unpacker_readCodes 102 = .ok (.getfield 30, 3) := by decide +kernel
theorem d_Unpacker_readCodes_105 : decode b_Unpacker_readCodes 105 = .ok (.iload 4, 2) := by decide +kernel
theorem d_Unpacker_readCodes_107 : decode b_Unpacker_readCodes 107 = .ok (.iload 5, 2) := by decide +kernel
theorem d_Unpacker_readCodes_109 : decode b_Unpacker_readCodes 109 = .ok (.invokevirtual 55, 3) := by decide +kernel
theorem d_Unpacker_readCodes_112 : decode b_Unpacker_readCodes 112 = .ok (.aload_n 0, 1) := by decide +kernel
theorem d_Unpacker_readCodes_113 : decode b_Unpacker_readCodes 113 = .ok (.getfield 30, 3) := by decide +kernel
theorem d_Unpacker_readCodes_116 : decode b_Unpacker_readCodes 116 = .ok (.sipush 256, 3) := by decide +kernel
theorem d_Unpacker_readCodes_119 : decode b_Unpacker_readCodes 119 = .ok (.iaload, 1) := by decide +kernel
theorem d_Unpacker_readCodes_120 : decode b_Unpacker_readCodes 120 = .ok (.ifCond .le 37, 3) := by decide +kernel
theorem d_Unpacker_readCodes_123 : decode b_Unpacker_readCodes 123 = .ok (.aload_n 0, 1) := by decide +kernel
theorem d_Unpacker_readCodes_124 : decode b_Unpacker_readCodes 124 = .ok (.getfield 21, 3) := by decide +kernel
theorem d_Unpacker_readCodes_127 : decode b_Unpacker_readCodes 127 = .ok (.invokevirtual 123, 3) := by decide +kernel
theorem d_Unpacker_readCodes_130 : decode b_Unpacker_readCodes 130 = .ok (.ifCond .eq 27, 3) := by decide +kernel
theorem d_Unpacker_readCodes_133 : decode b_Unpacker_readCodes 133 = .ok (.aload_n 0, 1) := by decide +kernel
theorem d_Unpacker_readCodes_134 : decode b_Unpacker_readCodes 134 = .ok (.getfield 24, 3) := by decide +kernel
theorem d_Unpacker_readCodes_137 : decode b_Unpacker_readCodes 137 = .ok (.invokevirtual 123, 3) := by decide +kernel
theorem d_Unpacker_readCodes_140 : decode b_Unpacker_readCodes 140 = .ok (.ifCond .ne 13, 3) := by decide +kernel
theorem d_Unpacker_readCodes_143 : decode b_Unpacker_readCodes 143 = .ok (.aload_n 0, 1) := by decide +kernel
theorem d_Unpacker_readCodes_144 : decode b_Unpacker_readCodes 144 = .ok (.getfield 24, 3) := by decide +kernel
theorem d_Unpacker_readCodes_147 : decode b_Unpacker_readCodes 147 = .ok (.invokevirtual 127, 3) := by decide +kernel
theorem d_Unpacker_readCodes_150 : decode b_Unpacker_readCodes 150 = .ok (.ifCond .eq 7, 3) := by decide +kernel
theorem d_Unpacker_readCodes_153 : decode b_Unpacker_readCodes 153 = .ok (.iconst 1, 1) := by decide +kernel
theorem d_Unpacker_readCodes_154 : decode b_Unpacker_readCodes 154 = .ok (.goto 4, 3) := by decide +kernel
theorem d_Unpacker_readCodes_157 : decode b_Unpacker_readCodes 157 = .ok (.iconst 0, 1) := by decide +kernel
theorem d_Unpacker_readCodes_158 : decode b_Unpacker_readCodes 158 = .ok (.istore 7, 2) := by decide +kernel
theorem d_Unpacker_readCodes_160 : decode b_Unpacker_readCodes 160 = .ok (.iload 7, 2) := by decide +kernel
theorem d_Unpacker_readCodes_162 : decode b_Unpacker_readCodes 162 = .ok (.ifCond .eq 7, 3) := by decide +kernel
theorem d_Unpacker_readCodes_165 : decode b_Unpacker_readCodes 165 = .ok (.iconst 0, 1) := by decide +kernel
theorem d_Unpacker_readCodes_166 : decode b_Unpacker_readCodes 166 = .ok (.goto 5, 3) := by decide +kernel
theorem d_Unpacker_readCodes_169 : decode b_Unpacker_readCodes 169 = .ok (.bipush 7, 2) := by decide +kernel
theorem d_Unpacker_readCodes_171 : decode b_Unpacker_readCodes 171 = .ok (.ireturn, 1) := by decide +kernel
theorem d_Unpacker_repeat_0 : decode b_Unpacker_repeat 0 = .ok (.iload_n 3, 1) := by decide +kernel
theorem d_Unpacker_repeat_1 : decode b_Unpacker_repeat 1 = .ok (.aload_n 1, 1) := by decide +kernel
theorem d_Unpacker_repeat_2 : decode b_Unpacker_repeat 2 = .ok (.getfield 168, 3) := by decide +kernel
theorem d_Unpacker_repeat_5 : decode b_Unpacker_repeat 5 = .ok (.if_icmp .gt 11, 3) := by decide +kernel
theorem d_Unpacker_repeat_8 : decode b_Unpacker_repeat 8 = .ok (.iload_n 3, 1) := by decide +kernel
theorem d_Unpacker_repeat_9 : decode b_Unpacker_repeat 9 = .ok (.aload_n 0, 1) := by decide +kernel
theorem d_Unpacker_repeat_10 : decode b_Unpacker_repeat 10 = .ok (.getfield 34, 3) := by decide +kernel
theorem d_Unpacker_repeat_13 : decode b_Unpacker_repeat 13 = .ok (.if_icmp .le 6, 3) := by decide +kernel
theorem d_Unpacker_repeat_16 : decode b_Unpacker_repeat 16 = .ok (.bipush 9, 2) := by decide +kernel
theorem d_Unpacker_repeat_18 : decode b_Unpacker_repeat 18 = .ok (.ireturn, 1) := by decide +kernel
theorem d_Unpacker_repeat_19 : decode b_Unpacker_repeat 19 = .ok (.iconst 0, 1) := by decide +kernel
theorem d_Unpacker_repeat_20 : decode b_Unpacker_repeat 20 = .ok (.istore 4, 2) := by decide +kernel
theorem d_Unpacker_repeat_22 : decode b_Unpacker_repeat 22 = .ok (.iload 4, 2) := by decide +kernel
theorem d_Unpacker_repeat_24 : decode b_Unpacker_repeat 24 = .ok (.iload_n 2, 1) := by decide +kernel
theorem d_Unpacker_repeat_25 : decode b_Unpacker_repeat 25 = .ok (.if_icmp .ge 32, 3) := by decide +kernel
theorem d_Unpacker_repeat_28 : decode b_Unpacker_repeat 28 = .ok (.aload_n 1, 1) := by decide +kernel
theorem d_Unpacker_repeat_29 : decode b_Unpacker_repeat 29 = .ok (.aload_n 1, 1) := by decide +kernel
theorem d_Unpacker_repeat_30 : decode b_Unpacker_repeat 30 = .ok (.aload_n 1, 1) := by decide +kernel
theorem d_Unpacker_repeat_31 : decode b_Unpacker_repeat 31 = .ok (.getfield 168, 3) := by decide +kernel
theorem d_Unpacker_repeat_34 : decode b_Unpacker_repeat 34 = .ok (.iload_n 3, 1) := by decide +kernel
theorem d_Unpacker_repeat_35 : decode b_Unpacker_repeat 35 = .ok (.isub, 1) := by decide +kernel
theorem d_Unpacker_repeat_36 : decode b_Unpacker_repeat 36 = .ok (.invokevirtual 171, 3) := by decide +kernel
theorem d_Unpacker_repeat_39 : decode b_Unpacker_repeat 39 = .ok (.sipush 8192, 3) := by decide +kernel
theorem d_Unpacker_repeat_42 : decode b_Unpacker_repeat 42 = .ok (.invokevirtual 112, 3) := by decide +kernel
theorem d_Unpacker_repeat_45 : decode b_Unpacker_repeat 45 = .ok (.ifCond .ne 6, 3) := by decide +kernel
theorem d_Unpacker_repeat_48 : decode b_Unpacker_repeat 48 = .ok (.bipush 10, 2) := by decide +kernel
theorem d_Unpacker_repeat_50 : decode b_Unpacker_repeat 50 = .ok (.ireturn, 1) := by decide +kernel
theorem d_Unpacker_repeat_51 : decode b_Unpacker_repeat 51 = .ok (.iinc 4 1, 3) := by decide +kernel
theorem d_Unpacker_repeat_54 : decode b_Unpacker_repeat 54 = .ok (.goto (-32), 3) := by decide +kernel
theorem d_Unpacker_repeat_57 : decode b_Unpacker_repeat 57 = .ok (.iconst 0, 1) := by decide +kernel
theorem d_Unpacker_repeat_58 : decode b_Unpacker_repeat 58 = .ok (.ireturn, 1) := by decide +kernel
theorem d_Unpacker_readMatch_0 : decode b_Unpacker_readMatch 0 = .ok (.iload_n 3, 1) := by decide +kernel
theorem d_Unpacker_readMatch_1 : decode b_Unpacker_readMatch 1 = .ok (.sipush 285, 3) := by decide +kernel
theorem d_Unpacker_readMatch_4 : decode b_Unpacker_readMatch 4 = .ok (.if_icmp .le 6, 3) := by decide +kernel
theorem d_Unpacker_readMatch_7 : decode b_Unpacker_readMatch 7 = .ok (.bipush 8, 2) := by decide +kernel
theorem d_Unpacker_readMatch_9 : decode b_Unpacker_readMatch 9 = .ok (.ireturn, 1) := by decide +kernel
theorem d_Unpacker_readMatch_10 : decode b_Unpacker_readMatch 10 = .ok (.aload_n 0, 1) := by decide +kernel
theorem d_Unpacker_readMatch_11 : decode b_Unpacker_readMatch 11 = .ok (.dup, 1) := by decide +kernel
theorem d_Unpacker_readMatch_12 : decode b_Unpacker_readMatch 12 = .ok (.getfield 45, 3) := by decide +kernel
theorem d_Unpacker_readMatch_15 : decode b_Unpacker_readMatch 15 = .ok (.iconst 1, 1) := by decide +kernel
theorem d_Unpacker_readMatch_16 : decode b_Unpacker_readMatch 16 = .ok (.iadd, 1) := by decide +kernel
theorem d_Unpacker_readMatch_17 : decode b_Unpacker_readMatch 17 = .ok (.putfield 45, 3) := by decide +kernel
theorem d_Unpacker_readMatch_20 : decode b_Unpacker_readMatch 20 = .ok (.aload_n 1, 1) := by decide +kernel
theorem d_Unpacker_readMatch_21 : decode b_Unpacker_readMatch 21 = .ok (.iload_n 3, 1) := by decide +kernel
theorem d_Unpacker_readMatch_22 : decode b_Unpacker_readMatch 22 = .ok (.invokestatic 152, 3) := by decide +kernel
theorem d_Unpacker_readMatch_25 : decode b_Unpacker_readMatch 25 = .ok (.invokevirtual 85, 3) := by decide +kernel
theorem d_Unpacker_readMatch_28 : decode b_Unpacker_readMatch 28 = .ok (.istore 5, 2) := by decide +kernel
theorem d_Unpacker_readMatch_30 : decode b_Unpacker_readMatch 30 = .ok (.iload 5, 2) := by decide +kernel
theorem d_Unpacker_readMatch_32 : decode b_Unpacker_readMatch 32 = .ok (.ifCond .ge 5, 3) := by decide +kernel
theorem d_Unpacker_readMatch_35 : decode b_Unpacker_readMatch 35 = .ok (.iconst 2, 1) := by decide +kernel
theorem d_Unpacker_readMatch_36 : decode b_Unpacker_readMatch 36 = .ok (.ireturn, 1) := by decide +kernel
theorem d_Unpacker_readMatch_37 : decode b_Unpacker_readMatch 37 = .ok (.aload 4, 2) := by decide +kernel
theorem d_Unpacker_readMatch_39 : decode b_Unpacker_readMatch 39 = .ok (.aload_n 1, 1) := by decide +kernel
theorem d_Unpacker_readMatch_40 : decode b_Unpacker_readMatch 40 = .ok (.invokevirtual 133, 3) := by decide +kernel
theorem d_Unpacker_readMatch_43 : decode b_Unpacker_readMatch 43 = .ok (.istore 6, 2) := by decide +kernel
theorem d_Unpacker_readMatch_45 : decode b_Unpacker_readMatch 45 = .ok (.iload 6, 2) := by decide +kernel
theorem d_Unpacker_readMatch_47 : decode b_Unpacker_readMatch 47 = .ok (.ifCond .ge 7, 3) := by decide +kernel
theorem d_Unpacker_readMatch_50 : decode b_Unpacker_readMatch 50 = .ok (.iload 6, 2) := by decide +kernel
theorem d_Unpacker_readMatch_52 : decode b_Unpacker_readMatch 52 = .ok (.ineg, 1) := by decide +kernel
theorem d_Unpacker_readMatch_53 : decode b_Unpacker_readMatch 53 = .ok (.ireturn, 1) := by decide +kernel
theorem d_Unpacker_readMatch_54 : decode b_Unpacker_readMatch 54 = .ok (.iload 6, 2) := by decide +kernel
theorem d_Unpacker_readMatch_56 : decode b_Unpacker_readMatch 56 = .ok (.bipush 30, 2) := by decide +kernel
theorem d_Unpacker_readMatch_58 : decode b_Unpacker_readMatch 58 = .ok (.if_icmp .lt 6, 3) := by decide +kernel
theorem d_Unpacker_readMatch_61 : decode b_Unpacker_readMatch 61 = .ok (.bipush 8, 2) := by decide +kernel
theorem d_Unpacker_readMatch_63 : decode b_Unpacker_readMatch 63 = .ok (.ireturn, 1) := by decide +kernel
theorem d_Unpacker_readMatch_64 : decode b_Unpacker_readMatch 64 = .ok (.aload_n 1, 1) := by decide +kernel
theorem d_Unpacker_readMatch_65 : decode b_Unpacker_readMatch 65 = .ok (.iload 6, 2) := by decide +kernel
theorem d_Unpacker_readMatch_67 : decode b_Unpacker_readMatch 67 = .ok (.invokestatic 155, 3) := by decide +kernel
theorem d_Unpacker_readMatch_70 : decode b_Unpacker_readMatch 70 = .ok (.invokevirtual 85, 3) := by decide +kernel
theorem d_Unpacker_readMatch_73 : decode b_Unpacker_readMatch 73 = .ok (.istore 7, 2) := by decide +kernel
theorem d_Unpacker_readMatch_75 : decode b_Unpacker_readMatch 75 = .ok (.iload 7, 2) := by decide +kernel
theorem d_Unpacker_readMatch_77 : decode b_Unpacker_readMatch 77 = .ok (.ifCond .ge 5, 3) := by decide +kernel
theorem d_Unpacker_readMatch_80 : decode b_Unpacker_readMatch 80 = .ok (.iconst 2, 1) := by decide +kernel
theorem d_Unpacker_readMatch_81 : decode b_Unpacker_readMatch 81 = .ok (.ireturn, 1) := by decide +kernel
theorem d_Unpacker_readMatch_82 : decode b_Unpacker_readMatch 82 = .ok (.aload_n 0, 1) := by decide +kernel
theorem d_Unpacker_readMatch_83 : decode b_Unpacker_readMatch 83 = .ok (.aload_n 2, 1) := by decide +kernel
theorem d_Unpacker_readMatch_84 : decode b_Unpacker_readMatch 84 = .ok (.iload_n 3, 1) := by decide +kernel
theorem d_Unpacker_readMatch_85 : decode b_Unpacker_readMatch 85 = .ok (.invokestatic 158, 3) := by decide +kernel
theorem d_Unpacker_readMatch_88 : decode b_Unpacker_readMatch 88 = .ok (.iload 5, 2) := by decide +kernel
theorem d_Unpacker_readMatch_90 : decode b_Unpacker_readMatch 90 = .ok (.iadd, 1) := by decide +kernel
theorem d_Unpacker_readMatch_91 : decode b_Unpacker_readMatch 91 = .ok (.iload 6, 2) := by decide +kernel
theorem d_Unpacker_readMatch_93 : decode b_Unpacker_readMatch 93 = .ok (.invokestatic 161, 3) := by decide +kernel
theorem d_Unpacker_readMatch_96 : decode b_Unpacker_readMatch 96 = .ok (.iload 7, 2) := by decide +kernel
theorem d_Unpacker_readMatch_98 : decode b_Unpacker_readMatch 98 = .ok (.iadd, 1) := by decide +kernel
theorem d_Unpacker_readMatch_99 : decode b_Unpacker_readMatch 99 = .ok (.invokevirtual 164, 3) := by decide +kernel
theorem d_Unpacker_readMatch_102 : decode b_Unpacker_readMatch 102 = .ok (.ireturn, 1) := by decide +kernel
theorem d_Unpacker_putSingle_0 : decode b_Unpacker_putSingle 0 = .ok (.aload_n 1, 1) := by decide +kernel
theorem d_Unpacker_putSingle_1 : decode b_Unpacker_putSingle 1 = .ok (.iload_n 2, 1) := by decide +kernel
theorem d_Unpacker_putSingle_2 : decode b_Unpacker_putSingle 2 = .ok (.sipush 8192, 3) := by decide +kernel
theorem d_Unpacker_putSingle_5 : decode b_Unpacker_putSingle 5 = .ok (.invokevirtual 112, 3) := by decide +kernel
theorem d_Unpacker_putSingle_8 : decode b_Unpacker_putSingle 8 = .ok (.ifCond .eq 7, 3) := by decide +kernel
theorem d_Unpacker_putSingle_11 : decode b_Unpacker_putSingle 11 = .ok (.iconst 0, 1) := by decide +kernel
theorem d_Unpacker_putSingle_12 : decode b_Unpacker_putSingle 12 = .ok (.goto 5, 3) := by decide +kernel
theorem d_Unpacker_putSingle_15 : decode b_Unpacker_putSingle 15 = .ok (.bipush 10, 2) := by decide +kernel
theorem d_Unpacker_putSingle_17 : decode b_Unpacker_putSingle 17 = .ok (.ireturn, 1) := by decide +kernel
theorem d_Unpacker_readSymbols_0 : decode b_Unpacker_readSymbols 0 = .ok (.iconst 0, 1) := by decide +kernel
theorem d_Unpacker_readSymbols_1 : decode b_Unpacker_readSymbols 1 = .ok (.istore 5, 2) := by decide +kernel
theorem d_Unpacker_readSymbols_3 : decode b_Unpacker_readSymbols 3 = .ok (.iload 5, 2) := by decide +kernel
theorem d_Unpacker_readSymbols_5 : decode b_Unpacker_readSymbols 5 = .ok (.ldc 77, 2) := by decide +kernel
theorem d_Unpacker_readSymbols_7 : decode b_Unpacker_readSymbols 7 = .ok (.if_icmp .gt 73, 3) := by decide +kernel
theorem d_Unpacker_readSymbols_10 : decode b_Unpacker_readSymbols 10 = .ok (.aload_n 3, 1) := by decide +kernel
theorem d_Unpacker_readSymbols_11 : decode b_Unpacker_readSymbols 11 = .ok (.aload_n 1, 1) := by decide +kernel
theorem d_Unpacker_readSymbols_12 : decode b_Unpacker_readSymbols 12 = .ok (.invokevirtual 133, 3) := by decide +kernel
theorem d_Unpacker_readSymbols_15 : decode b_Unpacker_readSymbols 15 = .ok (.istore 6, 2) := by decide +kernel
theorem d_Unpacker_readSymbols_17 : decode b_Unpacker_readSymbols 17 = .ok (.iload 6, 2) := by decide +kernel
theorem d_Unpacker_readSymbols_19 : decode b_Unpacker_readSymbols 19 = .ok (.ifCond .ge 7, 3) := by decide +kernel
theorem d_Unpacker_readSymbols_22 : decode b_Unpacker_readSymbols 22 = .ok (.iload 6, 2) := by decide +kernel
theorem d_Unpacker_readSymbols_24 : decode b_Unpacker_readSymbols 24 = .ok (.ineg, 1) := by decide +kernel
theorem d_Unpacker_readSymbols_25 : decode b_Unpacker_readSymbols 25 = .ok (.ireturn, 1) := by decide +kernel
theorem d_Unpacker_readSymbols_26 : decode b_Unpacker_readSymbols 26 = .ok (.iload 6, 2) := by decide +kernel
theorem d_Unpacker_readSymbols_28 : decode b_Unpacker_readSymbols 28 = .ok (.sipush 256, 3) := by decide +kernel
theorem d_Unpacker_readSymbols_31 : decode b_Unpacker_readSymbols 31 = .ok (.if_icmp .ne 5, 3) := by decide +kernel
theorem d_Unpacker_readSymbols_34 : decode b_Unpacker_readSymbols 34 = .ok (.iconst 0, 1) := by decide +kernel
theorem d_Unpacker_readSymbols_35 : decode b_Unpacker_readSymbols 35 = .ok (.ireturn, 1) := by decide +kernel
theorem d_Unpacker_readSymbols_36 : decode b_Unpacker_readSymbols 36 = .ok (.iload 6, 2) := by decide +kernel
theorem d_Unpacker_readSymbols_38 : decode b_Unpacker_readSymbols 38 = .ok (.sipush 256, 3) := by decide +kernel
theorem d_Unpacker_readSymbols_41 : decode b_Unpacker_readSymbols 41 = .ok (.if_icmp .ge 13, 3) := by decide +kernel
theorem d_Unpacker_readSymbols_44 : decode b_Unpacker_readSymbols 44 = .ok (.aload_n 0, 1) := by decide +kernel
theorem d_Unpacker_readSymbols_45 : decode b_Unpacker_readSymbols 45 = .ok (.aload_n 2, 1) := by decide +kernel
theorem d_Unpacker_readSymbols_46 : decode b_Unpacker_readSymbols 46 = .ok (.iload 6, 2) := by decide +kernel
theorem d_Unpacker_readSymbols_48 : decode b_Unpacker_readSymbols 48 = .ok (.invokevirtual 145, 3) := by decide +kernel
theorem d_Unpacker_readSymbols_51 : decode b_Unpacker_readSymbols 51 = .ok (.goto 13, 3) := by decide +kernel
theorem d_Unpacker_readSymbols_54 : decode b_Unpacker_readSymbols 54 = .ok (.aload_n 0, 1) := by decide +kernel
theorem d_Unpacker_readSymbols_55 : decode b_Unpacker_readSymbols 55 = .ok (.aload_n 1, 1) := by decide +kernel
theorem d_Unpacker_readSymbols_56 : decode b_Unpacker_readSymbols 56 = .ok (.aload_n 2, 1) := by decide +kernel
theorem d_Unpacker_readSymbols_57 : decode b_Unpacker_readSymbols 57 = .ok (.iload 6, 2) := by decide +kernel
theorem d_Unpacker_readSymbols_59 : decode b_Unpacker_readSymbols 59 = .ok (.aload 4, 2) := by decide +kernel
theorem d_Unpacker_readSymbols_61 : decode b_Unpacker_readSymbols 61 = .ok (.invokevirtual 148, 3) := by decide +kernel
theorem d_Unpacker_readSymbols_64 : decode b_Unpacker_readSymbols 64 = .ok (.istore 7, 2) := by decide +kernel
theorem d_Unpacker_readSymbols_66 : decode b_Unpacker_readSymbols 66 = .ok (.iload 7, 2) := by decide +kernel
theorem d_Unpacker_readSymbols_68 : decode b_Unpacker_readSymbols 68 = .ok (.ifCond .eq 6, 3) := by decide +kernel
theorem d_Unpacker_readSymbols_71 : decode b_Unpacker_readSymbols 71 = .ok (.iload 7, 2) := by decide +kernel
theorem d_Unpacker_readSymbols_73 : decode b_Unpacker_readSymbols 73 = .ok (.ireturn, 1) := by decide +kernel
theorem d_Unpacker_readSymbols_74 : decode b_Unpacker_readSymbols 74 = .ok (.iinc 5 1, 3) := by decide +kernel
theorem d_Unpacker_readSymbols_77 : decode b_Unpacker_readSymbols 77 = .ok (.goto (-74), 3) := by decide +kernel
theorem d_Unpacker_readSymbols_80 : decode b_Unpacker_readSymbols 80 = .ok (.iconst 2, 1) := by decide +kernel
theorem d_Unpacker_readSymbols_81 : decode b_Unpacker_readSymbols 81 = .ok (.ireturn, 1) := by decide +kernel
theorem d_Unpacker_readStored_0 : decode b_Unpacker_readStored 0 = .ok (.aload_n 1, 1) := by decide +kernel
theorem d_Unpacker_readStored_1 : decode b_Unpacker_readStored 1 = .ok (.invokevirtual 88, 3) := by decide +kernel
theorem d_Unpacker_readStored_4 : decode b_Unpacker_readStored 4 = .ok (.aload_n 1, 1) := by decide +kernel
theorem d_Unpacker_readStored_5 : decode b_Unpacker_readStored 5 = .ok (.bipush 16, 2) := by decide +kernel
theorem d_Unpacker_readStored_7 : decode b_Unpacker_readStored 7 = .ok (.invokevirtual 85, 3) := by decide +kernel
theorem d_Unpacker_readStored_10 : decode b_Unpacker_readStored 10 = .ok (.istore_n 3, 1) := by decide +kernel
theorem d_Unpacker_readStored_11 : decode b_Unpacker_readStored 11 = .ok (.aload_n 1, 1) := by decide +kernel
theorem d_Unpacker_readStored_12 : decode b_Unpacker_readStored 12 = .ok (.bipush 16, 2) := by decide +kernel
theorem d_Unpacker_readStored_14 : decode b_Unpacker_readStored 14 = .ok (.invokevirtual 85, 3) := by decide +kernel
theorem d_Unpacker_readStored_17 : decode b_Unpacker_readStored 17 = .ok (.istore 4, 2) := by decide +kernel
theorem d_Unpacker_readStored_19 : decode b_Unpacker_readStored 19 = .ok (.iload_n 3, 1) := by decide +kernel
theorem d_Unpacker_readStored_20 : decode b_Unpacker_readStored 20 = .ok (.ifCond .lt 8, 3) := by decide +kernel
theorem d_Unpacker_readStored_23 : decode b_Unpacker_readStored 23 = .ok (.iload 4, 2) := by decide +kernel
theorem d_Unpacker_readStored_25 : decode b_Unpacker_readStored 25 = .ok (.ifCond .ge 5, 3) := by decide +kernel
theorem d_Unpacker_readStored_28 : decode b_Unpacker_readStored 28 = .ok (.iconst 2, 1) := by decide +kernel
theorem d_Unpacker_readStored_29 : decode b_Unpacker_readStored 29 = .ok (.ireturn, 1) := by decide +kernel
theorem d_Unpacker_readStored_30 : decode b_Unpacker_readStored 30 = .ok (.iload 4, 2) := by decide +kernel
theorem d_Unpacker_readStored_32 : decode b_Unpacker_readStored 32 = .ok (.ldc 111, 2) := by decide +kernel
theorem d_Unpacker_readStored_34 : decode b_Unpacker_readStored 34 = .ok (.iload_n 3, 1) := by decide +kernel
theorem d_Unpacker_readStored_35 : decode b_Unpacker_readStored 35 = .ok (.isub, 1) := by decide +kernel
theorem d_Unpacker_readStored_36 : decode b_Unpacker_readStored 36 = .ok (.if_icmp .eq 5, 3) := by decide +kernel
theorem d_Unpacker_readStored_39 : decode b_Unpacker_readStored 39 = .ok (.iconst 4, 1) := by decide +kernel
theorem d_Unpacker_readStored_40 : decode b_Unpacker_readStored 40 = .ok (.ireturn, 1) := by decide +kernel
theorem d_Unpacker_readStored_41 : decode b_Unpacker_readStored 41 = .ok (.iconst 0, 1) := by decide +kernel
theorem d_Unpacker_readStored_42 : decode b_Unpacker_readStored 42 = .ok (.istore 5, 2) := by decide +kernel
theorem d_Unpacker_readStored_44 : decode b_Unpacker_readStored 44 = .ok (.iload 5, 2) := by decide +kernel
theorem d_Unpacker_readStored_46 : decode b_Unpacker_readStored 46 = .ok (.iload_n 3, 1) := by decide +kernel
theorem d_Unpacker_readStored_47 : decode b_Unpacker_readStored 47 = .ok (.if_icmp .ge 39, 3) := by decide +kernel
theorem d_Unpacker_readStored_50 : decode b_Unpacker_readStored 50 = .ok (.aload_n 1, 1) := by decide +kernel
theorem d_Unpacker_readStored_51 : decode b_Unpacker_readStored 51 = .ok (.bipush 8, 2) := by decide +kernel
theorem d_Unpacker_readStored_53 : decode b_Unpacker_readStored 53 = .ok (.invokevirtual 85, 3) := by decide +kernel
theorem d_Unpacker_readStored_56 : decode b_Unpacker_readStored 56 = .ok (.istore 6, 2) := by decide +kernel
theorem d_Unpacker_readStored_58 : decode b_Unpacker_readStored 58 = .ok (.iload 6, 2) := by decide +kernel
theorem d_Unpacker_readStored_60 : decode b_Unpacker_readStored 60 = .ok (.ifCond .ge 5, 3) := by decide +kernel
theorem d_Unpacker_readStored_63 : decode b_Unpacker_readStored 63 = .ok (.iconst 2, 1) := by decide +kernel
theorem d_Unpacker_readStored_64 : decode b_Unpacker_readStored 64 = .ok (.ireturn, 1) := by decide +kernel
theorem d_Unpacker_readStored_65 : decode b_Unpacker_readStored 65 = .ok (.aload_n 2, 1) := by decide +kernel
theorem d_Unpacker_readStored_66 : decode b_Unpacker_readStored 66 = .ok (.iload 6, 2) := by decide +kernel
theorem d_Unpacker_readStored_68 : decode b_Unpacker_readStored 68 = .ok (.sipush 8192, 3) := by decide +kernel
theorem d_Unpacker_readStored_71 : decode b_Unpacker_readStored 71 = .ok (.invokevirtual 112, 3) := by decide +kernel
theorem d_Unpacker_readStored_74 : decode b_Unpacker_readStored 74 = .ok (.ifCond .ne 6, 3) := by decide +kernel
theorem d_Unpacker_readStored_77 : decode b_Unpacker_readStored 77 = .ok (.bipush 10, 2) := by decide +kernel
theorem d_Unpacker_readStored_79 : decode b_Unpacker_readStored 79 = .ok (.ireturn, 1) := by decide +kernel
theorem d_Unpacker_readStored_80 : decode b_Unpacker_readStored 80 = .ok (.iinc 5 1, 3) := by decide +kernel
theorem d_Unpacker_readStored_83 : decode b_Unpacker_readStored 83 = .ok (.goto (-39), 3) := by decide +kernel
theorem d_Unpacker_readStored_86 : decode b_Unpacker_readStored 86 = .ok (.iconst 0, 1) := by decide +kernel
theorem d_Unpacker_readStored_87 : decode b_Unpacker_readStored 87 = .ok (.ireturn, 1) := by decide +kernel
theorem d_Unpacker_readBlock_0 : decode b_Unpacker_readBlock 0 = .ok (.aload_n 1, 1) := by decide +kernel
theorem d_Unpacker_readBlock_1 : decode b_Unpacker_readBlock 1 = .ok (.invokevirtual 98, 3) := by decide +kernel
theorem d_Unpacker_readBlock_4 : decode b_Unpacker_readBlock 4 = .ok (.istore_n 3, 1) := by decide +kernel
theorem d_Unpacker_readBlock_5 : decode b_Unpacker_readBlock 5 = .ok (.iload_n 3, 1) := by decide +kernel
theorem d_Unpacker_readBlock_6 : decode b_Unpacker_readBlock 6 = .ok (.ifCond .ge 5, 3) := by decide +kernel
theorem d_Unpacker_readBlock_9 : decode b_Unpacker_readBlock 9 = .ok (.iconst 2, 1) := by decide +kernel
theorem d_Unpacker_readBlock_10 : decode b_Unpacker_readBlock 10 = .ok (.ireturn, 1) := by decide +kernel
theorem d_Unpacker_readBlock_11 : decode b_Unpacker_readBlock 11 = .ok (.aload_n 0, 1) := by decide +kernel
theorem d_Unpacker_readBlock_12 : decode b_Unpacker_readBlock 12 = .ok (.iload_n 3, 1) := by decide +kernel
theorem d_Unpacker_readBlock_13 : decode b_Unpacker_readBlock 13 = .ok (.iconst 1, 1) := by decide +kernel
theorem d_Unpacker_readBlock_14 : decode b_Unpacker_readBlock 14 = .ok (.if_icmp .ne 7, 3) := by decide +kernel
theorem d_Unpacker_readBlock_17 : decode b_Unpacker_readBlock 17 = .ok (.iconst 1, 1) := by decide +kernel
theorem d_Unpacker_readBlock_18 : decode b_Unpacker_readBlock 18 = .ok (.goto 4, 3) := by decide +kernel
theorem d_Unpacker_readBlock_21 : decode b_Unpacker_readBlock 21 = .ok (.iconst 0, 1) := by decide +kernel
theorem d_Unpacker_readBlock_22 : decode b_Unpacker_readBlock 22 = .ok (.putfield 38, 3) := by decide +kernel
theorem d_Unpacker_readBlock_25 : decode b_Unpacker_readBlock 25 = .ok (.aload_n 0, 1) := by decide +kernel
theorem d_Unpacker_readBlock_26 : decode b_Unpacker_readBlock 26 = .ok (.dup, 1) := by decide +kernel
theorem d_Unpacker_readBlock_27 : decode b_Unpacker_readBlock 27 = .ok (.getfield 42, 3) := by decide +kernel
theorem d_Unpacker_readBlock_30 : decode b_Unpacker_readBlock 30 = .ok (.iconst 1, 1) := by decide +kernel
theorem d_Unpacker_readBlock_31 : decode b_Unpacker_readBlock 31 = .ok (.iadd, 1) := by decide +kernel
theorem d_Unpacker_readBlock_32 : decode b_Unpacker_readBlock 32 = .ok (.putfield 42, 3) := by decide +kernel
theorem d_Unpacker_readBlock_35 : decode b_Unpacker_readBlock 35 = .ok (.aload_n 1, 1) := by decide +kernel
theorem d_Unpacker_readBlock_36 : decode b_Unpacker_readBlock 36 = .ok (.iconst 2, 1) := by decide +kernel
theorem d_Unpacker_readBlock_37 : decode b_Unpacker_readBlock 37 = .ok (.invokevirtual 85, 3) := by decide +kernel
theorem d_Unpacker_readBlock_40 : decode b_Unpacker_readBlock 40 = .ok (.istore 4, 2) := by decide +kernel
theorem d_Unpacker_readBlock_42 : decode b_Unpacker_readBlock 42 = .ok (.iload 4, 2) := by decide +kernel
theorem d_Unpacker_readBlock_44 : decode b_Unpacker_readBlock 44 = .ok (.ifCond .ge 5, 3) := by decide +kernel
theorem d_Unpacker_readBlock_47 : decode b_Unpacker_readBlock 47 = .ok (.iconst 2, 1) := by decide +kernel
theorem d_Unpacker_readBlock_48 : decode b_Unpacker_readBlock 48 = .ok (.ireturn, 1) := by decide +kernel
theorem d_Unpacker_readBlock_49 : decode b_Unpacker_readBlock 49 = .ok (.iload 4, 2) := by decide +kernel
theorem d_Unpacker_readBlock_51 : decode b_Unpacker_readBlock 51 = .ok (.ifCond .ne 10, 3) := by decide +kernel
theorem d_Unpacker_readBlock_54 : decode b_Unpacker_readBlock 54 = .ok (.aload_n 0, 1) := by decide +kernel
theorem d_Unpacker_readBlock_55 : decode b_Unpacker_readBlock 55 = .ok (.aload_n 1, 1) := by decide +kernel
theorem d_Unpacker_readBlock_56 : decode b_Unpacker_readBlock 56 = .ok (.aload_n 2, 1) := by decide +kernel
theorem d_Unpacker_readBlock_57 : decode b_Unpacker_readBlock 57 = .ok (.invokevirtual 101, 3) := by decide +kernel
theorem d_Unpacker_readBlock_60 : decode b_Unpacker_readBlock 60 = .ok (.ireturn, 1) := by decide +kernel
theorem d_Unpacker_readBlock_61 : decode b_Unpacker_readBlock 61 = .ok (.iload 4, 2) := by decide +kernel
theorem d_Unpacker_readBlock_63 : decode b_Unpacker_readBlock 63 = .ok (.iconst 1, 1) := by decide +kernel
theorem d_Unpacker_readBlock_64 : decode b_Unpacker_readBlock 64 = .ok (.if_icmp .ne 18, 3) := by decide +kernel
theorem d_Unpacker_readBlock_67 : decode b_Unpacker_readBlock 67 = .ok (.aload_n 0, 1) := by decide +kernel
theorem d_Unpacker_readBlock_68 : decode b_Unpacker_readBlock 68 = .ok (.aload_n 1, 1) := by decide +kernel
theorem d_Unpacker_readBlock_69 : decode b_Unpacker_readBlock 69 = .ok (.aload_n 2, 1) := by decide +kernel
theorem d_Unpacker_readBlock_70 : decode b_Unpacker_readBlock 70 = .ok (.aload_n 0, 1) := by decide +kernel
theorem d_Unpacker_readBlock_71 : decode b_Unpacker_readBlock 71 = .ok (.getfield 12, 3) := by decide +kernel
theorem d_Unpacker_readBlock_74 : decode b_Unpacker_readBlock 74 = .ok (.aload_n 0, 1) := by decide +kernel
theorem d_Unpacker_readBlock_75 : decode b_Unpacker_readBlock 75 = .ok (.getfield 18, 3) := by decide +kernel
theorem d_Unpacker_readBlock_78 : decode b_Unpacker_readBlock 78 = .ok (.invokevirtual 104, 3) := by decide +kernel
theorem d_Unpacker_readBlock_81 : decode b_Unpacker_readBlock 81 = .ok (.ireturn, 1) := by decide +kernel
theorem d_Unpacker_readBlock_82 : decode b_Unpacker_readBlock 82 = .ok (.iload 4, 2) := by decide +kernel
theorem d_Unpacker_readBlock_84 : decode b_Unpacker_readBlock 84 = .ok (.iconst 2, 1) := by decide +kernel
theorem d_Unpacker_readBlock_85 : decode b_Unpacker_readBlock 85 = .ok (.if_icmp .ne 11, 3) := by decide +kernel
theorem d_Unpacker_readBlock_88 : decode b_Unpacker_readBlock 88 = .ok (.aload_n 0, 1) := by decide +kernel
theorem d_Unpacker_readBlock_89 : decode b_Unpacker_readBlock 89 = .ok (.aload_n 1, 1) := by decide +kernel
theorem d_Unpacker_readBlock_90 : decode b_Unpacker_readBlock 90 = .ok (.invokevirtual 108, 3) := by decide +kernel
theorem d_Unpacker_readBlock_93 : decode b_Unpacker_readBlock 93 = .ok (.goto 4, 3) := by decide +kernel
theorem d_Unpacker_readBlock_96 : decode b_Unpacker_readBlock 96 = .ok (.iconst 3, 1) := by decide +kernel
theorem d_Unpacker_readBlock_97 : decode b_Unpacker_readBlock 97 = .ok (.istore 5, 2) := by decide +kernel
theorem d_Unpacker_readBlock_99 : decode b_Unpacker_readBlock 99 = .ok (.iload 5, 2) := by decide +kernel
theorem d_Unpacker_readBlock_101 : decode b_Unpacker_readBlock 101 = .ok (.ifCond .ne 20, 3) := by decide +kernel
theorem d_Unpacker_readBlock_104 : decode b_Unpacker_readBlock 104 = .ok (.aload_n 0, 1) := by decide +kernel
theorem d_Unpacker_readBlock_105 : decode b_Unpacker_readBlock 105 = .ok (.aload_n 1, 1) := by decide +kernel
theorem d_Unpacker_readBlock_106 : decode b_Unpacker_readBlock 106 = .ok (.aload_n 2, 1) := by decide +kernel
theorem d_Unpacker_readBlock_107 : decode b_Unpacker_readBlock 107 = .ok (.aload_n 0, 1) := by decide +kernel
theorem d_Unpacker_readBlock_108 : decode b_Unpacker_readBlock 108 = .ok (.getfield 21, 3) := by decide +kernel
theorem d_Unpacker_readBlock_111 : decode b_Unpacker_readBlock 111 = .ok (.aload_n 0, 1) := by decide +kernel
theorem d_Unpacker_readBlock_112 : decode b_Unpacker_readBlock 112 = .ok (.getfield 24, 3) := by decide +kernel
theorem d_Unpacker_readBlock_115 : decode b_Unpacker_readBlock 115 = .ok (.invokevirtual 104, 3) := by decide +kernel
theorem d_Unpacker_readBlock_118 : decode b_Unpacker_readBlock 118 = .ok (.goto 5, 3) := by decide +kernel
theorem d_Unpacker_readBlock_121 : decode b_Unpacker_readBlock 121 = .ok (.iload 5, 2) := by decide +kernel
theorem d_Unpacker_readBlock_123 : decode b_Unpacker_readBlock 123 = .ok (.ireturn, 1) := by decide +kernel
theorem d_Unpacker_readCheck_0 : decode b_Unpacker_readCheck 0 = .ok (.aload_n 1, 1) := by decide +kernel
theorem d_Unpacker_readCheck_1 : decode b_Unpacker_readCheck 1 = .ok (.invokevirtual 88, 3) := by decide +kernel
theorem d_Unpacker_readCheck_4 : decode b_Unpacker_readCheck 4 = .ok (.iconst 0, 1) := by decide +kernel
theorem d_Unpacker_readCheck_5 : decode b_Unpacker_readCheck 5 = .ok (.istore_n 3, 1) := by decide +kernel
theorem d_Unpacker_readCheck_6 : decode b_Unpacker_readCheck 6 = .ok (.iconst 0, 1) := by decide +kernel
theorem d_Unpacker_readCheck_7 : decode b_Unpacker_readCheck 7 = .ok (.istore 4, 2) := by decide +kernel
theorem d_Unpacker_readCheck_9 : decode b_Unpacker_readCheck 9 = .ok (.iload 4, 2) := by decide +kernel
theorem d_Unpacker_readCheck_11 : decode b_Unpacker_readCheck 11 = .ok (.iconst 4, 1) := by decide +kernel
theorem d_Unpacker_readCheck_12 : decode b_Unpacker_readCheck 12 = .ok (.if_icmp .ge 32, 3) := by decide +kernel
theorem d_Unpacker_readCheck_15 : decode b_Unpacker_readCheck 15 = .ok (.aload_n 1, 1) := by decide +kernel
theorem d_Unpacker_readCheck_16 : decode b_Unpacker_readCheck 16 = .ok (.bipush 8, 2) := by decide +kernel
theorem d_Unpacker_readCheck_18 : decode b_Unpacker_readCheck 18 = .ok (.invokevirtual 85, 3) := by decide +kernel
theorem d_Unpacker_readCheck_21 : decode b_Unpacker_readCheck 21 = .ok (.istore 5, 2) := by decide +kernel
theorem d_Unpacker_readCheck_23 : decode b_Unpacker_readCheck 23 = .ok (.iload 5, 2) := by decide +kernel
theorem d_Unpacker_readCheck_25 : decode b_Unpacker_readCheck 25 = .ok (.ifCond .ge 5, 3) := by decide +kernel
theorem d_Unpacker_readCheck_28 : decode b_Unpacker_readCheck 28 = .ok (.iconst 2, 1) := by decide +kernel
theorem d_Unpacker_readCheck_29 : decode b_Unpacker_readCheck 29 = .ok (.ireturn, 1) := by decide +kernel
theorem d_Unpacker_readCheck_30 : decode b_Unpacker_readCheck 30 = .ok (.iload_n 3, 1) := by decide +kernel
theorem d_Unpacker_readCheck_31 : decode b_Unpacker_readCheck 31 = .ok (.bipush 8, 2) := by decide +kernel
theorem d_Unpacker_readCheck_33 : decode b_Unpacker_readCheck 33 = .ok (.ishl, 1) := by decide +kernel
theorem d_Unpacker_readCheck_34 : decode b_Unpacker_readCheck 34 = .ok (.iload 5, 2) := by decide +kernel
theorem d_Unpacker_readCheck_36 : decode b_Unpacker_readCheck 36 = .ok (.ior, 1) := by decide +kernel
theorem d_Unpacker_readCheck_37 : decode b_Unpacker_readCheck 37 = .ok (.istore_n 3, 1) := by decide +kernel
theorem d_Unpacker_readCheck_38 : decode b_Unpacker_readCheck 38 = .ok (.iinc 4 1, 3) := by decide +kernel
theorem d_Unpacker_readCheck_41 : decode b_Unpacker_readCheck 41 = .ok (.goto (-32), 3) := by decide +kernel
theorem d_Unpacker_readCheck_44 : decode b_Unpacker_readCheck 44 = .ok (.iload_n 3, 1) := by decide +kernel
theorem d_Unpacker_readCheck_45 : decode b_Unpacker_readCheck 45 = .ok (.aload_n 2, 1) := by decide +kernel
theorem d_Unpacker_readCheck_46 : decode b_Unpacker_readCheck 46 = .ok (.invokevirtual 91, 3) := by decide +kernel
theorem d_Unpacker_readCheck_49 : decode b_Unpacker_readCheck 49 = .ok (.if_icmp .eq 6, 3) := by decide +kernel
theorem d_Unpacker_readCheck_52 : decode b_Unpacker_readCheck 52 = .ok (.bipush 11, 2) := by decide +kernel
theorem d_Unpacker_readCheck_54 : decode b_Unpacker_readCheck 54 = .ok (.ireturn, 1) := by decide +kernel
theorem d_Unpacker_readCheck_55 : decode b_Unpacker_readCheck 55 = .ok (.aload_n 1, 1) := by decide +kernel
theorem d_Unpacker_readCheck_56 : decode b_Unpacker_readCheck 56 = .ok (.invokevirtual 95, 3) := by decide +kernel
theorem d_Unpacker_readCheck_59 : decode b_Unpacker_readCheck 59 = .ok (.ifCond .le 8, 3) := by decide +kernel
theorem d_Unpacker_readCheck_62 : decode b_Unpacker_readCheck 62 = .ok (.bipush 12, 2) := by decide +kernel
theorem d_Unpacker_readCheck_64 : decode b_Unpacker_readCheck 64 = .ok (.goto 4, 3) := by decide +kernel
theorem d_Unpacker_readCheck_67 : decode b_Unpacker_readCheck 67 = .ok (.iconst 0, 1) := by decide +kernel
theorem d_Unpacker_readCheck_68 : decode b_Unpacker_readCheck 68 = .ok (.ireturn, 1) := by decide +kernel
theorem d_Unpacker_run_0 : decode b_Unpacker_run 0 = .ok (.aload_n 1, 1) := by decide +kernel
theorem d_Unpacker_run_1 : decode b_Unpacker_run 1 = .ok (.iconst 0, 1) := by decide +kernel
theorem d_Unpacker_run_2 : decode b_Unpacker_run 2 = .ok (.putfield 65, 3) := by decide +kernel
theorem d_Unpacker_run_5 : decode b_Unpacker_run 5 = .ok (.aload_n 2, 1) := by decide +kernel
theorem d_Unpacker_run_6 : decode b_Unpacker_run 6 = .ok (.invokevirtual 70, 3) := by decide +kernel
theorem d_Unpacker_run_9 : decode b_Unpacker_run 9 = .ok (.aload_n 0, 1) := by decide +kernel
theorem d_Unpacker_run_10 : decode b_Unpacker_run 10 = .ok (.iconst 0, 1) := by decide +kernel
theorem d_Unpacker_run_11 : decode b_Unpacker_run 11 = .ok (.putfield 42, 3) := by decide +kernel
theorem d_Unpacker_run_14 : decode b_Unpacker_run 14 = .ok (.aload_n 0, 1) := by decide +kernel
theorem d_Unpacker_run_15 : decode b_Unpacker_run 15 = .ok (.iconst 0, 1) := by decide +kernel
theorem d_Unpacker_run_16 : decode b_Unpacker_run 16 = .ok (.putfield 45, 3) := by decide +kernel
theorem d_Unpacker_run_19 : decode b_Unpacker_run 19 = .ok (.aload_n 0, 1) := by decide +kernel
theorem d_Unpacker_run_20 : decode b_Unpacker_run 20 = .ok (.iconst 0, 1) := by decide +kernel
theorem d_Unpacker_run_21 : decode b_Unpacker_run 21 = .ok (.putfield 38, 3) := by decide +kernel
theorem d_Unpacker_run_24 : decode b_Unpacker_run 24 = .ok (.aload_n 0, 1) := by decide +kernel
theorem d_Unpacker_run_25 : decode b_Unpacker_run 25 = .ok (.aload_n 1, 1) := by decide +kernel
theorem d_Unpacker_run_26 : decode b_Unpacker_run 26 = .ok (.invokevirtual 73, 3) := by decide +kernel
theorem d_Unpacker_run_29 : decode b_Unpacker_run 29 = .ok (.istore_n 3, 1) := by decide +kernel
theorem d_Unpacker_run_30 : decode b_Unpacker_run 30 = .ok (.iconst 0, 1) := by decide +kernel
theorem d_Unpacker_run_31 : decode b_Unpacker_run 31 = .ok (.istore 4, 2) := by decide +kernel
theorem d_Unpacker_run_33 : decode b_Unpacker_run 33 = .ok (.iload 4, 2) := by decide +kernel
theorem d_Unpacker_run_35 : decode b_Unpacker_run 35 = .ok (.ldc 77, 2) := by decide +kernel
theorem d_Unpacker_run_37 : decode b_Unpacker_run 37 = .ok (.if_icmp .ge 27, 3) := by decide +kernel
theorem d_Unpacker_run_40 : decode b_Unpacker_run 40 = .ok (.iload_n 3, 1) := by decide +kernel
theorem d_Unpacker_run_41 : decode b_Unpacker_run 41 = .ok (.ifCond .ne 23, 3) := by decide +kernel
theorem d_Unpacker_run_44 : decode b_Unpacker_run 44 = .ok (.aload_n 0, 1) := by decide +kernel
theorem d_Unpacker_run_45 : decode b_Unpacker_run 45 = .ok (.getfield 38, 3) := by decide +kernel
theorem d_Unpacker_run_48 : decode b_Unpacker_run 48 = .ok (.ifCond .ne 16, 3) := by decide +kernel
theorem d_Unpacker_run_51 : decode b_Unpacker_run 51 = .ok (.aload_n 0, 1) := by decide +kernel
theorem d_Unpacker_run_52 : decode b_Unpacker_run 52 = .ok (.aload_n 1, 1) := by decide +kernel
theorem d_Unpacker_run_53 : decode b_Unpacker_run 53 = .ok (.aload_n 2, 1) := by decide +kernel
theorem d_Unpacker_run_54 : decode b_Unpacker_run 54 = .ok (.invokevirtual 78, 3) := by decide +kernel
theorem d_Unpacker_run_57 : decode b_Unpacker_run 57 = .ok (.istore_n 3, 1) := by decide +kernel
theorem d_Unpacker_run_58 : decode b_Unpacker_run 58 = .ok (.iinc 4 1, 3) := by decide +kernel
theorem d_Unpacker_run_61 : decode b_Unpacker_run 61 = .ok (.goto (-28), 3) := by decide +kernel
theorem d_Unpacker_run_64 : decode b_Unpacker_run 64 = .ok (.iload_n 3, 1) := by decide +kernel
theorem d_Unpacker_run_65 : decode b_Unpacker_run 65 = .ok (.ifCond .ne 10, 3) := by decide +kernel
theorem d_Unpacker_run_68 : decode b_Unpacker_run 68 = .ok (.aload_n 0, 1) := by decide +kernel
theorem d_Unpacker_run_69 : decode b_Unpacker_run 69 = .ok (.aload_n 1, 1) := by decide +kernel
theorem d_Unpacker_run_70 : decode b_Unpacker_run 70 = .ok (.aload_n 2, 1) := by decide +kernel
theorem d_Unpacker_run_71 : decode b_Unpacker_run 71 = .ok (.invokevirtual 82, 3) := by decide +kernel
theorem d_Unpacker_run_74 : decode b_Unpacker_run 74 = .ok (.istore_n 3, 1) := by decide +kernel
theorem d_Unpacker_run_75 : decode b_Unpacker_run 75 = .ok (.aload_n 0, 1) := by decide +kernel
theorem d_Unpacker_run_76 : decode b_Unpacker_run 76 = .ok (.aload_n 1, 1) := by decide +kernel
theorem d_Unpacker_run_77 : decode b_Unpacker_run 77 = .ok (.getfield 65, 3) := by decide +kernel
theorem d_Unpacker_run_80 : decode b_Unpacker_run 80 = .ok (.putfield 48, 3) := by decide +kernel
theorem d_Unpacker_run_83 : decode b_Unpacker_run 83 = .ok (.iload_n 3, 1) := by decide +kernel
theorem d_Unpacker_run_84 : decode b_Unpacker_run 84 = .ok (.ireturn, 1) := by decide +kernel
theorem d_Bp_unpack_0 : decode b_Bp_unpack 0 = .ok (.aload_n 0, 1) := by decide +kernel
theorem d_Bp_unpack_1 : decode b_Bp_unpack 1 = .ok (.getfield 29, 3) := by decide +kernel
theorem d_Bp_unpack_4 : decode b_Bp_unpack 4 = .ok (.aload_n 0, 1) := by decide +kernel
theorem d_Bp_unpack_5 : decode b_Bp_unpack 5 = .ok (.getfield 12, 3) := by decide +kernel
theorem d_Bp_unpack_8 : decode b_Bp_unpack 8 = .ok (.aload_n 0, 1) := by decide +kernel
theorem d_Bp_unpack_9 : decode b_Bp_unpack 9 = .ok (.getfield 16, 3) := by decide +kernel
theorem d_Bp_unpack_12 : decode b_Bp_unpack 12 = .ok (.invokevirtual 74, 3) := by decide +kernel
theorem d_Bp_unpack_15 : decode b_Bp_unpack 15 = .ok (.istore_n 1, 1) := by decide +kernel
theorem d_Bp_unpack_16 : decode b_Bp_unpack 16 = .ok (.iload_n 1, 1) := by decide +kernel
theorem d_Bp_unpack_17 : decode b_Bp_unpack 17 = .ok (.ifCond .ne 13, 3) := by decide +kernel
theorem d_Bp_unpack_20 : decode b_Bp_unpack 20 = .ok (.aload_n 0, 1) := by decide +kernel
theorem d_Bp_unpack_21 : decode b_Bp_unpack 21 = .ok (.getfield 16, 3) := by decide +kernel
theorem d_Bp_unpack_24 : decode b_Bp_unpack 24 = .ok (.getfield 33, 3) := by decide +kernel
theorem d_Bp_unpack_27 : decode b_Bp_unpack 27 = .ok (.goto 7, 3) := by decide +kernel
theorem d_Bp_unpack_30 : decode b_Bp_unpack 30 = .ok (.bipush (-10), 2) := by decide +kernel
theorem d_Bp_unpack_32 : decode b_Bp_unpack 32 = .ok (.iload_n 1, 1) := by decide +kernel
theorem d_Bp_unpack_33 : decode b_Bp_unpack 33 = .ok (.isub, 1) := by decide +kernel
theorem d_Bp_unpack_34 : decode b_Bp_unpack 34 = .ok (.ireturn, 1) := by decide +kernel
theorem d_Bp_read_0 : decode b_Bp_read 0 = .ok (.aload_n 0, 1) := by decide +kernel
theorem d_Bp_read_1 : decode b_Bp_read 1 = .ok (.getfield 29, 3) := by decide +kernel
theorem d_Bp_read_4 : decode b_Bp_read 4 = .ok (.getfield 77, 3) := by decide +kernel
theorem d_Bp_read_7 : decode b_Bp_read 7 = .ok (.ireturn, 1) := by decide +kernel
theorem d_Bp_told_0 : decode b_Bp_told 0 = .ok (.iload_n 1, 1) := by decide +kernel
theorem d_Bp_told_1 : decode b_Bp_told 1 = .ok (.tableswitch 127 0 7 #[47, 71, 79, 87, 95, 103, 111, 119], 47) := by decide +kernel
theorem d_Bp_told_48 : decode b_Bp_told 48 = .ok (.aload_n 0, 1) := by decide +kernel
theorem d_Bp_told_49 : decode b_Bp_told 49 = .ok (.getfield 22, 3) := by decide +kernel
theorem d_Bp_told_52 : decode b_Bp_told 52 = .ok (.getfield 80, 3) := by decide +kernel
theorem d_Bp_told_55 : decode b_Bp_told 55 = .ok (.aload_n 0, 1) := by decide +kernel
theorem d_Bp_told_56 : decode b_Bp_told 56 = .ok (.getfield 22, 3) := by decide +kernel
theorem d_Bp_told_59 : decode b_Bp_told 59 = .ok (.getfield 83, 3) := by decide +kernel
theorem d_Bp_told_62 : decode b_Bp_told 62 = .ok (.iadd, 1) := by decide +kernel
theorem d_Bp_told_63 : decode b_Bp_told 63 = .ok (.aload_n 0, 1) := by decide +kernel
theorem d_Bp_told_64 : decode b_Bp_told 64 = .ok (.getfield 22, 3) := by decide +kernel
theorem d_Bp_told_67 : decode b_Bp_told 67 = .ok (.getfield 86, 3) := by decide +kernel
theorem d_Bp_told_70 : decode b_Bp_told 70 = .ok (.iadd, 1) := by decide +kernel
theorem d_Bp_told_71 : decode b_Bp_told 71 = .ok (.ireturn, 1) := by decide +kernel
theorem d_Bp_told_72 : decode b_Bp_told 72 = .ok (.aload_n 0, 1) := by decide +kernel
theorem d_Bp_told_73 : decode b_Bp_told 73 = .ok (.getfield 22, 3) := by decide +kernel
theorem d_Bp_told_76 : decode b_Bp_told 76 = .ok (.getfield 80, 3) := by decide +kernel
theorem d_Bp_told_79 : decode b_Bp_told 79 = .ok (.ireturn, 1) := by decide +kernel
theorem d_Bp_told_80 : decode b_Bp_told 80 = .ok (.aload_n 0, 1) := by decide +kernel
theorem d_Bp_told_81 : decode b_Bp_told 81 = .ok (.getfield 22, 3) := by decide +kernel
theorem d_Bp_told_84 : decode b_Bp_told 84 = .ok (.getfield 83, 3) := by decide +kernel
theorem d_Bp_told_87 : decode b_Bp_told 87 = .ok (.ireturn, 1) := by decide +kernel
theorem d_Bp_told_88 : decode b_Bp_told 88 = .ok (.aload_n 0, 1) := by decide +kernel
theorem d_Bp_told_89 : decode b_Bp_told 89 = .ok (.getfield 22, 3) := by decide +kernel
theorem d_Bp_told_92 : decode b_Bp_told 92 = .ok (.getfield 86, 3) := by decide +kernel
theorem d_Bp_told_95 : decode b_Bp_told 95 = .ok (.ireturn, 1) := by decide +kernel
theorem d_Bp_told_96 : decode b_Bp_told 96 = .ok (.aload_n 0, 1) := by decide +kernel
theorem d_Bp_told_97 : decode b_Bp_told 97 = .ok (.getfield 22, 3) := by decide +kernel
theorem d_Bp_told_100 : decode b_Bp_told 100 = .ok (.getfield 89, 3) := by decide +kernel
theorem d_Bp_told_103 : decode b_Bp_told 103 = .ok (.ireturn, 1) := by decide +kernel
theorem d_Bp_told_104 : decode b_Bp_told 104 = .ok (.aload_n 0, 1) := by decide +kernel
theorem d_Bp_told_105 : decode b_Bp_told 105 = .ok (.getfield 22, 3) := by decide +kernel
theorem d_Bp_told_108 : decode b_Bp_told 108 = .ok (.getfield 92, 3) := by decide +kernel
theorem d_Bp_told_111 : decode b_Bp_told 111 = .ok (.ireturn, 1) := by decide +kernel
theorem d_Bp_told_112 : decode b_Bp_told 112 = .ok (.aload_n 0, 1) := by decide +kernel
theorem d_Bp_told_113 : decode b_Bp_told 113 = .ok (.getfield 29, 3) := by decide +kernel
theorem d_Bp_told_116 : decode b_Bp_told 116 = .ok (.getfield 95, 3) := by decide +kernel
theorem d_Bp_told_119 : decode b_Bp_told 119 = .ok (.ireturn, 1) := by decide +kernel
theorem d_Bp_told_120 : decode b_Bp_told 120 = .ok (.aload_n 0, 1) := by decide +kernel
theorem d_Bp_told_121 : decode b_Bp_told 121 = .ok (.getfield 29, 3) := by decide +kernel
theorem d_Bp_told_124 : decode b_Bp_told 124 = .ok (.getfield 98, 3) := by decide +kernel
theorem d_Bp_told_127 : decode b_Bp_told 127 = .ok (.ireturn, 1) := by decide +kernel
theorem d_Bp_told_128 : decode b_Bp_told 128 = .ok (.bipush (-2), 2) := by decide +kernel
theorem d_Bp_told_130 : decode b_Bp_told 130 = .ok (.ireturn, 1) := by decide +kernel
theorem d_Bp_length_0 : decode b_Bp_length 0 = .ok (.iload_n 1, 1) := by decide +kernel
theorem d_Bp_length_1 : decode b_Bp_length 1 = .ok (.ifCond .ne 27, 3) := by decide +kernel
theorem d_Bp_length_4 : decode b_Bp_length 4 = .ok (.iload_n 2, 1) := by decide +kernel
theorem d_Bp_length_5 : decode b_Bp_length 5 = .ok (.ifCond .lt 23, 3) := by decide +kernel
theorem d_Bp_length_8 : decode b_Bp_length 8 = .ok (.iload_n 2, 1) := by decide +kernel
theorem d_Bp_length_9 : decode b_Bp_length 9 = .ok (.sipush 286, 3) := by decide +kernel
theorem d_Bp_length_12 : decode b_Bp_length 12 = .ok (.if_icmp .ge 16, 3) := by decide +kernel
theorem d_Bp_length_15 : decode b_Bp_length 15 = .ok (.aload_n 0, 1) := by decide +kernel
theorem d_Bp_length_16 : decode b_Bp_length 16 = .ok (.getfield 22, 3) := by decide +kernel
theorem d_Bp_length_19 : decode b_Bp_length 19 = .ok (.getfield 99, 3) := by decide +kernel
theorem d_Bp_length_22 : decode b_Bp_length 22 = .ok (.getfield 103, 3) := by decide +kernel
theorem d_Bp_length_25 : decode b_Bp_length 25 = .ok (.iload_n 2, 1) := by decide +kernel
theorem d_Bp_length_26 : decode b_Bp_length 26 = .ok (.iaload, 1) := by decide +kernel
theorem d_Bp_length_27 : decode b_Bp_length 27 = .ok (.ireturn, 1) := by decide +kernel
theorem d_Bp_length_28 : decode b_Bp_length 28 = .ok (.iload_n 1, 1) := by decide +kernel
theorem d_Bp_length_29 : decode b_Bp_length 29 = .ok (.iconst 1, 1) := by decide +kernel
theorem d_Bp_length_30 : decode b_Bp_length 30 = .ok (.if_icmp .ne 26, 3) := by decide +kernel
theorem d_Bp_length_33 : decode b_Bp_length 33 = .ok (.iload_n 2, 1) := by decide +kernel
theorem d_Bp_length_34 : decode b_Bp_length 34 = .ok (.ifCond .lt 22, 3) := by decide +kernel
theorem d_Bp_length_37 : decode b_Bp_length 37 = .ok (.iload_n 2, 1) := by decide +kernel
theorem d_Bp_length_38 : decode b_Bp_length 38 = .ok (.bipush 30, 2) := by decide +kernel
theorem d_Bp_length_40 : decode b_Bp_length 40 = .ok (.if_icmp .ge 16, 3) := by decide +kernel
theorem d_Bp_length_43 : decode b_Bp_length 43 = .ok (.aload_n 0, 1) := by decide +kernel
theorem d_Bp_length_44 : decode b_Bp_length 44 = .ok (.getfield 22, 3) := by decide +kernel
theorem d_Bp_length_47 : decode b_Bp_length 47 = .ok (.getfield 109, 3) := by decide +kernel
theorem d_Bp_length_50 : decode b_Bp_length 50 = .ok (.getfield 103, 3) := by decide +kernel
theorem d_Bp_length_53 : decode b_Bp_length 53 = .ok (.iload_n 2, 1) := by decide +kernel
theorem d_Bp_length_54 : decode b_Bp_length 54 = .ok (.iaload, 1) := by decide +kernel
theorem d_Bp_length_55 : decode b_Bp_length 55 = .ok (.ireturn, 1) := by decide +kernel
theorem d_Bp_length_56 : decode b_Bp_length 56 = .ok (.bipush (-2), 2) := by decide +kernel
theorem d_Bp_length_58 : decode b_Bp_length 58 = .ok (.ireturn, 1) := by decide +kernel
theorem d_Mo_init_0 : decode b_Mo_init 0 = .ok (.aload_n 0, 1) := by decide +kernel
theorem d_Mo_init_1 : decode b_Mo_init 1 = .ok (.invokespecial 1, 3) := by decide +kernel
theorem d_Mo_init_4 : decode b_Mo_init 4 = .ok (.aload_n 0, 1) := by decide +kernel
theorem d_Mo_init_5 : decode b_Mo_init 5 = .ok (.sipush 8192, 3) := by decide +kernel
theorem d_Mo_init_8 : decode b_Mo_init 8 = .ok (.newarray .int, 2) := by decide +kernel
theorem d_Mo_init_10 : decode b_Mo_init 10 = .ok (.putfield 7, 3) := by decide +kernel
theorem d_Mo_init_13 : decode b_Mo_init 13 = .ok (.aload_n 0, 1) := by decide +kernel
theorem d_Mo_init_14 : decode b_Mo_init 14 = .ok (.sipush 9000, 3) := by decide +kernel
theorem d_Mo_init_17 : decode b_Mo_init 17 = .ok (.newarray .int, 2) := by decide +kernel
theorem d_Mo_init_19 : decode b_Mo_init 19 = .ok (.putfield 13, 3) := by decide +kernel
theorem d_Mo_init_22 : decode b_Mo_init 22 = .ok (.aload_n 0, 1) := by decide +kernel
theorem d_Mo_init_23 : decode b_Mo_init 23 = .ok (.bipush 8, 2) := by decide +kernel
theorem d_Mo_init_25 : decode b_Mo_init 25 = .ok (.newarray .int, 2) := by decide +kernel
theorem d_Mo_init_27 : decode b_Mo_init 27 = .ok (.putfield 16, 3) := by decide +kernel
theorem d_Mo_init_30 : decode b_Mo_init 30 = .ok (.aload_n 0, 1) := by decide +kernel
theorem d_Mo_init_31 : decode b_Mo_init 31 = .ok (.sipush 320, 3) := by decide +kernel
theorem d_Mo_init_34 : decode b_Mo_init 34 = .ok (.newarray .int, 2) := by decide +kernel
theorem d_Mo_init_36 : decode b_Mo_init 36 = .ok (.putfield 19, 3) := by decide +kernel
theorem d_Mo_init_39 : decode b_Mo_init 39 = .ok (.aload_n 0, 1) := by decide +kernel
theorem d_Mo_init_40 : decode b_Mo_init 40 = .ok (.bipush 19, 2) := by decide +kernel
theorem d_Mo_init_42 : decode b_Mo_init 42 = .ok (.newarray .int, 2) := by decide +kernel
theorem d_Mo_init_44 : decode b_Mo_init 44 = .ok (.putfield 22, 3) := by decide +kernel
theorem d_Mo_init_47 : decode b_Mo_init 47 = .ok (.aload_n 0, 1) := by decide +kernel
theorem d_Mo_init_48 : decode b_Mo_init 48 = .ok (.sipush 320, 3) := by decide +kernel
theorem d_Mo_init_51 : decode b_Mo_init 51 = .ok (.newarray .int, 2) := by decide +kernel
theorem d_Mo_init_53 : decode b_Mo_init 53 = .ok (.putfield 25, 3) := by decide +kernel
theorem d_Mo_init_56 : decode b_Mo_init 56 = .ok (.aload_n 0, 1) := by decide +kernel
theorem d_Mo_init_57 : decode b_Mo_init 57 = .ok (.sipush 4096, 3) := by decide +kernel
theorem d_Mo_init_60 : decode b_Mo_init 60 = .ok (.newarray .int, 2) := by decide +kernel
theorem d_Mo_init_62 : decode b_Mo_init 62 = .ok (.putfield 28, 3) := by decide +kernel
theorem d_Mo_init_65 : decode b_Mo_init 65 = .ok (.aload_n 0, 1) := by decide +kernel
theorem d_Mo_init_66 : decode b_Mo_init 66 = .ok (.sipush 4096, 3) := by decide +kernel
theorem d_Mo_init_69 : decode b_Mo_init 69 = .ok (.newarray .int, 2) := by decide +kernel
theorem d_Mo_init_71 : decode b_Mo_init 71 = .ok (.putfield 31, 3) := by decide +kernel
theorem d_Mo_init_74 : decode b_Mo_init 74 = .ok (.aload_n 0, 1) := by decide +kernel
theorem d_Mo_init_75 : decode b_Mo_init 75 = .ok (.sipush 320, 3) := by decide +kernel
theorem d_Mo_init_78 : decode b_Mo_init 78 = .ok (.newarray .int, 2) := by decide +kernel
theorem d_Mo_init_80 : decode b_Mo_init 80 = .ok (.putfield 34, 3) := by decide +kernel
theorem d_Mo_init_83 : decode b_Mo_init 83 = .ok (.aload_n 0, 1) := by decide +kernel
theorem d_Mo_init_84 : decode b_Mo_init 84 = .ok (.bipush 19, 2) := by decide +kernel
theorem d_Mo_init_86 : decode b_Mo_init 86 = .ok (.newarray .int, 2) := by decide +kernel
theorem d_Mo_init_88 : decode b_Mo_init 88 = .ok (.putfield 37, 3) := by decide +kernel
theorem d_Mo_init_91 : decode b_Mo_init 91 = .ok (.aload_n 0, 1) := by decide +kernel
theorem d_Mo_init_92 : decode b_Mo_init 92 = .ok (.sipush 320, 3) := by decide +kernel
theorem d_Mo_init_95 : decode b_Mo_init 95 = .ok (.newarray .int, 2) := by decide +kernel
theorem d_Mo_init_97 : decode b_Mo_init 97 = .ok (.putfield 40, 3) := by decide +kernel
theorem d_Mo_init_100 : decode b_Mo_init 100 = .ok (.aload_n 0, 1) := by decide +kernel
theorem d_Mo_init_101 : decode b_Mo_init 101 = .ok (.sipush 320, 3) := by decide +kernel
theorem d_Mo_init_104 : decode b_Mo_init 104 = .ok (.newarray .int, 2) := by decide +kernel
theorem d_Mo_init_106 : decode b_Mo_init 106 = .ok (.putfield 43, 3) := by decide +kernel
theorem d_Mo_init_109 : decode b_Mo_init 109 = .ok (.aload_n 0, 1) := by decide +kernel
theorem d_Mo_init_110 : decode b_Mo_init 110 = .ok (.sipush 288, 3) := by decide +kernel
theorem d_Mo_init_113 : decode b_Mo_init 113 = .ok (.newarray .int, 2) := by decide +kernel
theorem d_Mo_init_115 : decode b_Mo_init 115 = .ok (.putfield 46, 3) := by decide +kernel
theorem d_Mo_init_118 : decode b_Mo_init 118 = .ok (.aload_n 0, 1) := by decide +kernel
theorem d_Mo_init_119 : decode b_Mo_init 119 = .ok (.sipush 600, 3) := by decide +kernel
theorem d_Mo_init_122 : decode b_Mo_init 122 = .ok (.newarray .int, 2) := by decide +kernel
theorem d_Mo_init_124 : decode b_Mo_init 124 = .ok (.putfield 49, 3) := by decide +kernel
theorem d_Mo_init_127 : decode b_Mo_init 127 = .ok (.aload_n 0, 1) := by decide +kernel
theorem d_Mo_init_128 : decode b_Mo_init 128 = .ok (.sipush 600, 3) := by decide +kernel
theorem d_Mo_init_131 : decode b_Mo_init 131 = .ok (.newarray .int, 2) := by decide +kernel
theorem d_Mo_init_133 : decode b_Mo_init 133 = .ok (.putfield 52, 3) := by decide +kernel
theorem d_Mo_init_136 : decode b_Mo_init 136 = .ok (.aload_n 0, 1) := by decide +kernel
theorem d_Mo_init_137 : decode b_Mo_init 137 = .ok (.sipush 9000, 3) := by decide +kernel
theorem d_Mo_init_140 : decode b_Mo_init 140 = .ok (.newarray .boolean, 2) := by decide +kernel
theorem d_Mo_init_142 : decode b_Mo_init 142 = .ok (.putfield 55, 3) := by decide +kernel
theorem d_Mo_init_145 : decode b_Mo_init 145 = .ok (.aload_n 0, 1) := by decide +kernel
theorem d_Mo_init_146 : decode b_Mo_init 146 = .ok (.bipush 15, 2) := by decide +kernel
theorem d_Mo_init_148 : decode b_Mo_init 148 = .ok (.newarray .int, 2) := by decide +kernel
theorem d_Mo_init_150 : decode b_Mo_init 150 = .ok (.putfield 59, 3) := by decide +kernel
theorem d_Mo_init_153 : decode b_Mo_init 153 = .ok (.aload_n 0, 1) := by decide +kernel
theorem d_Mo_init_154 : decode b_Mo_init 154 = .ok (.sipush 320, 3) := by decide +kernel
theorem d_Mo_init_157 : decode b_Mo_init 157 = .ok (.newarray .int, 2) := by decide +kernel
theorem d_Mo_init_159 : decode b_Mo_init 159 = .ok (.putfield 62, 3) := by decide +kernel
theorem d_Mo_init_162 : decode b_Mo_init 162 = .ok (.return_, 1) := by decide +kernel
theorem d_Mo_feed_0 : decode b_Mo_feed 0 = .ok (.iload_n 3, 1) := by decide +kernel
theorem d_Mo_feed_1 : decode b_Mo_feed 1 = .ok (.iconst 1, 1) := by decide +kernel
theorem d_Mo_feed_2 : decode b_Mo_feed 2 = .ok (.if_icmp .lt 9, 3) := by decide +kernel
theorem d_Mo_feed_5 : decode b_Mo_feed 5 = .ok (.iload_n 3, 1) := by decide +kernel
theorem d_Mo_feed_6 : decode b_Mo_feed 6 = .ok (.bipush 8, 2) := by decide +kernel
theorem d_Mo_feed_8 : decode b_Mo_feed 8 = .ok (.if_icmp .le 6, 3) := by decide +kernel
theorem d_Mo_feed_11 : decode b_Mo_feed 11 = .ok (.bipush (-2), 2) := by decide +kernel
theorem d_Mo_feed_13 : decode b_Mo_feed 13 = .ok (.ireturn, 1) := by decide +kernel
theorem d_Mo_feed_14 : decode b_Mo_feed 14 = .ok (.aload_n 0, 1) := by decide +kernel
theorem d_Mo_feed_15 : decode b_Mo_feed 15 = .ok (.getfield 65, 3) := by decide +kernel
theorem d_Mo_feed_18 : decode b_Mo_feed 18 = .ok (.iload_n 3, 1) := by decide +kernel
theorem d_Mo_feed_19 : decode b_Mo_feed 19 = .ok (.iadd, 1) := by decide +kernel
theorem d_Mo_feed_20 : decode b_Mo_feed 20 = .ok (.sipush 8192, 3) := by decide +kernel
theorem d_Mo_feed_23 : decode b_Mo_feed 23 = .ok (.if_icmp .le 6, 3) := by decide +kernel
theorem d_Mo_feed_26 : decode b_Mo_feed 26 = .ok (.bipush (-3), 2) := by decide +kernel
theorem d_Mo_feed_28 : decode b_Mo_feed 28 = .ok (.ireturn, 1) := by decide +kernel
theorem d_Mo_feed_29 : decode b_Mo_feed 29 = .ok (.iconst 0, 1) := by decide +kernel
theorem d_Mo_feed_30 : decode b_Mo_feed 30 = .ok (.istore 4, 2) := by decide +kernel
theorem d_Mo_feed_32 : decode b_Mo_feed 32 = .ok (.iload 4, 2) := by decide +kernel
theorem d_Mo_feed_34 : decode b_Mo_feed 34 = .ok (.iload_n 3, 1) := by decide +kernel
theorem d_Mo_feed_35 : decode b_Mo_feed 35 = .ok (.if_icmp .ge 40, 3) := by decide +kernel
theorem d_Mo_feed_38 : decode b_Mo_feed 38 = .ok (.aload_n 0, 1) := by decide +kernel
theorem d_Mo_feed_39 : decode b_Mo_feed 39 = .ok (.getfield 7, 3) := by decide +kernel
theorem d_Mo_feed_42 : decode b_Mo_feed 42 = .ok (.aload_n 0, 1) := by decide +kernel
theorem d_Mo_feed_43 : decode b_Mo_feed 43 = .ok (.getfield 65, 3) := by decide +kernel
theorem d_Mo_feed_46 : decode b_Mo_feed 46 = .ok (.lload_n 1, 1) := by decide +kernel
theorem d_Mo_feed_47 : decode b_Mo_feed 47 = .ok (.bipush 8, 2) := by decide +kernel
theorem d_Mo_feed_49 : decode b_Mo_feed 49 = .ok (.iload 4, 2) := by decide +kernel
theorem d_Mo_feed_51 : decode b_Mo_feed 51 = .ok (.imul, 1) := by decide +kernel
theorem d_Mo_feed_52 : decode b_Mo_feed 52 = .ok (.lshr, 1) := by decide +kernel
theorem d_Mo_feed_53 : decode b_Mo_feed 53 = .ok (.ldc2_w 69, 3) := by decide +kernel
theorem d_Mo_feed_56 : decode b_Mo_feed 56 = .ok (.land, 1) := by decide +kernel
theorem d_Mo_feed_57 : decode b_Mo_feed 57 = .ok (.l2i, 1) := by decide +kernel
theorem d_Mo_feed_58 : decode b_Mo_feed 58 = .ok (.iastore, 1) := by decide +kernel
theorem d_Mo_feed_59 : decode b_Mo_feed 59 = .ok (.aload_n 0, 1) := by decide +kernel
theorem d_Mo_feed_60 : decode b_Mo_feed 60 = .ok (.dup, 1) := by decide +kernel
theorem d_Mo_feed_61 : decode b_Mo_feed 61 = .ok (.getfield 65, 3) := by decide +kernel
theorem d_Mo_feed_64 : decode b_Mo_feed 64 = .ok (.iconst 1, 1) := by decide +kernel
theorem d_Mo_feed_65 : decode b_Mo_feed 65 = .ok (.iadd, 1) := by decide +kernel
theorem d_Mo_feed_66 : decode b_Mo_feed 66 = .ok (.putfield 65, 3) := by decide +kernel
theorem d_Mo_feed_69 : decode b_Mo_feed 69 = .ok (.iinc 4 1, 3) := by decide +kernel
theorem d_Mo_feed_72 : decode b_Mo_feed 72 = .ok (.goto (-40), 3) := by decide +kernel
theorem d_Mo_feed_75 : decode b_Mo_feed 75 = .ok (.aload_n 0, 1) := by decide +kernel
theorem d_Mo_feed_76 : decode b_Mo_feed 76 = .ok (.getfield 65, 3) := by decide +kernel
theorem d_Mo_feed_79 : decode b_Mo_feed 79 = .ok (.ireturn, 1) := by decide +kernel
theorem d_Mo_fill_0 : decode b_Mo_fill 0 = .ok (.iload_n 1, 1) := by decide +kernel
theorem d_Mo_fill_1 : decode b_Mo_fill 1 = .ok (.ifCond .lt 37, 3) := by decide +kernel
theorem d_Mo_fill_4 : decode b_Mo_fill 4 = .ok (.iload_n 1, 1) := by decide +kernel
theorem d_Mo_fill_5 : decode b_Mo_fill 5 = .ok (.iconst 3, 1) := by decide +kernel
theorem d_Mo_fill_6 : decode b_Mo_fill 6 = .ok (.if_icmp .gt 32, 3) := by decide +kernel
theorem d_Mo_fill_9 : decode b_Mo_fill 9 = .ok (.iload_n 3, 1) := by decide +kernel
theorem d_Mo_fill_10 : decode b_Mo_fill 10 = .ok (.iconst 1, 1) := by decide +kernel
theorem d_Mo_fill_11 : decode b_Mo_fill 11 = .ok (.if_icmp .lt 27, 3) := by decide +kernel
theorem d_Mo_fill_14 : decode b_Mo_fill 14 = .ok (.iload_n 3, 1) := by decide +kernel
theorem d_Mo_fill_15 : decode b_Mo_fill 15 = .ok (.sipush 8192, 3) := by decide +kernel
theorem d_Mo_fill_18 : decode b_Mo_fill 18 = .ok (.if_icmp .gt 20, 3) := by decide +kernel
theorem d_Mo_fill_21 : decode b_Mo_fill 21 = .ok (.iload_n 1, 1) := by decide +kernel
theorem d_Mo_fill_22 : decode b_Mo_fill 22 = .ok (.iconst 3, 1) := by decide +kernel
theorem d_Mo_fill_23 : decode b_Mo_fill 23 = .ok (.if_icmp .ne 18, 3) := by decide +kernel
theorem d_Mo_fill_26 : decode b_Mo_fill 26 = .ok (.iload_n 2, 1) := by decide +kernel
theorem d_Mo_fill_27 : decode b_Mo_fill 27 = .ok (.ifCond .lt 11, 3) := by decide +kernel
theorem d_Mo_fill_30 : decode b_Mo_fill 30 = .ok (.iload_n 2, 1) := by decide +kernel
theorem d_Mo_fill_31 : decode b_Mo_fill 31 = .ok (.aload_n 0, 1) := by decide +kernel
theorem d_Mo_fill_32 : decode b_Mo_fill 32 = .ok (.getfield 65, 3) := by decide +kernel
theorem d_Mo_fill_35 : decode b_Mo_fill 35 = .ok (.if_icmp .lt 6, 3) := by decide +kernel
theorem d_Mo_fill_38 : decode b_Mo_fill 38 = .ok (.bipush (-2), 2) := by decide +kernel
theorem d_Mo_fill_40 : decode b_Mo_fill 40 = .ok (.ireturn, 1) := by decide +kernel
theorem d_Mo_fill_41 : decode b_Mo_fill 41 = .ok (.aload_n 0, 1) := by decide +kernel
theorem d_Mo_fill_42 : decode b_Mo_fill 42 = .ok (.getfield 65, 3) := by decide +kernel
theorem d_Mo_fill_45 : decode b_Mo_fill 45 = .ok (.iload_n 3, 1) := by decide +kernel
theorem d_Mo_fill_46 : decode b_Mo_fill 46 = .ok (.iadd, 1) := by decide +kernel
theorem d_Mo_fill_47 : decode b_Mo_fill 47 = .ok (.sipush 8192, 3) := by decide +kernel
theorem d_Mo_fill_50 : decode b_Mo_fill 50 = .ok (.if_icmp .le 6, 3) := by decide +kernel
theorem d_Mo_fill_53 : decode b_Mo_fill 53 = .ok (.bipush (-3), 2) := by decide +kernel
theorem d_Mo_fill_55 : decode b_Mo_fill 55 = .ok (.ireturn, 1) := by decide +kernel
theorem d_Mo_fill_56 : decode b_Mo_fill 56 = .ok (.iload_n 2, 1) := by decide +kernel
theorem d_Mo_fill_57 : decode b_Mo_fill 57 = .ok (.istore 4, 2) := by decide +kernel
theorem d_Mo_fill_59 : decode b_Mo_fill 59 = .ok (.iconst 0, 1) := by decide +kernel
theorem d_Mo_fill_60 : decode b_Mo_fill 60 = .ok (.istore 5, 2) := by decide +kernel
theorem d_Mo_fill_62 : decode b_Mo_fill 62 = .ok (.iload 5, 2) := by decide +kernel
theorem d_Mo_fill_64 : decode b_Mo_fill 64 = .ok (.iload_n 3, 1) := by decide +kernel
theorem d_Mo_fill_65 : decode b_Mo_fill 65 = .ok (.if_icmp .ge 95, 3) := by decide +kernel
theorem d_Mo_fill_68 : decode b_Mo_fill 68 = .ok (.ldc 71, 2) := by decide +kernel
theorem d_Mo_fill_70 : decode b_Mo_fill 70 = .ok (.iload 4, 2) := by decide +kernel
theorem d_Mo_fill_72 : decode b_Mo_fill 72 = .ok (.imul, 1) := by decide +kernel
theorem d_Mo_fill_73 : decode b_Mo_fill 73 = .ok (.sipush 12345, 3) := by decide +kernel
theorem d_Mo_fill_76 : decode b_Mo_fill 76 = .ok (.iadd, 1) := by decide +kernel
