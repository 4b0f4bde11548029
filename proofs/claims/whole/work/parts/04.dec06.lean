theorem d_Mo_lengthBase_20 : decode b_Mo_lengthBase 20 = .ok (.iload_n 0, 1) := by decide +kernel
theorem d_Mo_lengthBase_21 : decode b_Mo_lengthBase 21 = .ok (.sipush 254, 3) := by decide +kernel
theorem d_Mo_lengthBase_24 : decode b_Mo_lengthBase 24 = .ok (.isub, 1) := by decide +kernel
theorem d_Mo_lengthBase_25 : decode b_Mo_lengthBase 25 = .ok (.goto 19, 3) := by decide +kernel
theorem d_Mo_lengthBase_28 : decode b_Mo_lengthBase 28 = .ok (.iconst 3, 1) := by decide +kernel
theorem d_Mo_lengthBase_29 : decode b_Mo_lengthBase 29 = .ok (.iconst 4, 1) := by decide +kernel
theorem d_Mo_lengthBase_30 : decode b_Mo_lengthBase 30 = .ok (.iload_n 0, 1) := by decide +kernel
theorem d_Mo_lengthBase_31 : decode b_Mo_lengthBase 31 = .ok (.sipush 261, 3) := by decide +kernel
theorem d_Mo_lengthBase_34 : decode b_Mo_lengthBase 34 = .ok (.isub, 1) := by decide +kernel
theorem d_Mo_lengthBase_35 : decode b_Mo_lengthBase 35 = .ok (.iconst 4, 1) := by decide +kernel
theorem d_Mo_lengthBase_36 : decode b_Mo_lengthBase 36 = .ok (.irem, 1) := by decide +kernel
theorem d_Mo_lengthBase_37 : decode b_Mo_lengthBase 37 = .ok (.iadd, 1) := by decide +kernel
theorem d_Mo_lengthBase_38 : decode b_Mo_lengthBase 38 = .ok (.iload_n 0, 1) := by decide +kernel
theorem d_Mo_lengthBase_39 : decode b_Mo_lengthBase 39 = .ok (.invokestatic 119, 3) := by decide +kernel
theorem d_Mo_lengthBase_42 : decode b_Mo_lengthBase 42 = .ok (.ishl, 1) := by decide +kernel
theorem d_Mo_lengthBase_43 : decode b_Mo_lengthBase 43 = .ok (.iadd, 1) := by decide +kernel
theorem d_Mo_lengthBase_44 : decode b_Mo_lengthBase 44 = .ok (.ireturn, 1) := by decide +kernel
theorem d_Mo_distanceBits_0 : decode b_Mo_distanceBits 0 = .ok (.iload_n 0, 1) := by decide +kernel
theorem d_Mo_distanceBits_1 : decode b_Mo_distanceBits 1 = .ok (.iconst 4, 1) := by decide +kernel
theorem d_Mo_distanceBits_2 : decode b_Mo_distanceBits 2 = .ok (.if_icmp .ge 7, 3) := by decide +kernel
theorem d_Mo_distanceBits_5 : decode b_Mo_distanceBits 5 = .ok (.iconst 0, 1) := by decide +kernel
theorem d_Mo_distanceBits_6 : decode b_Mo_distanceBits 6 = .ok (.goto 8, 3) := by decide +kernel
theorem d_Mo_distanceBits_9 : decode b_Mo_distanceBits 9 = .ok (.iload_n 0, 1) := by decide +kernel
theorem d_Mo_distanceBits_10 : decode b_Mo_distanceBits 10 = .ok (.iconst 2, 1) := by decide +kernel
theorem d_Mo_distanceBits_11 : decode b_Mo_distanceBits 11 = .ok (.idiv, 1) := by decide +kernel
theorem d_Mo_distanceBits_12 : decode b_Mo_distanceBits 12 = .ok (.iconst 1, 1) := by decide +kernel
theorem d_Mo_distanceBits_13 : decode b_Mo_distanceBits 13 = .ok (.isub, 1) := by decide +kernel
theorem d_Mo_distanceBits_14 : decode b_Mo_distanceBits 14 = .ok (.ireturn, 1) := by decide +kernel
theorem d_Mo_distanceBase_0 : decode b_Mo_distanceBase 0 = .ok (.iload_n 0, 1) := by decide +kernel
theorem d_Mo_distanceBase_1 : decode b_Mo_distanceBase 1 = .ok (.iconst 4, 1) := by decide +kernel
theorem d_Mo_distanceBase_2 : decode b_Mo_distanceBase 2 = .ok (.if_icmp .ge 9, 3) := by decide +kernel
theorem d_Mo_distanceBase_5 : decode b_Mo_distanceBase 5 = .ok (.iload_n 0, 1) := by decide +kernel
theorem d_Mo_distanceBase_6 : decode b_Mo_distanceBase 6 = .ok (.iconst 1, 1) := by decide +kernel
theorem d_Mo_distanceBase_7 : decode b_Mo_distanceBase 7 = .ok (.iadd, 1) := by decide +kernel
theorem d_Mo_distanceBase_8 : decode b_Mo_distanceBase 8 = .ok (.goto 15, 3) := by decide +kernel
theorem d_Mo_distanceBase_11 : decode b_Mo_distanceBase 11 = .ok (.iconst 1, 1) := by decide +kernel
theorem d_Mo_distanceBase_12 : decode b_Mo_distanceBase 12 = .ok (.iconst 2, 1) := by decide +kernel
theorem d_Mo_distanceBase_13 : decode b_Mo_distanceBase 13 = .ok (.iload_n 0, 1) := by decide +kernel
theorem d_Mo_distanceBase_14 : decode b_Mo_distanceBase 14 = .ok (.iconst 2, 1) := by decide +kernel
theorem d_Mo_distanceBase_15 : decode b_Mo_distanceBase 15 = .ok (.irem, 1) := by decide +kernel
theorem d_Mo_distanceBase_16 : decode b_Mo_distanceBase 16 = .ok (.iadd, 1) := by decide +kernel
theorem d_Mo_distanceBase_17 : decode b_Mo_distanceBase 17 = .ok (.iload_n 0, 1) := by decide +kernel
theorem d_Mo_distanceBase_18 : decode b_Mo_distanceBase 18 = .ok (.invokestatic 122, 3) := by decide +kernel
theorem d_Mo_distanceBase_21 : decode b_Mo_distanceBase 21 = .ok (.ishl, 1) := by decide +kernel
theorem d_Mo_distanceBase_22 : decode b_Mo_distanceBase 22 = .ok (.iadd, 1) := by decide +kernel
theorem d_Mo_distanceBase_23 : decode b_Mo_distanceBase 23 = .ok (.ireturn, 1) := by decide +kernel
theorem d_Mo_readMatch_0 : decode b_Mo_readMatch 0 = .ok (.iload_n 1, 1) := by decide +kernel
theorem d_Mo_readMatch_1 : decode b_Mo_readMatch 1 = .ok (.invokestatic 131, 3) := by decide +kernel
theorem d_Mo_readMatch_4 : decode b_Mo_readMatch 4 = .ok (.aload_n 0, 1) := by decide +kernel
theorem d_Mo_readMatch_5 : decode b_Mo_readMatch 5 = .ok (.iload_n 1, 1) := by decide +kernel
theorem d_Mo_readMatch_6 : decode b_Mo_readMatch 6 = .ok (.invokestatic 119, 3) := by decide +kernel
theorem d_Mo_readMatch_9 : decode b_Mo_readMatch 9 = .ok (.invokevirtual 105, 3) := by decide +kernel
theorem d_Mo_readMatch_12 : decode b_Mo_readMatch 12 = .ok (.iadd, 1) := by decide +kernel
theorem d_Mo_readMatch_13 : decode b_Mo_readMatch 13 = .ok (.istore_n 2, 1) := by decide +kernel
theorem d_Mo_readMatch_14 : decode b_Mo_readMatch 14 = .ok (.aload_n 0, 1) := by decide +kernel
theorem d_Mo_readMatch_15 : decode b_Mo_readMatch 15 = .ok (.getfield 75, 3) := by decide +kernel
theorem d_Mo_readMatch_18 : decode b_Mo_readMatch 18 = .ok (.ifCond .ne 19, 3) := by decide +kernel
theorem d_Mo_readMatch_21 : decode b_Mo_readMatch 21 = .ok (.aload_n 0, 1) := by decide +kernel
theorem d_Mo_readMatch_22 : decode b_Mo_readMatch 22 = .ok (.aload_n 0, 1) := by decide +kernel
theorem d_Mo_readMatch_23 : decode b_Mo_readMatch 23 = .ok (.getfield 19, 3) := by decide +kernel
theorem d_Mo_readMatch_26 : decode b_Mo_readMatch 26 = .ok (.sipush 288, 3) := by decide +kernel
theorem d_Mo_readMatch_29 : decode b_Mo_readMatch 29 = .ok (.bipush 32, 2) := by decide +kernel
theorem d_Mo_readMatch_31 : decode b_Mo_readMatch 31 = .ok (.invokevirtual 116, 3) := by decide +kernel
theorem d_Mo_readMatch_34 : decode b_Mo_readMatch 34 = .ok (.goto 4, 3) := by decide +kernel
theorem d_Mo_readMatch_37 : decode b_Mo_readMatch 37 = .ok (.iconst 0, 1) := by decide +kernel
theorem d_Mo_readMatch_38 : decode b_Mo_readMatch 38 = .ok (.istore_n 3, 1) := by decide +kernel
theorem d_Mo_readMatch_39 : decode b_Mo_readMatch 39 = .ok (.aload_n 0, 1) := by decide +kernel
theorem d_Mo_readMatch_40 : decode b_Mo_readMatch 40 = .ok (.getfield 75, 3) := by decide +kernel
theorem d_Mo_readMatch_43 : decode b_Mo_readMatch 43 = .ok (.ifCond .ne 15, 3) := by decide +kernel
theorem d_Mo_readMatch_46 : decode b_Mo_readMatch 46 = .ok (.iload_n 3, 1) := by decide +kernel
theorem d_Mo_readMatch_47 : decode b_Mo_readMatch 47 = .ok (.bipush 29, 2) := by decide +kernel
theorem d_Mo_readMatch_49 : decode b_Mo_readMatch 49 = .ok (.if_icmp .le 9, 3) := by decide +kernel
theorem d_Mo_readMatch_52 : decode b_Mo_readMatch 52 = .ok (.aload_n 0, 1) := by decide +kernel
theorem d_Mo_readMatch_53 : decode b_Mo_readMatch 53 = .ok (.bipush 8, 2) := by decide +kernel
theorem d_Mo_readMatch_55 : decode b_Mo_readMatch 55 = .ok (.invokevirtual 81, 3) := by decide +kernel
theorem d_Mo_readMatch_58 : decode b_Mo_readMatch 58 = .ok (.aload_n 0, 1) := by decide +kernel
theorem d_Mo_readMatch_59 : decode b_Mo_readMatch 59 = .ok (.getfield 75, 3) := by decide +kernel
theorem d_Mo_readMatch_62 : decode b_Mo_readMatch 62 = .ok (.ifCond .eq 4, 3) := by decide +kernel
theorem d_Mo_readMatch_65 : decode b_Mo_readMatch 65 = .ok (.return_, 1) := by decide +kernel
theorem d_Mo_readMatch_66 : decode b_Mo_readMatch 66 = .ok (.iload_n 3, 1) := by decide +kernel
theorem d_Mo_readMatch_67 : decode b_Mo_readMatch 67 = .ok (.invokestatic 134, 3) := by decide +kernel
theorem d_Mo_readMatch_70 : decode b_Mo_readMatch 70 = .ok (.aload_n 0, 1) := by decide +kernel
theorem d_Mo_readMatch_71 : decode b_Mo_readMatch 71 = .ok (.iload_n 3, 1) := by decide +kernel
theorem d_Mo_readMatch_72 : decode b_Mo_readMatch 72 = .ok (.invokestatic 122, 3) := by decide +kernel
theorem d_Mo_readMatch_75 : decode b_Mo_readMatch 75 = .ok (.invokevirtual 105, 3) := by decide +kernel
theorem d_Mo_readMatch_78 : decode b_Mo_readMatch 78 = .ok (.iadd, 1) := by decide +kernel
theorem d_Mo_readMatch_79 : decode b_Mo_readMatch 79 = .ok (.istore 4, 2) := by decide +kernel
theorem d_Mo_readMatch_81 : decode b_Mo_readMatch 81 = .ok (.aload_n 0, 1) := by decide +kernel
theorem d_Mo_readMatch_82 : decode b_Mo_readMatch 82 = .ok (.getfield 75, 3) := by decide +kernel
theorem d_Mo_readMatch_85 : decode b_Mo_readMatch 85 = .ok (.ifCond .ne 35, 3) := by decide +kernel
theorem d_Mo_readMatch_88 : decode b_Mo_readMatch 88 = .ok (.iload 4, 2) := by decide +kernel
theorem d_Mo_readMatch_90 : decode b_Mo_readMatch 90 = .ok (.aload_n 0, 1) := by decide +kernel
theorem d_Mo_readMatch_91 : decode b_Mo_readMatch 91 = .ok (.getfield 72, 3) := by decide +kernel
theorem d_Mo_readMatch_94 : decode b_Mo_readMatch 94 = .ok (.if_icmp .gt 20, 3) := by decide +kernel
theorem d_Mo_readMatch_97 : decode b_Mo_readMatch 97 = .ok (.iload 4, 2) := by decide +kernel
theorem d_Mo_readMatch_99 : decode b_Mo_readMatch 99 = .ok (.sipush 256, 3) := by decide +kernel
theorem d_Mo_readMatch_102 : decode b_Mo_readMatch 102 = .ok (.aload_n 0, 1) := by decide +kernel
theorem d_Mo_readMatch_103 : decode b_Mo_readMatch 103 = .ok (.getfield 7, 3) := by decide +kernel
theorem d_Mo_readMatch_106 : decode b_Mo_readMatch 106 = .ok (.iconst 0, 1) := by decide +kernel
theorem d_Mo_readMatch_107 : decode b_Mo_readMatch 107 = .ok (.iaload, 1) := by decide +kernel
theorem d_Mo_readMatch_108 : decode b_Mo_readMatch 108 = .ok (.iconst 4, 1) := by decide +kernel
theorem d_Mo_readMatch_109 : decode b_Mo_readMatch 109 = .ok (.ishr, 1) := by decide +kernel
theorem d_Mo_readMatch_110 : decode b_Mo_readMatch 110 = .ok (.ishl, 1) := by decide +kernel
theorem d_Mo_readMatch_111 : decode b_Mo_readMatch 111 = .ok (.if_icmp .le 9, 3) := by decide +kernel
theorem d_Mo_readMatch_114 : decode b_Mo_readMatch 114 = .ok (.aload_n 0, 1) := by decide +kernel
theorem d_Mo_readMatch_115 : decode b_Mo_readMatch 115 = .ok (.bipush 9, 2) := by decide +kernel
theorem d_Mo_readMatch_117 : decode b_Mo_readMatch 117 = .ok (.invokevirtual 81, 3) := by decide +kernel
theorem d_Mo_readMatch_120 : decode b_Mo_readMatch 120 = .ok (.iconst 0, 1) := by decide +kernel
theorem d_Mo_readMatch_121 : decode b_Mo_readMatch 121 = .ok (.istore 5, 2) := by decide +kernel
theorem d_Mo_readMatch_123 : decode b_Mo_readMatch 123 = .ok (.iload 5, 2) := by decide +kernel
theorem d_Mo_readMatch_125 : decode b_Mo_readMatch 125 = .ok (.iload_n 2, 1) := by decide +kernel
theorem d_Mo_readMatch_126 : decode b_Mo_readMatch 126 = .ok (.if_icmp .ge 32, 3) := by decide +kernel
theorem d_Mo_readMatch_129 : decode b_Mo_readMatch 129 = .ok (.aload_n 0, 1) := by decide +kernel
theorem d_Mo_readMatch_130 : decode b_Mo_readMatch 130 = .ok (.getfield 75, 3) := by decide +kernel
theorem d_Mo_readMatch_133 : decode b_Mo_readMatch 133 = .ok (.ifCond .ne 25, 3) := by decide +kernel
theorem d_Mo_readMatch_136 : decode b_Mo_readMatch 136 = .ok (.aload_n 0, 1) := by decide +kernel
theorem d_Mo_readMatch_137 : decode b_Mo_readMatch 137 = .ok (.aload_n 0, 1) := by decide +kernel
theorem d_Mo_readMatch_138 : decode b_Mo_readMatch 138 = .ok (.getfield 13, 3) := by decide +kernel
theorem d_Mo_readMatch_141 : decode b_Mo_readMatch 141 = .ok (.aload_n 0, 1) := by decide +kernel
theorem d_Mo_readMatch_142 : decode b_Mo_readMatch 142 = .ok (.getfield 72, 3) := by decide +kernel
theorem d_Mo_readMatch_145 : decode b_Mo_readMatch 145 = .ok (.iload 4, 2) := by decide +kernel
theorem d_Mo_readMatch_147 : decode b_Mo_readMatch 147 = .ok (.isub, 1) := by decide +kernel
theorem d_Mo_readMatch_148 : decode b_Mo_readMatch 148 = .ok (.iaload, 1) := by decide +kernel
theorem d_Mo_readMatch_149 : decode b_Mo_readMatch 149 = .ok (.invokevirtual 125, 3) := by decide +kernel
theorem d_Mo_readMatch_152 : decode b_Mo_readMatch 152 = .ok (.iinc 5 1, 3) := by decide +kernel
theorem d_Mo_readMatch_155 : decode b_Mo_readMatch 155 = .ok (.goto (-32), 3) := by decide +kernel
theorem d_Mo_readMatch_158 : decode b_Mo_readMatch 158 = .ok (.return_, 1) := by decide +kernel
theorem d_Mo_readSymbols_0 : decode b_Mo_readSymbols 0 = .ok (.iconst 1, 1) := by decide +kernel
theorem d_Mo_readSymbols_1 : decode b_Mo_readSymbols 1 = .ok (.istore_n 1, 1) := by decide +kernel
theorem d_Mo_readSymbols_2 : decode b_Mo_readSymbols 2 = .ok (.iload_n 1, 1) := by decide +kernel
theorem d_Mo_readSymbols_3 : decode b_Mo_readSymbols 3 = .ok (.ifCond .eq 108, 3) := by decide +kernel
theorem d_Mo_readSymbols_6 : decode b_Mo_readSymbols 6 = .ok (.aload_n 0, 1) := by decide +kernel
theorem d_Mo_readSymbols_7 : decode b_Mo_readSymbols 7 = .ok (.getfield 75, 3) := by decide +kernel
theorem d_Mo_readSymbols_10 : decode b_Mo_readSymbols 10 = .ok (.ifCond .ne 101, 3) := by decide +kernel
theorem d_Mo_readSymbols_13 : decode b_Mo_readSymbols 13 = .ok (.aload_n 0, 1) := by decide +kernel
theorem d_Mo_readSymbols_14 : decode b_Mo_readSymbols 14 = .ok (.aload_n 0, 1) := by decide +kernel
theorem d_Mo_readSymbols_15 : decode b_Mo_readSymbols 15 = .ok (.getfield 19, 3) := by decide +kernel
theorem d_Mo_readSymbols_18 : decode b_Mo_readSymbols 18 = .ok (.iconst 0, 1) := by decide +kernel
theorem d_Mo_readSymbols_19 : decode b_Mo_readSymbols 19 = .ok (.sipush 288, 3) := by decide +kernel
theorem d_Mo_readSymbols_22 : decode b_Mo_readSymbols 22 = .ok (.invokevirtual 116, 3) := by decide +kernel
theorem d_Mo_readSymbols_25 : decode b_Mo_readSymbols 25 = .ok (.istore_n 2, 1) := by decide +kernel
theorem d_Mo_readSymbols_26 : decode b_Mo_readSymbols 26 = .ok (.aload_n 0, 1) := by decide +kernel
theorem d_Mo_readSymbols_27 : decode b_Mo_readSymbols 27 = .ok (.getfield 75, 3) := by decide +kernel
theorem d_Mo_readSymbols_30 : decode b_Mo_readSymbols 30 = .ok (.ifCond .ne 16, 3) := by decide +kernel
theorem d_Mo_readSymbols_33 : decode b_Mo_readSymbols 33 = .ok (.iload_n 2, 1) := by decide +kernel
theorem d_Mo_readSymbols_34 : decode b_Mo_readSymbols 34 = .ok (.sipush 285, 3) := by decide +kernel
theorem d_Mo_readSymbols_37 : decode b_Mo_readSymbols 37 = .ok (.if_icmp .le 9, 3) := by decide +kernel
theorem d_Mo_readSymbols_40 : decode b_Mo_readSymbols 40 = .ok (.aload_n 0, 1) := by decide +kernel
theorem d_Mo_readSymbols_41 : decode b_Mo_readSymbols 41 = .ok (.bipush 8, 2) := by decide +kernel
theorem d_Mo_readSymbols_43 : decode b_Mo_readSymbols 43 = .ok (.invokevirtual 81, 3) := by decide +kernel
theorem d_Mo_readSymbols_46 : decode b_Mo_readSymbols 46 = .ok (.aload_n 0, 1) := by decide +kernel
theorem d_Mo_readSymbols_47 : decode b_Mo_readSymbols 47 = .ok (.getfield 75, 3) := by decide +kernel
theorem d_Mo_readSymbols_50 : decode b_Mo_readSymbols 50 = .ok (.ifCond .ne 15, 3) := by decide +kernel
theorem d_Mo_readSymbols_53 : decode b_Mo_readSymbols 53 = .ok (.iload_n 2, 1) := by decide +kernel
theorem d_Mo_readSymbols_54 : decode b_Mo_readSymbols 54 = .ok (.sipush 256, 3) := by decide +kernel
theorem d_Mo_readSymbols_57 : decode b_Mo_readSymbols 57 = .ok (.if_icmp .ge 8, 3) := by decide +kernel
theorem d_Mo_readSymbols_60 : decode b_Mo_readSymbols 60 = .ok (.aload_n 0, 1) := by decide +kernel
theorem d_Mo_readSymbols_61 : decode b_Mo_readSymbols 61 = .ok (.iload_n 2, 1) := by decide +kernel
theorem d_Mo_readSymbols_62 : decode b_Mo_readSymbols 62 = .ok (.invokevirtual 125, 3) := by decide +kernel
theorem d_Mo_readSymbols_65 : decode b_Mo_readSymbols 65 = .ok (.iload_n 2, 1) := by decide +kernel
theorem d_Mo_readSymbols_66 : decode b_Mo_readSymbols 66 = .ok (.sipush 256, 3) := by decide +kernel
theorem d_Mo_readSymbols_69 : decode b_Mo_readSymbols 69 = .ok (.if_icmp .eq 7, 3) := by decide +kernel
theorem d_Mo_readSymbols_72 : decode b_Mo_readSymbols 72 = .ok (.iconst 1, 1) := by decide +kernel
theorem d_Mo_readSymbols_73 : decode b_Mo_readSymbols 73 = .ok (.goto 4, 3) := by decide +kernel
theorem d_Mo_readSymbols_76 : decode b_Mo_readSymbols 76 = .ok (.iconst 0, 1) := by decide +kernel
theorem d_Mo_readSymbols_77 : decode b_Mo_readSymbols 77 = .ok (.istore_n 1, 1) := by decide +kernel
theorem d_Mo_readSymbols_78 : decode b_Mo_readSymbols 78 = .ok (.aload_n 0, 1) := by decide +kernel
theorem d_Mo_readSymbols_79 : decode b_Mo_readSymbols 79 = .ok (.getfield 75, 3) := by decide +kernel
theorem d_Mo_readSymbols_82 : decode b_Mo_readSymbols 82 = .ok (.ifCond .ne 26, 3) := by decide +kernel
theorem d_Mo_readSymbols_85 : decode b_Mo_readSymbols 85 = .ok (.iload_n 2, 1) := by decide +kernel
theorem d_Mo_readSymbols_86 : decode b_Mo_readSymbols 86 = .ok (.sipush 256, 3) := by decide +kernel
theorem d_Mo_readSymbols_89 : decode b_Mo_readSymbols 89 = .ok (.if_icmp .le 19, 3) := by decide +kernel
theorem d_Mo_readSymbols_92 : decode b_Mo_readSymbols 92 = .ok (.aload_n 0, 1) := by decide +kernel
theorem d_Mo_readSymbols_93 : decode b_Mo_readSymbols 93 = .ok (.getfield 16, 3) := by decide +kernel
theorem d_Mo_readSymbols_96 : decode b_Mo_readSymbols 96 = .ok (.bipush 7, 2) := by decide +kernel
theorem d_Mo_readSymbols_98 : decode b_Mo_readSymbols 98 = .ok (.dup2, 1) := by decide +kernel
theorem d_Mo_readSymbols_99 : decode b_Mo_readSymbols 99 = .ok (.iaload, 1) := by decide +kernel
theorem d_Mo_readSymbols_100 : decode b_Mo_readSymbols 100 = .ok (.iconst 1, 1) := by decide +kernel
theorem d_Mo_readSymbols_101 : decode b_Mo_readSymbols 101 = .ok (.iadd, 1) := by decide +kernel
theorem d_Mo_readSymbols_102 : decode b_Mo_readSymbols 102 = .ok (.iastore, 1) := by decide +kernel
theorem d_Mo_readSymbols_103 : decode b_Mo_readSymbols 103 = .ok (.aload_n 0, 1) := by decide +kernel
theorem d_Mo_readSymbols_104 : decode b_Mo_readSymbols 104 = .ok (.iload_n 2, 1) := by decide +kernel
theorem d_Mo_readSymbols_105 : decode b_Mo_readSymbols 105 = .ok (.invokevirtual 128, 3) := by decide +kernel
theorem d_Mo_readSymbols_108 : decode b_Mo_readSymbols 108 = .ok (.goto (-106), 3) := by decide +kernel
theorem d_Mo_readSymbols_111 : decode b_Mo_readSymbols 111 = .ok (.return_, 1) := by decide +kernel
theorem d_Mo_readStored_0 : decode b_Mo_readStored 0 = .ok (.aload_n 0, 1) := by decide +kernel
theorem d_Mo_readStored_1 : decode b_Mo_readStored 1 = .ok (.invokevirtual 137, 3) := by decide +kernel
theorem d_Mo_readStored_4 : decode b_Mo_readStored 4 = .ok (.aload_n 0, 1) := by decide +kernel
theorem d_Mo_readStored_5 : decode b_Mo_readStored 5 = .ok (.bipush 16, 2) := by decide +kernel
theorem d_Mo_readStored_7 : decode b_Mo_readStored 7 = .ok (.invokevirtual 105, 3) := by decide +kernel
theorem d_Mo_readStored_10 : decode b_Mo_readStored 10 = .ok (.istore_n 1, 1) := by decide +kernel
theorem d_Mo_readStored_11 : decode b_Mo_readStored 11 = .ok (.aload_n 0, 1) := by decide +kernel
theorem d_Mo_readStored_12 : decode b_Mo_readStored 12 = .ok (.bipush 16, 2) := by decide +kernel
theorem d_Mo_readStored_14 : decode b_Mo_readStored 14 = .ok (.invokevirtual 105, 3) := by decide +kernel
theorem d_Mo_readStored_17 : decode b_Mo_readStored 17 = .ok (.istore_n 2, 1) := by decide +kernel
theorem d_Mo_readStored_18 : decode b_Mo_readStored 18 = .ok (.aload_n 0, 1) := by decide +kernel
theorem d_Mo_readStored_19 : decode b_Mo_readStored 19 = .ok (.getfield 75, 3) := by decide +kernel
theorem d_Mo_readStored_22 : decode b_Mo_readStored 22 = .ok (.ifCond .ne 16, 3) := by decide +kernel
theorem d_Mo_readStored_25 : decode b_Mo_readStored 25 = .ok (.iload_n 2, 1) := by decide +kernel
theorem d_Mo_readStored_26 : decode b_Mo_readStored 26 = .ok (.ldc 140, 2) := by decide +kernel
theorem d_Mo_readStored_28 : decode b_Mo_readStored 28 = .ok (.iload_n 1, 1) := by decide +kernel
theorem d_Mo_readStored_29 : decode b_Mo_readStored 29 = .ok (.isub, 1) := by decide +kernel
theorem d_Mo_readStored_30 : decode b_Mo_readStored 30 = .ok (.if_icmp .eq 8, 3) := by decide +kernel
theorem d_Mo_readStored_33 : decode b_Mo_readStored 33 = .ok (.aload_n 0, 1) := by decide +kernel
theorem d_Mo_readStored_34 : decode b_Mo_readStored 34 = .ok (.iconst 4, 1) := by decide +kernel
theorem d_Mo_readStored_35 : decode b_Mo_readStored 35 = .ok (.invokevirtual 81, 3) := by decide +kernel
theorem d_Mo_readStored_38 : decode b_Mo_readStored 38 = .ok (.iconst 0, 1) := by decide +kernel
theorem d_Mo_readStored_39 : decode b_Mo_readStored 39 = .ok (.istore_n 3, 1) := by decide +kernel
theorem d_Mo_readStored_40 : decode b_Mo_readStored 40 = .ok (.iload_n 3, 1) := by decide +kernel
theorem d_Mo_readStored_41 : decode b_Mo_readStored 41 = .ok (.iload_n 1, 1) := by decide +kernel
theorem d_Mo_readStored_42 : decode b_Mo_readStored 42 = .ok (.if_icmp .ge 26, 3) := by decide +kernel
theorem d_Mo_readStored_45 : decode b_Mo_readStored 45 = .ok (.aload_n 0, 1) := by decide +kernel
theorem d_Mo_readStored_46 : decode b_Mo_readStored 46 = .ok (.getfield 75, 3) := by decide +kernel
theorem d_Mo_readStored_49 : decode b_Mo_readStored 49 = .ok (.ifCond .ne 19, 3) := by decide +kernel
theorem d_Mo_readStored_52 : decode b_Mo_readStored 52 = .ok (.aload_n 0, 1) := by decide +kernel
theorem d_Mo_readStored_53 : decode b_Mo_readStored 53 = .ok (.aload_n 0, 1) := by decide +kernel
theorem d_Mo_readStored_54 : decode b_Mo_readStored 54 = .ok (.bipush 8, 2) := by decide +kernel
theorem d_Mo_readStored_56 : decode b_Mo_readStored 56 = .ok (.invokevirtual 105, 3) := by decide +kernel
theorem d_Mo_readStored_59 : decode b_Mo_readStored 59 = .ok (.invokevirtual 125, 3) := by decide +kernel
theorem d_Mo_readStored_62 : decode b_Mo_readStored 62 = .ok (.iinc 3 1, 3) := by decide +kernel
theorem d_Mo_readStored_65 : decode b_Mo_readStored 65 = .ok (.goto (-25), 3) := by decide +kernel
theorem d_Mo_readStored_68 : decode b_Mo_readStored 68 = .ok (.return_, 1) := by decide +kernel
theorem d_Mo_checkOf_0 : decode b_Mo_checkOf 0 = .ok (.lconst 1, 1) := by decide +kernel
theorem d_Mo_checkOf_1 : decode b_Mo_checkOf 1 = .ok (.lstore_n 2, 1) := by decide +kernel
theorem d_Mo_checkOf_2 : decode b_Mo_checkOf 2 = .ok (.lconst 0, 1) := by decide +kernel
theorem d_Mo_checkOf_3 : decode b_Mo_checkOf 3 = .ok (.lstore 4, 2) := by decide +kernel
theorem d_Mo_checkOf_5 : decode b_Mo_checkOf 5 = .ok (.iconst 0, 1) := by decide +kernel
theorem d_Mo_checkOf_6 : decode b_Mo_checkOf 6 = .ok (.istore 6, 2) := by decide +kernel
theorem d_Mo_checkOf_8 : decode b_Mo_checkOf 8 = .ok (.iload 6, 2) := by decide +kernel
theorem d_Mo_checkOf_10 : decode b_Mo_checkOf 10 = .ok (.iload_n 1, 1) := by decide +kernel
theorem d_Mo_checkOf_11 : decode b_Mo_checkOf 11 = .ok (.if_icmp .ge 31, 3) := by decide +kernel
theorem d_Mo_checkOf_14 : decode b_Mo_checkOf 14 = .ok (.lload_n 2, 1) := by decide +kernel
theorem d_Mo_checkOf_15 : decode b_Mo_checkOf 15 = .ok (.aload_n 0, 1) := by decide +kernel
theorem d_Mo_checkOf_16 : decode b_Mo_checkOf 16 = .ok (.iload 6, 2) := by decide +kernel
theorem d_Mo_checkOf_18 : decode b_Mo_checkOf 18 = .ok (.iaload, 1) := by decide +kernel
theorem d_Mo_checkOf_19 : decode b_Mo_checkOf 19 = .ok (.i2l, 1) := by decide +kernel
theorem d_Mo_checkOf_20 : decode b_Mo_checkOf 20 = .ok (.ladd, 1) := by decide +kernel
theorem d_Mo_checkOf_21 : decode b_Mo_checkOf 21 = .ok (.ldc2_w 141, 3) := by decide +kernel
theorem d_Mo_checkOf_24 : decode b_Mo_checkOf 24 = .ok (.lrem, 1) := by decide +kernel
theorem d_Mo_checkOf_25 : decode b_Mo_checkOf 25 = .ok (.lstore_n 2, 1) := by decide +kernel
theorem d_Mo_checkOf_26 : decode b_Mo_checkOf 26 = .ok (.lload 4, 2) := by decide +kernel
theorem d_Mo_checkOf_28 : decode b_Mo_checkOf 28 = .ok (.lload_n 2, 1) := by decide +kernel
theorem d_Mo_checkOf_29 : decode b_Mo_checkOf 29 = .ok (.ladd, 1) := by decide +kernel
theorem d_Mo_checkOf_30 : decode b_Mo_checkOf 30 = .ok (.ldc2_w 141, 3) := by decide +kernel
theorem d_Mo_checkOf_33 : decode b_Mo_checkOf 33 = .ok (.lrem, 1) := by decide +kernel
theorem d_Mo_checkOf_34 : decode b_Mo_checkOf 34 = .ok (.lstore 4, 2) := by decide +kernel
theorem d_Mo_checkOf_36 : decode b_Mo_checkOf 36 = .ok (.iinc 6 1, 3) := by decide +kernel
theorem d_Mo_checkOf_39 : decode b_Mo_checkOf 39 = .ok (.goto (-31), 3) := by decide +kernel
theorem d_Mo_checkOf_42 : decode b_Mo_checkOf 42 = .ok (.ldc2_w 143, 3) := by decide +kernel
theorem d_Mo_checkOf_45 : decode b_Mo_checkOf 45 = .ok (.lload 4, 2) := by decide +kernel
theorem d_Mo_checkOf_47 : decode b_Mo_checkOf 47 = .ok (.lmul, 1) := by decide +kernel
theorem d_Mo_checkOf_48 : decode b_Mo_checkOf 48 = .ok (.lload_n 2, 1) := by decide +kernel
theorem d_Mo_checkOf_49 : decode b_Mo_checkOf 49 = .ok (.ladd, 1) := by decide +kernel
theorem d_Mo_checkOf_50 : decode b_Mo_checkOf 50 = .ok (.lreturn, 1) := by decide +kernel
theorem d_Mo_unpack_0 : decode b_Mo_unpack 0 = .ok (.aload_n 0, 1) := by decide +kernel
theorem d_Mo_unpack_1 : decode b_Mo_unpack 1 = .ok (.iconst 0, 1) := by decide +kernel
theorem d_Mo_unpack_2 : decode b_Mo_unpack 2 = .ok (.putfield 78, 3) := by decide +kernel
theorem d_Mo_unpack_5 : decode b_Mo_unpack 5 = .ok (.aload_n 0, 1) := by decide +kernel
theorem d_Mo_unpack_6 : decode b_Mo_unpack 6 = .ok (.iconst 0, 1) := by decide +kernel
theorem d_Mo_unpack_7 : decode b_Mo_unpack 7 = .ok (.putfield 75, 3) := by decide +kernel
theorem d_Mo_unpack_10 : decode b_Mo_unpack 10 = .ok (.aload_n 0, 1) := by decide +kernel
theorem d_Mo_unpack_11 : decode b_Mo_unpack 11 = .ok (.iconst 0, 1) := by decide +kernel
theorem d_Mo_unpack_12 : decode b_Mo_unpack 12 = .ok (.putfield 72, 3) := by decide +kernel
theorem d_Mo_unpack_15 : decode b_Mo_unpack 15 = .ok (.aload_n 0, 1) := by decide +kernel
theorem d_Mo_unpack_16 : decode b_Mo_unpack 16 = .ok (.getfield 16, 3) := by decide +kernel
theorem d_Mo_unpack_19 : decode b_Mo_unpack 19 = .ok (.bipush 6, 2) := by decide +kernel
theorem d_Mo_unpack_21 : decode b_Mo_unpack 21 = .ok (.iconst 0, 1) := by decide +kernel
theorem d_Mo_unpack_22 : decode b_Mo_unpack 22 = .ok (.iastore, 1) := by decide +kernel
theorem d_Mo_unpack_23 : decode b_Mo_unpack 23 = .ok (.aload_n 0, 1) := by decide +kernel
theorem d_Mo_unpack_24 : decode b_Mo_unpack 24 = .ok (.getfield 16, 3) := by decide +kernel
theorem d_Mo_unpack_27 : decode b_Mo_unpack 27 = .ok (.bipush 7, 2) := by decide +kernel
theorem d_Mo_unpack_29 : decode b_Mo_unpack 29 = .ok (.iconst 0, 1) := by decide +kernel
theorem d_Mo_unpack_30 : decode b_Mo_unpack 30 = .ok (.iastore, 1) := by decide +kernel
theorem d_Mo_unpack_31 : decode b_Mo_unpack 31 = .ok (.aload_n 0, 1) := by decide +kernel
theorem d_Mo_unpack_32 : decode b_Mo_unpack 32 = .ok (.bipush 8, 2) := by decide +kernel
theorem d_Mo_unpack_34 : decode b_Mo_unpack 34 = .ok (.invokevirtual 105, 3) := by decide +kernel
theorem d_Mo_unpack_37 : decode b_Mo_unpack 37 = .ok (.istore_n 1, 1) := by decide +kernel
theorem d_Mo_unpack_38 : decode b_Mo_unpack 38 = .ok (.aload_n 0, 1) := by decide +kernel
theorem d_Mo_unpack_39 : decode b_Mo_unpack 39 = .ok (.bipush 8, 2) := by decide +kernel
theorem d_Mo_unpack_41 : decode b_Mo_unpack 41 = .ok (.invokevirtual 105, 3) := by decide +kernel
theorem d_Mo_unpack_44 : decode b_Mo_unpack 44 = .ok (.istore_n 2, 1) := by decide +kernel
theorem d_Mo_unpack_45 : decode b_Mo_unpack 45 = .ok (.aload_n 0, 1) := by decide +kernel
theorem d_Mo_unpack_46 : decode b_Mo_unpack 46 = .ok (.getfield 75, 3) := by decide +kernel
theorem d_Mo_unpack_49 : decode b_Mo_unpack 49 = .ok (.ifCond .ne 48, 3) := by decide +kernel
theorem d_Mo_unpack_52 : decode b_Mo_unpack 52 = .ok (.sipush 256, 3) := by decide +kernel
theorem d_Mo_unpack_55 : decode b_Mo_unpack 55 = .ok (.iload_n 1, 1) := by decide +kernel
theorem d_Mo_unpack_56 : decode b_Mo_unpack 56 = .ok (.imul, 1) := by decide +kernel
theorem d_Mo_unpack_57 : decode b_Mo_unpack 57 = .ok (.iload_n 2, 1) := by decide +kernel
theorem d_Mo_unpack_58 : decode b_Mo_unpack 58 = .ok (.iadd, 1) := by decide +kernel
theorem d_Mo_unpack_59 : decode b_Mo_unpack 59 = .ok (.bipush 31, 2) := by decide +kernel
theorem d_Mo_unpack_61 : decode b_Mo_unpack 61 = .ok (.irem, 1) := by decide +kernel
theorem d_Mo_unpack_62 : decode b_Mo_unpack 62 = .ok (.ifCond .ne 30, 3) := by decide +kernel
theorem d_Mo_unpack_65 : decode b_Mo_unpack 65 = .ok (.iload_n 1, 1) := by decide +kernel
theorem d_Mo_unpack_66 : decode b_Mo_unpack 66 = .ok (.bipush 16, 2) := by decide +kernel
theorem d_Mo_unpack_68 : decode b_Mo_unpack 68 = .ok (.irem, 1) := by decide +kernel
theorem d_Mo_unpack_69 : decode b_Mo_unpack 69 = .ok (.bipush 8, 2) := by decide +kernel
theorem d_Mo_unpack_71 : decode b_Mo_unpack 71 = .ok (.if_icmp .ne 21, 3) := by decide +kernel
theorem d_Mo_unpack_74 : decode b_Mo_unpack 74 = .ok (.iload_n 1, 1) := by decide +kernel
theorem d_Mo_unpack_75 : decode b_Mo_unpack 75 = .ok (.bipush 16, 2) := by decide +kernel
theorem d_Mo_unpack_77 : decode b_Mo_unpack 77 = .ok (.idiv, 1) := by decide +kernel
theorem d_Mo_unpack_78 : decode b_Mo_unpack 78 = .ok (.bipush 7, 2) := by decide +kernel
theorem d_Mo_unpack_80 : decode b_Mo_unpack 80 = .ok (.if_icmp .gt 12, 3) := by decide +kernel
theorem d_Mo_unpack_83 : decode b_Mo_unpack 83 = .ok (.iload_n 2, 1) := by decide +kernel
theorem d_Mo_unpack_84 : decode b_Mo_unpack 84 = .ok (.iconst 5, 1) := by decide +kernel
theorem d_Mo_unpack_85 : decode b_Mo_unpack 85 = .ok (.ishr, 1) := by decide +kernel
theorem d_Mo_unpack_86 : decode b_Mo_unpack 86 = .ok (.iconst 1, 1) := by decide +kernel
theorem d_Mo_unpack_87 : decode b_Mo_unpack 87 = .ok (.iand, 1) := by decide +kernel
theorem d_Mo_unpack_88 : decode b_Mo_unpack 88 = .ok (.iconst 1, 1) := by decide +kernel
theorem d_Mo_unpack_89 : decode b_Mo_unpack 89 = .ok (.if_icmp .ne 8, 3) := by decide +kernel
theorem d_Mo_unpack_92 : decode b_Mo_unpack 92 = .ok (.aload_n 0, 1) := by decide +kernel
theorem d_Mo_unpack_93 : decode b_Mo_unpack 93 = .ok (.iconst 1, 1) := by decide +kernel
theorem d_Mo_unpack_94 : decode b_Mo_unpack 94 = .ok (.invokevirtual 81, 3) := by decide +kernel
theorem d_Mo_unpack_97 : decode b_Mo_unpack 97 = .ok (.iconst 0, 1) := by decide +kernel
theorem d_Mo_unpack_98 : decode b_Mo_unpack 98 = .ok (.istore_n 3, 1) := by decide +kernel
theorem d_Mo_unpack_99 : decode b_Mo_unpack 99 = .ok (.iload_n 3, 1) := by decide +kernel
theorem d_Mo_unpack_100 : decode b_Mo_unpack 100 = .ok (.ifCond .ne 129, 3) := by decide +kernel
theorem d_Mo_unpack_103 : decode b_Mo_unpack 103 = .ok (.aload_n 0, 1) := by decide +kernel
theorem d_Mo_unpack_104 : decode b_Mo_unpack 104 = .ok (.getfield 75, 3) := by decide +kernel
theorem d_Mo_unpack_107 : decode b_Mo_unpack 107 = .ok (.ifCond .ne 122, 3) := by decide +kernel
theorem d_Mo_unpack_110 : decode b_Mo_unpack 110 = .ok (.aload_n 0, 1) := by decide +kernel
theorem d_Mo_unpack_111 : decode b_Mo_unpack 111 = .ok (.invokevirtual 85, 3) := by decide +kernel
theorem d_Mo_unpack_114 : decode b_Mo_unpack 114 = .ok (.iconst 1, 1) := by decide +kernel
theorem d_Mo_unpack_115 : decode b_Mo_unpack 115 = .ok (.if_icmp .ne 7, 3) := by decide +kernel
theorem d_Mo_unpack_118 : decode b_Mo_unpack 118 = .ok (.iconst 1, 1) := by decide +kernel
theorem d_Mo_unpack_119 : decode b_Mo_unpack 119 = .ok (.goto 4, 3) := by decide +kernel
theorem d_Mo_unpack_122 : decode b_Mo_unpack 122 = .ok (.iconst 0, 1) := by decide +kernel
theorem d_Mo_unpack_123 : decode b_Mo_unpack 123 = .ok (.istore_n 3, 1) := by decide +kernel
theorem d_Mo_unpack_124 : decode b_Mo_unpack 124 = .ok (.aload_n 0, 1) := by decide +kernel
theorem d_Mo_unpack_125 : decode b_Mo_unpack 125 = .ok (.getfield 16, 3) := by decide +kernel
theorem d_Mo_unpack_128 : decode b_Mo_unpack 128 = .ok (.bipush 6, 2) := by decide +kernel
theorem d_Mo_unpack_130 : decode b_Mo_unpack 130 = .ok (.aload_n 0, 1) := by decide +kernel
theorem d_Mo_unpack_131 : decode b_Mo_unpack 131 = .ok (.getfield 75, 3) := by decide +kernel
theorem d_Mo_unpack_134 : decode b_Mo_unpack 134 = .ok (.ifCond .ne 15, 3) := by decide +kernel
theorem d_Mo_unpack_137 : decode b_Mo_unpack 137 = .ok (.aload_n 0, 1) := by decide +kernel
theorem d_Mo_unpack_138 : decode b_Mo_unpack 138 = .ok (.getfield 16, 3) := by decide +kernel
theorem d_Mo_unpack_141 : decode b_Mo_unpack 141 = .ok (.bipush 6, 2) := by decide +kernel
theorem d_Mo_unpack_143 : decode b_Mo_unpack 143 = .ok (.iaload, 1) := by decide +kernel
theorem d_Mo_unpack_144 : decode b_Mo_unpack 144 = .ok (.iconst 1, 1) := by decide +kernel
theorem d_Mo_unpack_145 : decode b_Mo_unpack 145 = .ok (.iadd, 1) := by decide +kernel
theorem d_Mo_unpack_146 : decode b_Mo_unpack 146 = .ok (.goto 10, 3) := by decide +kernel
theorem d_Mo_unpack_149 : decode b_Mo_unpack 149 = .ok (.aload_n 0, 1) := by decide +kernel
theorem d_Mo_unpack_150 : decode b_Mo_unpack 150 = .ok (.getfield 16, 3) := by decide +kernel
theorem d_Mo_unpack_153 : decode b_Mo_unpack 153 = .ok (.bipush 6, 2) := by decide +kernel
theorem d_Mo_unpack_155 : decode b_Mo_unpack 155 = .ok (.iaload, 1) := by decide +kernel
theorem d_Mo_unpack_156 : decode b_Mo_unpack 156 = .ok (.iastore, 1) := by decide +kernel
theorem d_Mo_unpack_157 : decode b_Mo_unpack 157 = .ok (.aload_n 0, 1) := by decide +kernel
theorem d_Mo_unpack_158 : decode b_Mo_unpack 158 = .ok (.iconst 2, 1) := by decide +kernel
theorem d_Mo_unpack_159 : decode b_Mo_unpack 159 = .ok (.invokevirtual 105, 3) := by decide +kernel
theorem d_Mo_unpack_162 : decode b_Mo_unpack 162 = .ok (.istore 4, 2) := by decide +kernel
theorem d_Mo_unpack_164 : decode b_Mo_unpack 164 = .ok (.aload_n 0, 1) := by decide +kernel
theorem d_Mo_unpack_165 : decode b_Mo_unpack 165 = .ok (.getfield 75, 3) := by decide +kernel
theorem d_Mo_unpack_168 : decode b_Mo_unpack 168 = .ok (.ifCond .ne 14, 3) := by decide +kernel
theorem d_Mo_unpack_171 : decode b_Mo_unpack 171 = .ok (.iload 4, 2) := by decide +kernel
theorem d_Mo_unpack_173 : decode b_Mo_unpack 173 = .ok (.iconst 3, 1) := by decide +kernel
theorem d_Mo_unpack_174 : decode b_Mo_unpack 174 = .ok (.if_icmp .ne 8, 3) := by decide +kernel
theorem d_Mo_unpack_177 : decode b_Mo_unpack 177 = .ok (.aload_n 0, 1) := by decide +kernel
theorem d_Mo_unpack_178 : decode b_Mo_unpack 178 = .ok (.iconst 3, 1) := by decide +kernel
theorem d_Mo_unpack_179 : decode b_Mo_unpack 179 = .ok (.invokevirtual 81, 3) := by decide +kernel
theorem d_Mo_unpack_182 : decode b_Mo_unpack 182 = .ok (.aload_n 0, 1) := by decide +kernel
theorem d_Mo_unpack_183 : decode b_Mo_unpack 183 = .ok (.getfield 75, 3) := by decide +kernel
theorem d_Mo_unpack_186 : decode b_Mo_unpack 186 = .ok (.ifCond .ne 15, 3) := by decide +kernel
theorem d_Mo_unpack_189 : decode b_Mo_unpack 189 = .ok (.iload 4, 2) := by decide +kernel
theorem d_Mo_unpack_191 : decode b_Mo_unpack 191 = .ok (.ifCond .ne 10, 3) := by decide +kernel
theorem d_Mo_unpack_194 : decode b_Mo_unpack 194 = .ok (.aload_n 0, 1) := by decide +kernel
theorem d_Mo_unpack_195 : decode b_Mo_unpack 195 = .ok (.invokevirtual 145, 3) := by decide +kernel
theorem d_Mo_unpack_198 : decode b_Mo_unpack 198 = .ok (.goto 28, 3) := by decide +kernel
theorem d_Mo_unpack_201 : decode b_Mo_unpack 201 = .ok (.aload_n 0, 1) := by decide +kernel
theorem d_Mo_unpack_202 : decode b_Mo_unpack 202 = .ok (.getfield 75, 3) := by decide +kernel
theorem d_Mo_unpack_205 : decode b_Mo_unpack 205 = .ok (.ifCond .ne 21, 3) := by decide +kernel
theorem d_Mo_unpack_208 : decode b_Mo_unpack 208 = .ok (.aload_n 0, 1) := by decide +kernel
theorem d_Mo_unpack_209 : decode b_Mo_unpack 209 = .ok (.invokevirtual 148, 3) := by decide +kernel
theorem d_Mo_unpack_212 : decode b_Mo_unpack 212 = .ok (.iload 4, 2) := by decide +kernel
theorem d_Mo_unpack_214 : decode b_Mo_unpack 214 = .ok (.iconst 2, 1) := by decide +kernel
theorem d_Mo_unpack_215 : decode b_Mo_unpack 215 = .ok (.if_icmp .ne 7, 3) := by decide +kernel
theorem d_Mo_unpack_218 : decode b_Mo_unpack 218 = .ok (.aload_n 0, 1) := by decide +kernel
theorem d_Mo_unpack_219 : decode b_Mo_unpack 219 = .ok (.invokevirtual 151, 3) := by decide +kernel
theorem d_Mo_unpack_222 : decode b_Mo_unpack 222 = .ok (.aload_n 0, 1) := by decide +kernel
theorem d_Mo_unpack_223 : decode b_Mo_unpack 223 = .ok (.invokevirtual 154, 3) := by decide +kernel
theorem d_Mo_unpack_226 : decode b_Mo_unpack 226 = .ok (.goto (-127), 3) := by decide +kernel
theorem d_Mo_unpack_229 : decode b_Mo_unpack 229 = .ok (.aload_n 0, 1) := by decide +kernel
theorem d_Mo_unpack_230 : decode b_Mo_unpack 230 = .ok (.getfield 75, 3) := by decide +kernel
theorem d_Mo_unpack_233 : decode b_Mo_unpack 233 = .ok (.ifCond .ne 7, 3) := by decide +kernel
theorem d_Mo_unpack_236 : decode b_Mo_unpack 236 = .ok (.aload_n 0, 1) := by decide +kernel
theorem d_Mo_unpack_237 : decode b_Mo_unpack 237 = .ok (.invokevirtual 137, 3) := by decide +kernel
theorem d_Mo_unpack_240 : decode b_Mo_unpack 240 = .ok (.lconst 0, 1) := by decide +kernel
theorem d_Mo_unpack_241 : decode b_Mo_unpack 241 = .ok (.lstore 4, 2) := by decide +kernel
theorem d_Mo_unpack_243 : decode b_Mo_unpack 243 = .ok (.iconst 0, 1) := by decide +kernel
theorem d_Mo_unpack_244 : decode b_Mo_unpack 244 = .ok (.istore 6, 2) := by decide +kernel
theorem d_Mo_unpack_246 : decode b_Mo_unpack 246 = .ok (.iload 6, 2) := by decide +kernel
theorem d_Mo_unpack_248 : decode b_Mo_unpack 248 = .ok (.iconst 4, 1) := by decide +kernel
theorem d_Mo_unpack_249 : decode b_Mo_unpack 249 = .ok (.if_icmp .ge 25, 3) := by decide +kernel
theorem d_Mo_unpack_252 : decode b_Mo_unpack 252 = .ok (.ldc2_w 157, 3) := by decide +kernel
theorem d_Mo_unpack_255 : decode b_Mo_unpack 255 = .ok (.lload 4, 2) := by decide +kernel
theorem d_Mo_unpack_257 : decode b_Mo_unpack 257 = .ok (.lmul, 1) := by decide +kernel
theorem d_Mo_unpack_258 : decode b_Mo_unpack 258 = .ok (.aload_n 0, 1) := by decide +kernel
theorem d_Mo_unpack_259 : decode b_Mo_unpack 259 = .ok (.bipush 8, 2) := by decide +kernel
theorem d_Mo_unpack_261 : decode b_Mo_unpack 261 = .ok (.invokevirtual 105, 3) := by decide +kernel
theorem d_Mo_unpack_264 : decode b_Mo_unpack 264 = .ok (.i2l, 1) := by decide +kernel
theorem d_Mo_unpack_265 : decode b_Mo_unpack 265 = .ok (.ladd, 1) := by decide +kernel
theorem d_Mo_unpack_266 : decode b_Mo_unpack 266 = .ok (.lstore 4, 2) := by decide +kernel
theorem d_Mo_unpack_268 : decode b_Mo_unpack 268 = .ok (.iinc 6 1, 3) := by decide +kernel
theorem d_Mo_unpack_271 : decode b_Mo_unpack 271 = .ok (.goto (-25), 3) := by decide +kernel
theorem d_Mo_unpack_274 : decode b_Mo_unpack 274 = .ok (.aload_n 0, 1) := by decide +kernel
theorem d_Mo_unpack_275 : decode b_Mo_unpack 275 = .ok (.getfield 75, 3) := by decide +kernel
theorem d_Mo_unpack_278 : decode b_Mo_unpack 278 = .ok (.ifCond .ne 26, 3) := by decide +kernel
theorem d_Mo_unpack_281 : decode b_Mo_unpack 281 = .ok (.lload 4, 2) := by decide +kernel
theorem d_Mo_unpack_283 : decode b_Mo_unpack 283 = .ok (.aload_n 0, 1) := by decide +kernel
theorem d_Mo_unpack_284 : decode b_Mo_unpack 284 = .ok (.getfield 13, 3) := by decide +kernel
theorem d_Mo_unpack_287 : decode b_Mo_unpack 287 = .ok (.aload_n 0, 1) := by decide +kernel
theorem d_Mo_unpack_288 : decode b_Mo_unpack 288 = .ok (.getfield 72, 3) := by decide +kernel
theorem d_Mo_unpack_291 : decode b_Mo_unpack 291 = .ok (.invokestatic 159, 3) := by decide +kernel
theorem d_Mo_unpack_294 : decode b_Mo_unpack 294 = .ok (.lcmp, 1) := by decide +kernel
theorem d_Mo_unpack_295 : decode b_Mo_unpack 295 = .ok (.ifCond .eq 9, 3) := by decide +kernel
theorem d_Mo_unpack_298 : decode b_Mo_unpack 298 = .ok (.aload_n 0, 1) := by decide +kernel
theorem d_Mo_unpack_299 : decode b_Mo_unpack 299 = .ok (.bipush 11, 2) := by decide +kernel
theorem d_Mo_unpack_301 : decode b_Mo_unpack 301 = .ok (.invokevirtual 81, 3) := by decide +kernel
theorem d_Mo_unpack_304 : decode b_Mo_unpack 304 = .ok (.aload_n 0, 1) := by decide +kernel
theorem d_Mo_unpack_305 : decode b_Mo_unpack 305 = .ok (.getfield 75, 3) := by decide +kernel
theorem d_Mo_unpack_308 : decode b_Mo_unpack 308 = .ok (.ifCond .ne 23, 3) := by decide +kernel
theorem d_Mo_unpack_311 : decode b_Mo_unpack 311 = .ok (.aload_n 0, 1) := by decide +kernel
theorem d_Mo_unpack_312 : decode b_Mo_unpack 312 = .ok (.getfield 78, 3) := by decide +kernel
theorem d_Mo_unpack_315 : decode b_Mo_unpack 315 = .ok (.bipush 8, 2) := by decide +kernel
theorem d_Mo_unpack_317 : decode b_Mo_unpack 317 = .ok (.aload_n 0, 1) := by decide +kernel
theorem d_Mo_unpack_318 : decode b_Mo_unpack 318 = .ok (.getfield 65, 3) := by decide +kernel
theorem d_Mo_unpack_321 : decode b_Mo_unpack 321 = .ok (.imul, 1) := by decide +kernel
theorem d_Mo_unpack_322 : decode b_Mo_unpack 322 = .ok (.if_icmp .eq 9, 3) := by decide +kernel
theorem d_Mo_unpack_325 : decode b_Mo_unpack 325 = .ok (.aload_n 0, 1) := by decide +kernel
theorem d_Mo_unpack_326 : decode b_Mo_unpack 326 = .ok (.bipush 12, 2) := by decide +kernel
theorem d_Mo_unpack_328 : decode b_Mo_unpack 328 = .ok (.invokevirtual 81, 3) := by decide +kernel
theorem d_Mo_unpack_331 : decode b_Mo_unpack 331 = .ok (.aload_n 0, 1) := by decide +kernel
theorem d_Mo_unpack_332 : decode b_Mo_unpack 332 = .ok (.getfield 75, 3) := by decide +kernel
theorem d_Mo_unpack_335 : decode b_Mo_unpack 335 = .ok (.ifCond .eq 13, 3) := by decide +kernel
theorem d_Mo_unpack_338 : decode b_Mo_unpack 338 = .ok (.bipush (-10), 2) := by decide +kernel
theorem d_Mo_unpack_340 : decode b_Mo_unpack 340 = .ok (.aload_n 0, 1) := by decide +kernel
theorem d_Mo_unpack_341 : decode b_Mo_unpack 341 = .ok (.getfield 75, 3) := by decide +kernel
theorem d_Mo_unpack_344 : decode b_Mo_unpack 344 = .ok (.isub, 1) := by decide +kernel
theorem d_Mo_unpack_345 : decode b_Mo_unpack 345 = .ok (.goto 7, 3) := by decide +kernel
theorem d_Mo_unpack_348 : decode b_Mo_unpack 348 = .ok (.aload_n 0, 1) := by decide +kernel
theorem d_Mo_unpack_349 : decode b_Mo_unpack 349 = .ok (.getfield 72, 3) := by decide +kernel
theorem d_Mo_unpack_352 : decode b_Mo_unpack 352 = .ok (.ireturn, 1) := by decide +kernel
theorem d_Mo_read_0 : decode b_Mo_read 0 = .ok (.aload_n 0, 1) := by decide +kernel
theorem d_Mo_read_1 : decode b_Mo_read 1 = .ok (.getfield 78, 3) := by decide +kernel
theorem d_Mo_read_4 : decode b_Mo_read 4 = .ok (.ireturn, 1) := by decide +kernel
theorem d_Mo_bestAt_0 : decode b_Mo_bestAt 0 = .ok (.iconst 0, 1) := by decide +kernel
theorem d_Mo_bestAt_1 : decode b_Mo_bestAt 1 = .ok (.istore 4, 2) := by decide +kernel
theorem d_Mo_bestAt_3 : decode b_Mo_bestAt 3 = .ok (.iconst 0, 1) := by decide +kernel
theorem d_Mo_bestAt_4 : decode b_Mo_bestAt 4 = .ok (.istore 5, 2) := by decide +kernel
theorem d_Mo_bestAt_6 : decode b_Mo_bestAt 6 = .ok (.iload_n 1, 1) := by decide +kernel
theorem d_Mo_bestAt_7 : decode b_Mo_bestAt 7 = .ok (.iconst 1, 1) := by decide +kernel
theorem d_Mo_bestAt_8 : decode b_Mo_bestAt 8 = .ok (.isub, 1) := by decide +kernel
theorem d_Mo_bestAt_9 : decode b_Mo_bestAt 9 = .ok (.istore 6, 2) := by decide +kernel
theorem d_Mo_bestAt_11 : decode b_Mo_bestAt 11 = .ok (.iload 6, 2) := by decide +kernel
theorem d_Mo_bestAt_13 : decode b_Mo_bestAt 13 = .ok (.ifCond .lt 114, 3) := by decide +kernel
theorem d_Mo_bestAt_16 : decode b_Mo_bestAt 16 = .ok (.iload_n 1, 1) := by decide +kernel
theorem d_Mo_bestAt_17 : decode b_Mo_bestAt 17 = .ok (.iload 6, 2) := by decide +kernel
theorem d_Mo_bestAt_19 : decode b_Mo_bestAt 19 = .ok (.isub, 1) := by decide +kernel
theorem d_Mo_bestAt_20 : decode b_Mo_bestAt 20 = .ok (.ldc 96, 2) := by decide +kernel
theorem d_Mo_bestAt_22 : decode b_Mo_bestAt 22 = .ok (.if_icmp .gt 105, 3) := by decide +kernel
theorem d_Mo_bestAt_25 : decode b_Mo_bestAt 25 = .ok (.iload_n 1, 1) := by decide +kernel
theorem d_Mo_bestAt_26 : decode b_Mo_bestAt 26 = .ok (.iconst 3, 1) := by decide +kernel
theorem d_Mo_bestAt_27 : decode b_Mo_bestAt 27 = .ok (.iadd, 1) := by decide +kernel
theorem d_Mo_bestAt_28 : decode b_Mo_bestAt 28 = .ok (.iload_n 2, 1) := by decide +kernel
theorem d_Mo_bestAt_29 : decode b_Mo_bestAt 29 = .ok (.if_icmp .gt 98, 3) := by decide +kernel
theorem d_Mo_bestAt_32 : decode b_Mo_bestAt 32 = .ok (.iload 5, 2) := by decide +kernel
theorem d_Mo_bestAt_34 : decode b_Mo_bestAt 34 = .ok (.iload_n 3, 1) := by decide +kernel
theorem d_Mo_bestAt_35 : decode b_Mo_bestAt 35 = .ok (.if_icmp .ge 92, 3) := by decide +kernel
theorem d_Mo_bestAt_38 : decode b_Mo_bestAt 38 = .ok (.iconst 0, 1) := by decide +kernel
theorem d_Mo_bestAt_39 : decode b_Mo_bestAt 39 = .ok (.istore 7, 2) := by decide +kernel
theorem d_Mo_bestAt_41 : decode b_Mo_bestAt 41 = .ok (.iload_n 1, 1) := by decide +kernel
theorem d_Mo_bestAt_42 : decode b_Mo_bestAt 42 = .ok (.iload 7, 2) := by decide +kernel
theorem d_Mo_bestAt_44 : decode b_Mo_bestAt 44 = .ok (.iadd, 1) := by decide +kernel
theorem d_Mo_bestAt_45 : decode b_Mo_bestAt 45 = .ok (.iload_n 2, 1) := by decide +kernel
theorem d_Mo_bestAt_46 : decode b_Mo_bestAt 46 = .ok (.if_icmp .ge 39, 3) := by decide +kernel
theorem d_Mo_bestAt_49 : decode b_Mo_bestAt 49 = .ok (.iload 7, 2) := by decide +kernel
theorem d_Mo_bestAt_51 : decode b_Mo_bestAt 51 = .ok (.sipush 258, 3) := by decide +kernel
theorem d_Mo_bestAt_54 : decode b_Mo_bestAt 54 = .ok (.if_icmp .ge 31, 3) := by decide +kernel
theorem d_Mo_bestAt_57 : decode b_Mo_bestAt 57 = .ok (.aload_n 0, 1) := by decide +kernel
theorem d_Mo_bestAt_58 : decode b_Mo_bestAt 58 = .ok (.getfield 7, 3) := by decide +kernel
theorem d_Mo_bestAt_61 : decode b_Mo_bestAt 61 = .ok (.iload 6, 2) := by decide +kernel
theorem d_Mo_bestAt_63 : decode b_Mo_bestAt 63 = .ok (.iload 7, 2) := by decide +kernel
theorem d_Mo_bestAt_65 : decode b_Mo_bestAt 65 = .ok (.iadd, 1) := by decide +kernel
theorem d_Mo_bestAt_66 : decode b_Mo_bestAt 66 = .ok (.iaload, 1) := by decide +kernel
theorem d_Mo_bestAt_67 : decode b_Mo_bestAt 67 = .ok (.aload_n 0, 1) := by decide +kernel
theorem d_Mo_bestAt_68 : decode b_Mo_bestAt 68 = .ok (.getfield 7, 3) := by decide +kernel
theorem d_Mo_bestAt_71 : decode b_Mo_bestAt 71 = .ok (.iload_n 1, 1) := by decide +kernel
theorem d_Mo_bestAt_72 : decode b_Mo_bestAt 72 = .ok (.iload 7, 2) := by decide +kernel
theorem d_Mo_bestAt_74 : decode b_Mo_bestAt 74 = .ok (.iadd, 1) := by decide +kernel
theorem d_Mo_bestAt_75 : decode b_Mo_bestAt 75 = .ok (.iaload, 1) := by decide +kernel
theorem d_Mo_bestAt_76 : decode b_Mo_bestAt 76 = .ok (.if_icmp .ne 9, 3) := by decide +kernel
theorem d_Mo_bestAt_79 : decode b_Mo_bestAt 79 = .ok (.iinc 7 1, 3) := by decide +kernel
theorem d_Mo_bestAt_82 : decode b_Mo_bestAt 82 = .ok (.goto (-41), 3) := by decide +kernel
theorem d_Mo_bestAt_85 : decode b_Mo_bestAt 85 = .ok (.iload 7, 2) := by decide +kernel
theorem d_Mo_bestAt_87 : decode b_Mo_bestAt 87 = .ok (.iconst 3, 1) := by decide +kernel
theorem d_Mo_bestAt_88 : decode b_Mo_bestAt 88 = .ok (.if_icmp .lt 33, 3) := by decide +kernel
theorem d_Mo_bestAt_91 : decode b_Mo_bestAt 91 = .ok (.iinc 5 1, 3) := by decide +kernel
theorem d_Mo_bestAt_94 : decode b_Mo_bestAt 94 = .ok (.iload 7, 2) := by decide +kernel
theorem d_Mo_bestAt_96 : decode b_Mo_bestAt 96 = .ok (.iload 4, 2) := by decide +kernel
theorem d_Mo_bestAt_98 : decode b_Mo_bestAt 98 = .ok (.ldc 163, 2) := by decide +kernel
theorem d_Mo_bestAt_100 : decode b_Mo_bestAt 100 = .ok (.idiv, 1) := by decide +kernel
theorem d_Mo_bestAt_101 : decode b_Mo_bestAt 101 = .ok (.if_icmp .le 16, 3) := by decide +kernel
theorem d_Mo_bestAt_104 : decode b_Mo_bestAt 104 = .ok (.ldc 163, 2) := by decide +kernel
theorem d_Mo_bestAt_106 : decode b_Mo_bestAt 106 = .ok (.iload 7, 2) := by decide +kernel
theorem d_Mo_bestAt_108 : decode b_Mo_bestAt 108 = .ok (.imul, 1) := by decide +kernel
theorem d_Mo_bestAt_109 : decode b_Mo_bestAt 109 = .ok (.iload_n 1, 1) := by decide +kernel
theorem d_Mo_bestAt_110 : decode b_Mo_bestAt 110 = .ok (.iadd, 1) := by decide +kernel
theorem d_Mo_bestAt_111 : decode b_Mo_bestAt 111 = .ok (.iload 6, 2) := by decide +kernel
theorem d_Mo_bestAt_113 : decode b_Mo_bestAt 113 = .ok (.isub, 1) := by decide +kernel
theorem d_Mo_bestAt_114 : decode b_Mo_bestAt 114 = .ok (.goto 5, 3) := by decide +kernel
theorem d_Mo_bestAt_117 : decode b_Mo_bestAt 117 = .ok (.iload 4, 2) := by decide +kernel
theorem d_Mo_bestAt_119 : decode b_Mo_bestAt 119 = .ok (.istore 4, 2) := by decide +kernel
theorem d_Mo_bestAt_121 : decode b_Mo_bestAt 121 = .ok (.iinc 6 (-1), 3) := by decide +kernel
theorem d_Mo_bestAt_124 : decode b_Mo_bestAt 124 = .ok (.goto (-113), 3) := by decide +kernel
theorem d_Mo_bestAt_127 : decode b_Mo_bestAt 127 = .ok (.iload 4, 2) := by decide +kernel
theorem d_Mo_bestAt_129 : decode b_Mo_bestAt 129 = .ok (.ireturn, 1) := by decide +kernel
theorem d_Mo_findTokens_0 : decode b_Mo_findTokens 0 = .ok (.aload_n 0, 1) := by decide +kernel
theorem d_Mo_findTokens_1 : decode b_Mo_findTokens 1 = .ok (.iconst 0, 1) := by decide +kernel
theorem d_Mo_findTokens_2 : decode b_Mo_findTokens 2 = .ok (.putfield 164, 3) := by decide +kernel
theorem d_Mo_findTokens_5 : decode b_Mo_findTokens 5 = .ok (.iload_n 1, 1) := by decide +kernel
theorem d_Mo_findTokens_6 : decode b_Mo_findTokens 6 = .ok (.istore 5, 2) := by decide +kernel
theorem d_Mo_findTokens_8 : decode b_Mo_findTokens 8 = .ok (.iload 5, 2) := by decide +kernel
theorem d_Mo_findTokens_10 : decode b_Mo_findTokens 10 = .ok (.iload_n 2, 1) := by decide +kernel
theorem d_Mo_findTokens_11 : decode b_Mo_findTokens 11 = .ok (.if_icmp .ge 146, 3) := by decide +kernel
theorem d_Mo_findTokens_14 : decode b_Mo_findTokens 14 = .ok (.aload_n 0, 1) := by decide +kernel
theorem d_Mo_findTokens_15 : decode b_Mo_findTokens 15 = .ok (.iload 5, 2) := by decide +kernel
theorem d_Mo_findTokens_17 : decode b_Mo_findTokens 17 = .ok (.iload_n 2, 1) := by decide +kernel
theorem d_Mo_findTokens_18 : decode b_Mo_findTokens 18 = .ok (.iload_n 3, 1) := by decide +kernel
theorem d_Mo_findTokens_19 : decode b_Mo_findTokens 19 = .ok (.invokevirtual 167, 3) := by decide +kernel
theorem d_Mo_findTokens_22 : decode b_Mo_findTokens 22 = .ok (.istore 6, 2) := by decide +kernel
theorem d_Mo_findTokens_24 : decode b_Mo_findTokens 24 = .ok (.iload 6, 2) := by decide +kernel
theorem d_Mo_findTokens_26 : decode b_Mo_findTokens 26 = .ok (.ifCond .eq 37, 3) := by decide +kernel
theorem d_Mo_findTokens_29 : decode b_Mo_findTokens 29 = .ok (.iload 4, 2) := by decide +kernel
theorem d_Mo_findTokens_31 : decode b_Mo_findTokens 31 = .ok (.ifCond .eq 36, 3) := by decide +kernel
theorem d_Mo_findTokens_34 : decode b_Mo_findTokens 34 = .ok (.iload 5, 2) := by decide +kernel
theorem d_Mo_findTokens_36 : decode b_Mo_findTokens 36 = .ok (.iconst 1, 1) := by decide +kernel
theorem d_Mo_findTokens_37 : decode b_Mo_findTokens 37 = .ok (.iadd, 1) := by decide +kernel
theorem d_Mo_findTokens_38 : decode b_Mo_findTokens 38 = .ok (.iload_n 2, 1) := by decide +kernel
theorem d_Mo_findTokens_39 : decode b_Mo_findTokens 39 = .ok (.if_icmp .ge 28, 3) := by decide +kernel
theorem d_Mo_findTokens_42 : decode b_Mo_findTokens 42 = .ok (.aload_n 0, 1) := by decide +kernel
theorem d_Mo_findTokens_43 : decode b_Mo_findTokens 43 = .ok (.iload 5, 2) := by decide +kernel
theorem d_Mo_findTokens_45 : decode b_Mo_findTokens 45 = .ok (.iconst 1, 1) := by decide +kernel
theorem d_Mo_findTokens_46 : decode b_Mo_findTokens 46 = .ok (.iadd, 1) := by decide +kernel
theorem d_Mo_findTokens_47 : decode b_Mo_findTokens 47 = .ok (.iload_n 2, 1) := by decide +kernel
theorem d_Mo_findTokens_48 : decode b_Mo_findTokens 48 = .ok (.iload_n 3, 1) := by decide +kernel
theorem d_Mo_findTokens_49 : decode b_Mo_findTokens 49 = .ok (.invokevirtual 167, 3) := by decide +kernel
theorem d_Mo_findTokens_52 : decode b_Mo_findTokens 52 = .ok (.ldc 163, 2) := by decide +kernel
theorem d_Mo_findTokens_54 : decode b_Mo_findTokens 54 = .ok (.idiv, 1) := by decide +kernel
theorem d_Mo_findTokens_55 : decode b_Mo_findTokens 55 = .ok (.iload 6, 2) := by decide +kernel
theorem d_Mo_findTokens_57 : decode b_Mo_findTokens 57 = .ok (.ldc 163, 2) := by decide +kernel
theorem d_Mo_findTokens_59 : decode b_Mo_findTokens 59 = .ok (.idiv, 1) := by decide +kernel
theorem d_Mo_findTokens_60 : decode b_Mo_findTokens 60 = .ok (.if_icmp .le 7, 3) := by decide +kernel
theorem d_Mo_findTokens_63 : decode b_Mo_findTokens 63 = .ok (.iconst 1, 1) := by decide +kernel
theorem d_Mo_findTokens_64 : decode b_Mo_findTokens 64 = .ok (.goto 4, 3) := by decide +kernel
theorem d_Mo_findTokens_67 : decode b_Mo_findTokens 67 = .ok (.iconst 0, 1) := by decide +kernel
theorem d_Mo_findTokens_68 : decode b_Mo_findTokens 68 = .ok (.istore 7, 2) := by decide +kernel
theorem d_Mo_findTokens_70 : decode b_Mo_findTokens 70 = .ok (.aload_n 0, 1) := by decide +kernel
theorem d_Mo_findTokens_71 : decode b_Mo_findTokens 71 = .ok (.getfield 28, 3) := by decide +kernel
theorem d_Mo_findTokens_74 : decode b_Mo_findTokens 74 = .ok (.aload_n 0, 1) := by decide +kernel
theorem d_Mo_findTokens_75 : decode b_Mo_findTokens 75 = .ok (.getfield 164, 3) := by decide +kernel
theorem d_Mo_findTokens_78 : decode b_Mo_findTokens 78 = .ok (.iload 7, 2) := by decide +kernel
theorem d_Mo_findTokens_80 : decode b_Mo_findTokens 80 = .ok (.ifCond .eq 7, 3) := by decide +kernel
theorem d_Mo_findTokens_83 : decode b_Mo_findTokens 83 = .ok (.iconst 0, 1) := by decide +kernel
theorem d_Mo_findTokens_84 : decode b_Mo_findTokens 84 = .ok (.goto 8, 3) := by decide +kernel
theorem d_Mo_findTokens_87 : decode b_Mo_findTokens 87 = .ok (.iload 6, 2) := by decide +kernel
theorem d_Mo_findTokens_89 : decode b_Mo_findTokens 89 = .ok (.ldc 163, 2) := by decide +kernel
theorem d_Mo_findTokens_91 : decode b_Mo_findTokens 91 = .ok (.idiv, 1) := by decide +kernel
theorem d_Mo_findTokens_92 : decode b_Mo_findTokens 92 = .ok (.iastore, 1) := by decide +kernel
theorem d_Mo_findTokens_93 : decode b_Mo_findTokens 93 = .ok (.aload_n 0, 1) := by decide +kernel
theorem d_Mo_findTokens_94 : decode b_Mo_findTokens 94 = .ok (.getfield 31, 3) := by decide +kernel
theorem d_Mo_findTokens_97 : decode b_Mo_findTokens 97 = .ok (.aload_n 0, 1) := by decide +kernel
theorem d_Mo_findTokens_98 : decode b_Mo_findTokens 98 = .ok (.getfield 164, 3) := by decide +kernel
theorem d_Mo_findTokens_101 : decode b_Mo_findTokens 101 = .ok (.iload 7, 2) := by decide +kernel
theorem d_Mo_findTokens_103 : decode b_Mo_findTokens 103 = .ok (.ifCond .eq 13, 3) := by decide +kernel
theorem d_Mo_findTokens_106 : decode b_Mo_findTokens 106 = .ok (.aload_n 0, 1) := by decide +kernel
theorem d_Mo_findTokens_107 : decode b_Mo_findTokens 107 = .ok (.getfield 7, 3) := by decide +kernel
theorem d_Mo_findTokens_110 : decode b_Mo_findTokens 110 = .ok (.iload 5, 2) := by decide +kernel
theorem d_Mo_findTokens_112 : decode b_Mo_findTokens 112 = .ok (.iaload, 1) := by decide +kernel
theorem d_Mo_findTokens_113 : decode b_Mo_findTokens 113 = .ok (.goto 8, 3) := by decide +kernel
theorem d_Mo_findTokens_116 : decode b_Mo_findTokens 116 = .ok (.iload 6, 2) := by decide +kernel
theorem d_Mo_findTokens_118 : decode b_Mo_findTokens 118 = .ok (.ldc 163, 2) := by decide +kernel
theorem d_Mo_findTokens_120 : decode b_Mo_findTokens 120 = .ok (.irem, 1) := by decide +kernel
theorem d_Mo_findTokens_121 : decode b_Mo_findTokens 121 = .ok (.iastore, 1) := by decide +kernel
theorem d_Mo_findTokens_122 : decode b_Mo_findTokens 122 = .ok (.aload_n 0, 1) := by decide +kernel
theorem d_Mo_findTokens_123 : decode b_Mo_findTokens 123 = .ok (.dup, 1) := by decide +kernel
theorem d_Mo_findTokens_124 : decode b_Mo_findTokens 124 = .ok (.getfield 164, 3) := by decide +kernel
theorem d_Mo_findTokens_127 : decode b_Mo_findTokens 127 = .ok (.iconst 1, 1) := by decide +kernel
theorem d_Mo_findTokens_128 : decode b_Mo_findTokens 128 = .ok (.iadd, 1) := by decide +kernel
theorem d_Mo_findTokens_129 : decode b_Mo_findTokens 129 = .ok (.putfield 164, 3) := by decide +kernel
theorem d_Mo_findTokens_132 : decode b_Mo_findTokens 132 = .ok (.iload 7, 2) := by decide +kernel
theorem d_Mo_findTokens_134 : decode b_Mo_findTokens 134 = .ok (.ifCond .eq 10, 3) := by decide +kernel
theorem d_Mo_findTokens_137 : decode b_Mo_findTokens 137 = .ok (.iload 5, 2) := by decide +kernel
theorem d_Mo_findTokens_139 : decode b_Mo_findTokens 139 = .ok (.iconst 1, 1) := by decide +kernel
theorem d_Mo_findTokens_140 : decode b_Mo_findTokens 140 = .ok (.iadd, 1) := by decide +kernel
theorem d_Mo_findTokens_141 : decode b_Mo_findTokens 141 = .ok (.goto 11, 3) := by decide +kernel
theorem d_Mo_findTokens_144 : decode b_Mo_findTokens 144 = .ok (.iload 5, 2) := by decide +kernel
theorem d_Mo_findTokens_146 : decode b_Mo_findTokens 146 = .ok (.iload 6, 2) := by decide +kernel
theorem d_Mo_findTokens_148 : decode b_Mo_findTokens 148 = .ok (.ldc 163, 2) := by decide +kernel
theorem d_Mo_findTokens_150 : decode b_Mo_findTokens 150 = .ok (.idiv, 1) := by decide +kernel
theorem d_Mo_findTokens_151 : decode b_Mo_findTokens 151 = .ok (.iadd, 1) := by decide +kernel
theorem d_Mo_findTokens_152 : decode b_Mo_findTokens 152 = .ok (.istore 5, 2) := by decide +kernel
theorem d_Mo_findTokens_154 : decode b_Mo_findTokens 154 = .ok (.goto (-146), 3) := by decide +kernel
theorem d_Mo_findTokens_157 : decode b_Mo_findTokens 157 = .ok (.return_, 1) := by decide +kernel
theorem d_Mo_lengthSymbol_0 : decode b_Mo_lengthSymbol 0 = .ok (.sipush 257, 3) := by decide +kernel
theorem d_Mo_lengthSymbol_3 : decode b_Mo_lengthSymbol 3 = .ok (.istore_n 1, 1) := by decide +kernel
theorem d_Mo_lengthSymbol_4 : decode b_Mo_lengthSymbol 4 = .ok (.iload_n 1, 1) := by decide +kernel
theorem d_Mo_lengthSymbol_5 : decode b_Mo_lengthSymbol 5 = .ok (.sipush 284, 3) := by decide +kernel
theorem d_Mo_lengthSymbol_8 : decode b_Mo_lengthSymbol 8 = .ok (.if_icmp .ge 19, 3) := by decide +kernel
theorem d_Mo_lengthSymbol_11 : decode b_Mo_lengthSymbol 11 = .ok (.iload_n 1, 1) := by decide +kernel
theorem d_Mo_lengthSymbol_12 : decode b_Mo_lengthSymbol 12 = .ok (.iconst 1, 1) := by decide +kernel
theorem d_Mo_lengthSymbol_13 : decode b_Mo_lengthSymbol 13 = .ok (.iadd, 1) := by decide +kernel
theorem d_Mo_lengthSymbol_14 : decode b_Mo_lengthSymbol 14 = .ok (.invokestatic 131, 3) := by decide +kernel
theorem d_Mo_lengthSymbol_17 : decode b_Mo_lengthSymbol 17 = .ok (.iload_n 0, 1) := by decide +kernel
theorem d_Mo_lengthSymbol_18 : decode b_Mo_lengthSymbol 18 = .ok (.if_icmp .gt 9, 3) := by decide +kernel
theorem d_Mo_lengthSymbol_21 : decode b_Mo_lengthSymbol 21 = .ok (.iinc 1 1, 3) := by decide +kernel
theorem d_Mo_lengthSymbol_24 : decode b_Mo_lengthSymbol 24 = .ok (.goto (-20), 3) := by decide +kernel
theorem d_Mo_lengthSymbol_27 : decode b_Mo_lengthSymbol 27 = .ok (.iload_n 0, 1) := by decide +kernel
theorem d_Mo_lengthSymbol_28 : decode b_Mo_lengthSymbol 28 = .ok (.sipush 258, 3) := by decide +kernel
theorem d_Mo_lengthSymbol_31 : decode b_Mo_lengthSymbol 31 = .ok (.if_icmp .ne 9, 3) := by decide +kernel
theorem d_Mo_lengthSymbol_34 : decode b_Mo_lengthSymbol 34 = .ok (.sipush 285, 3) := by decide +kernel
theorem d_Mo_lengthSymbol_37 : decode b_Mo_lengthSymbol 37 = .ok (.goto 4, 3) := by decide +kernel
theorem d_Mo_lengthSymbol_40 : decode b_Mo_lengthSymbol 40 = .ok (.iload_n 1, 1) := by decide +kernel
theorem d_Mo_lengthSymbol_41 : decode b_Mo_lengthSymbol 41 = .ok (.ireturn, 1) := by decide +kernel
theorem d_Mo_distanceSymbol_0 : decode b_Mo_distanceSymbol 0 = .ok (.iconst 0, 1) := by decide +kernel
theorem d_Mo_distanceSymbol_1 : decode b_Mo_distanceSymbol 1 = .ok (.istore_n 1, 1) := by decide +kernel
theorem d_Mo_distanceSymbol_2 : decode b_Mo_distanceSymbol 2 = .ok (.iload_n 1, 1) := by decide +kernel
theorem d_Mo_distanceSymbol_3 : decode b_Mo_distanceSymbol 3 = .ok (.bipush 29, 2) := by decide +kernel
theorem d_Mo_distanceSymbol_5 : decode b_Mo_distanceSymbol 5 = .ok (.if_icmp .ge 19, 3) := by decide +kernel
theorem d_Mo_distanceSymbol_8 : decode b_Mo_distanceSymbol 8 = .ok (.iload_n 1, 1) := by decide +kernel
theorem d_Mo_distanceSymbol_9 : decode b_Mo_distanceSymbol 9 = .ok (.iconst 1, 1) := by decide +kernel
theorem d_Mo_distanceSymbol_10 : decode b_Mo_distanceSymbol 10 = .ok (.iadd, 1) := by decide +kernel
theorem d_Mo_distanceSymbol_11 : decode b_Mo_distanceSymbol 11 = .ok (.invokestatic 134, 3) := by decide +kernel
theorem d_Mo_distanceSymbol_14 : decode b_Mo_distanceSymbol 14 = .ok (.iload_n 0, 1) := by decide +kernel
theorem d_Mo_distanceSymbol_15 : decode b_Mo_distanceSymbol 15 = .ok (.if_icmp .gt 9, 3) := by decide +kernel
theorem d_Mo_distanceSymbol_18 : decode b_Mo_distanceSymbol 18 = .ok (.iinc 1 1, 3) := by decide +kernel
theorem d_Mo_distanceSymbol_21 : decode b_Mo_distanceSymbol 21 = .ok (.goto (-19), 3) := by decide +kernel
theorem d_Mo_distanceSymbol_24 : decode b_Mo_distanceSymbol 24 = .ok (.iload_n 1, 1) := by decide +kernel
theorem d_Mo_distanceSymbol_25 : decode b_Mo_distanceSymbol 25 = .ok (.ireturn, 1) := by decide +kernel
theorem d_Mo_count_0 : decode b_Mo_count 0 = .ok (.iconst 0, 1) := by decide +kernel
theorem d_Mo_count_1 : decode b_Mo_count 1 = .ok (.istore_n 1, 1) := by decide +kernel
theorem d_Mo_count_2 : decode b_Mo_count 2 = .ok (.iload_n 1, 1) := by decide +kernel
theorem d_Mo_count_3 : decode b_Mo_count 3 = .ok (.sipush 320, 3) := by decide +kernel
theorem d_Mo_count_6 : decode b_Mo_count 6 = .ok (.if_icmp .ge 16, 3) := by decide +kernel
theorem d_Mo_count_9 : decode b_Mo_count 9 = .ok (.aload_n 0, 1) := by decide +kernel
theorem d_Mo_count_10 : decode b_Mo_count 10 = .ok (.getfield 34, 3) := by decide +kernel
theorem d_Mo_count_13 : decode b_Mo_count 13 = .ok (.iload_n 1, 1) := by decide +kernel
theorem d_Mo_count_14 : decode b_Mo_count 14 = .ok (.iconst 0, 1) := by decide +kernel
theorem d_Mo_count_15 : decode b_Mo_count 15 = .ok (.iastore, 1) := by decide +kernel
theorem d_Mo_count_16 : decode b_Mo_count 16 = .ok (.iinc 1 1, 3) := by decide +kernel
theorem d_Mo_count_19 : decode b_Mo_count 19 = .ok (.goto (-17), 3) := by decide +kernel
theorem d_Mo_count_22 : decode b_Mo_count 22 = .ok (.aload_n 0, 1) := by decide +kernel
theorem d_Mo_count_23 : decode b_Mo_count 23 = .ok (.getfield 34, 3) := by decide +kernel
theorem d_Mo_count_26 : decode b_Mo_count 26 = .ok (.sipush 256, 3) := by decide +kernel
theorem d_Mo_count_29 : decode b_Mo_count 29 = .ok (.iconst 1, 1) := by decide +kernel
theorem d_Mo_count_30 : decode b_Mo_count 30 = .ok (.iastore, 1) := by decide +kernel
theorem d_Mo_count_31 : decode b_Mo_count 31 = .ok (.iconst 0, 1) := by decide +kernel
theorem d_Mo_count_32 : decode b_Mo_count 32 = .ok (.istore_n 1, 1) := by decide +kernel
theorem d_Mo_count_33 : decode b_Mo_count 33 = .ok (.iload_n 1, 1) := by decide +kernel
theorem d_Mo_count_34 : decode b_Mo_count 34 = .ok (.aload_n 0, 1) := by decide +kernel
theorem d_Mo_count_35 : decode b_Mo_count 35 = .ok (.getfield 164, 3) := by decide +kernel
theorem d_Mo_count_38 : decode b_Mo_count 38 = .ok (.if_icmp .ge 76, 3) := by decide +kernel
theorem d_Mo_count_41 : decode b_Mo_count 41 = .ok (.aload_n 0, 1) := by decide +kernel
theorem d_Mo_count_42 : decode b_Mo_count 42 = .ok (.getfield 28, 3) := by decide +kernel
theorem d_Mo_count_45 : decode b_Mo_count 45 = .ok (.iload_n 1, 1) := by decide +kernel
theorem d_Mo_count_46 : decode b_Mo_count 46 = .ok (.iaload, 1) := by decide +kernel
theorem d_Mo_count_47 : decode b_Mo_count 47 = .ok (.ifCond .ne 21, 3) := by decide +kernel
theorem d_Mo_count_50 : decode b_Mo_count 50 = .ok (.aload_n 0, 1) := by decide +kernel
theorem d_Mo_count_51 : decode b_Mo_count 51 = .ok (.getfield 34, 3) := by decide +kernel
theorem d_Mo_count_54 : decode b_Mo_count 54 = .ok (.aload_n 0, 1) := by decide +kernel
theorem d_Mo_count_55 : decode b_Mo_count 55 = .ok (.getfield 31, 3) := by decide +kernel
theorem d_Mo_count_58 : decode b_Mo_count 58 = .ok (.iload_n 1, 1) := by decide +kernel
theorem d_Mo_count_59 : decode b_Mo_count 59 = .ok (.iaload, 1) := by decide +kernel
theorem d_Mo_count_60 : decode b_Mo_count 60 = .ok (.dup2, 1) := by decide +kernel
theorem d_Mo_count_61 : decode b_Mo_count 61 = .ok (.iaload, 1) := by decide +kernel
theorem d_Mo_count_62 : decode b_Mo_count 62 = .ok (.iconst 1, 1) := by decide +kernel
theorem d_Mo_count_63 : decode b_Mo_count 63 = .ok (.iadd, 1) := by decide +kernel
theorem d_Mo_count_64 : decode b_Mo_count 64 = .ok (.iastore, 1) := by decide +kernel
theorem d_Mo_count_65 : decode b_Mo_count 65 = .ok (.goto 43, 3) := by decide +kernel
theorem d_Mo_count_68 : decode b_Mo_count 68 = .ok (.aload_n 0, 1) := by decide +kernel
theorem d_Mo_count_69 : decode b_Mo_count 69 = .ok (.getfield 34, 3) := by decide +kernel
theorem d_Mo_count_72 : decode b_Mo_count 72 = .ok (.aload_n 0, 1) := by decide +kernel
theorem d_Mo_count_73 : decode b_Mo_count 73 = .ok (.getfield 28, 3) := by decide +kernel
theorem d_Mo_count_76 : decode b_Mo_count 76 = .ok (.iload_n 1, 1) := by decide +kernel
theorem d_Mo_count_77 : decode b_Mo_count 77 = .ok (.iaload, 1) := by decide +kernel
theorem d_Mo_count_78 : decode b_Mo_count 78 = .ok (.invokestatic 171, 3) := by decide +kernel
theorem d_Mo_count_81 : decode b_Mo_count 81 = .ok (.dup2, 1) := by decide +kernel
theorem d_Mo_count_82 : decode b_Mo_count 82 = .ok (.iaload, 1) := by decide +kernel
theorem d_Mo_count_83 : decode b_Mo_count 83 = .ok (.iconst 1, 1) := by decide +kernel
theorem d_Mo_count_84 : decode b_Mo_count 84 = .ok (.iadd, 1) := by decide +kernel
theorem d_Mo_count_85 : decode b_Mo_count 85 = .ok (.iastore, 1) := by decide +kernel
theorem d_Mo_count_86 : decode b_Mo_count 86 = .ok (.aload_n 0, 1) := by decide +kernel
theorem d_Mo_count_87 : decode b_Mo_count 87 = .ok (.getfield 34, 3) := by decide +kernel
theorem d_Mo_count_90 : decode b_Mo_count 90 = .ok (.sipush 288, 3) := by decide +kernel
theorem d_Mo_count_93 : decode b_Mo_count 93 = .ok (.aload_n 0, 1) := by decide +kernel
theorem d_Mo_count_94 : decode b_Mo_count 94 = .ok (.getfield 31, 3) := by decide +kernel
theorem d_Mo_count_97 : decode b_Mo_count 97 = .ok (.iload_n 1, 1) := by decide +kernel
theorem d_Mo_count_98 : decode b_Mo_count 98 = .ok (.iaload, 1) := by decide +kernel
theorem d_Mo_count_99 : decode b_Mo_count 99 = .ok (.invokestatic 174, 3) := by decide +kernel
theorem d_Mo_count_102 : decode b_Mo_count 102 = .ok (.iadd, 1) := by decide +kernel
theorem d_Mo_count_103 : decode b_Mo_count 103 = .ok (.dup2, 1) := by decide +kernel
theorem d_Mo_count_104 : decode b_Mo_count 104 = .ok (.iaload, 1) := by decide +kernel
theorem d_Mo_count_105 : decode b_Mo_count 105 = .ok (.iconst 1, 1) := by decide +kernel
theorem d_Mo_count_106 : decode b_Mo_count 106 = .ok (.iadd, 1) := by decide +kernel
theorem d_Mo_count_107 : decode b_Mo_count 107 = .ok (.iastore, 1) := by decide +kernel
theorem d_Mo_count_108 : decode b_Mo_count 108 = .ok (.iinc 1 1, 3) := by decide +kernel
theorem d_Mo_count_111 : decode b_Mo_count 111 = .ok (.goto (-78), 3) := by decide +kernel
theorem d_Mo_count_114 : decode b_Mo_count 114 = .ok (.return_, 1) := by decide +kernel
theorem d_Mo_sort_0 : decode b_Mo_sort 0 = .ok (.iconst 0, 1) := by decide +kernel
theorem d_Mo_sort_1 : decode b_Mo_sort 1 = .ok (.istore 4, 2) := by decide +kernel
theorem d_Mo_sort_3 : decode b_Mo_sort 3 = .ok (.iconst 0, 1) := by decide +kernel
theorem d_Mo_sort_4 : decode b_Mo_sort 4 = .ok (.istore 5, 2) := by decide +kernel
theorem d_Mo_sort_6 : decode b_Mo_sort 6 = .ok (.iload 5, 2) := by decide +kernel
theorem d_Mo_sort_8 : decode b_Mo_sort 8 = .ok (.iload_n 3, 1) := by decide +kernel
theorem d_Mo_sort_9 : decode b_Mo_sort 9 = .ok (.if_icmp .ge 83, 3) := by decide +kernel
theorem d_Mo_sort_12 : decode b_Mo_sort 12 = .ok (.aload_n 1, 1) := by decide +kernel
theorem d_Mo_sort_13 : decode b_Mo_sort 13 = .ok (.iload_n 2, 1) := by decide +kernel
theorem d_Mo_sort_14 : decode b_Mo_sort 14 = .ok (.iload 5, 2) := by decide +kernel
theorem d_Mo_sort_16 : decode b_Mo_sort 16 = .ok (.iadd, 1) := by decide +kernel
theorem d_Mo_sort_17 : decode b_Mo_sort 17 = .ok (.iaload, 1) := by decide +kernel
theorem d_Mo_sort_18 : decode b_Mo_sort 18 = .ok (.ifCond .le 68, 3) := by decide +kernel
theorem d_Mo_sort_21 : decode b_Mo_sort 21 = .ok (.iload 4, 2) := by decide +kernel
theorem d_Mo_sort_23 : decode b_Mo_sort 23 = .ok (.istore 6, 2) := by decide +kernel
theorem d_Mo_sort_25 : decode b_Mo_sort 25 = .ok (.iload 6, 2) := by decide +kernel
theorem d_Mo_sort_27 : decode b_Mo_sort 27 = .ok (.ifCond .le 47, 3) := by decide +kernel
theorem d_Mo_sort_30 : decode b_Mo_sort 30 = .ok (.aload_n 1, 1) := by decide +kernel
theorem d_Mo_sort_31 : decode b_Mo_sort 31 = .ok (.iload_n 2, 1) := by decide +kernel
theorem d_Mo_sort_32 : decode b_Mo_sort 32 = .ok (.aload_n 0, 1) := by decide +kernel
theorem d_Mo_sort_33 : decode b_Mo_sort 33 = .ok (.getfield 46, 3) := by decide +kernel
theorem d_Mo_sort_36 : decode b_Mo_sort 36 = .ok (.iload 6, 2) := by decide +kernel
theorem d_Mo_sort_38 : decode b_Mo_sort 38 = .ok (.iconst 1, 1) := by decide +kernel
theorem d_Mo_sort_39 : decode b_Mo_sort 39 = .ok (.isub, 1) := by decide +kernel
theorem d_Mo_sort_40 : decode b_Mo_sort 40 = .ok (.iaload, 1) := by decide +kernel
theorem d_Mo_sort_41 : decode b_Mo_sort 41 = .ok (.iadd, 1) := by decide +kernel
theorem d_Mo_sort_42 : decode b_Mo_sort 42 = .ok (.iaload, 1) := by decide +kernel
theorem d_Mo_sort_43 : decode b_Mo_sort 43 = .ok (.aload_n 1, 1) := by decide +kernel
theorem d_Mo_sort_44 : decode b_Mo_sort 44 = .ok (.iload_n 2, 1) := by decide +kernel
theorem d_Mo_sort_45 : decode b_Mo_sort 45 = .ok (.iload 5, 2) := by decide +kernel
theorem d_Mo_sort_47 : decode b_Mo_sort 47 = .ok (.iadd, 1) := by decide +kernel
theorem d_Mo_sort_48 : decode b_Mo_sort 48 = .ok (.iaload, 1) := by decide +kernel
theorem d_Mo_sort_49 : decode b_Mo_sort 49 = .ok (.if_icmp .le 25, 3) := by decide +kernel
theorem d_Mo_sort_52 : decode b_Mo_sort 52 = .ok (.aload_n 0, 1) := by decide +kernel
theorem d_Mo_sort_53 : decode b_Mo_sort 53 = .ok (.getfield 46, 3) := by decide +kernel
theorem d_Mo_sort_56 : decode b_Mo_sort 56 = .ok (.iload 6, 2) := by decide +kernel
theorem d_Mo_sort_58 : decode b_Mo_sort 58 = .ok (.aload_n 0, 1) := by decide +kernel
theorem d_Mo_sort_59 : decode b_Mo_sort 59 = .ok (.getfield 46, 3) := by decide +kernel
theorem d_Mo_sort_62 : decode b_Mo_sort 62 = .ok (.iload 6, 2) := by decide +kernel
theorem d_Mo_sort_64 : decode b_Mo_sort 64 = .ok (.iconst 1, 1) := by decide +kernel
theorem d_Mo_sort_65 : decode b_Mo_sort 65 = .ok (.isub, 1) := by decide +kernel
theorem d_Mo_sort_66 : decode b_Mo_sort 66 = .ok (.iaload, 1) := by decide +kernel
theorem d_Mo_sort_67 : decode b_Mo_sort 67 = .ok (.iastore, 1) := by decide +kernel
theorem d_Mo_sort_68 : decode b_Mo_sort 68 = .ok (.iinc 6 (-1), 3) := by decide +kernel
theorem d_Mo_sort_71 : decode b_Mo_sort 71 = .ok (.goto (-46), 3) := by decide +kernel
theorem d_Mo_sort_74 : decode b_Mo_sort 74 = .ok (.aload_n 0, 1) := by decide +kernel
theorem d_Mo_sort_75 : decode b_Mo_sort 75 = .ok (.getfield 46, 3) := by decide +kernel
theorem d_Mo_sort_78 : decode b_Mo_sort 78 = .ok (.iload 6, 2) := by decide +kernel
theorem d_Mo_sort_80 : decode b_Mo_sort 80 = .ok (.iload 5, 2) := by decide +kernel
theorem d_Mo_sort_82 : decode b_Mo_sort 82 = .ok (.iastore, 1) := by decide +kernel
theorem d_Mo_sort_83 : decode b_Mo_sort 83 = .ok (.iinc 4 1, 3) := by decide +kernel
theorem d_Mo_sort_86 : decode b_Mo_sort 86 = .ok (.iinc 5 1, 3) := by decide +kernel
theorem d_Mo_sort_89 : decode b_Mo_sort 89 = .ok (.goto (-83), 3) := by decide +kernel
theorem d_Mo_sort_92 : decode b_Mo_sort 92 = .ok (.iload 4, 2) := by decide +kernel
theorem d_Mo_sort_94 : decode b_Mo_sort 94 = .ok (.ireturn, 1) := by decide +kernel
theorem d_Mo_makeList_0 : decode b_Mo_makeList 0 = .ok (.iload 4, 2) := by decide +kernel
theorem d_Mo_makeList_2 : decode b_Mo_makeList 2 = .ok (.ifCond .ne 7, 3) := by decide +kernel
theorem d_Mo_makeList_5 : decode b_Mo_makeList 5 = .ok (.iconst 0, 1) := by decide +kernel
theorem d_Mo_makeList_6 : decode b_Mo_makeList 6 = .ok (.goto 14, 3) := by decide +kernel
theorem d_Mo_makeList_9 : decode b_Mo_makeList 9 = .ok (.aload_n 0, 1) := by decide +kernel
theorem d_Mo_makeList_10 : decode b_Mo_makeList 10 = .ok (.getfield 59, 3) := by decide +kernel
theorem d_Mo_makeList_13 : decode b_Mo_makeList 13 = .ok (.iload 4, 2) := by decide +kernel
theorem d_Mo_makeList_15 : decode b_Mo_makeList 15 = .ok (.iconst 1, 1) := by decide +kernel
theorem d_Mo_makeList_16 : decode b_Mo_makeList 16 = .ok (.isub, 1) := by decide +kernel
theorem d_Mo_makeList_17 : decode b_Mo_makeList 17 = .ok (.iaload, 1) := by decide +kernel
theorem d_Mo_makeList_18 : decode b_Mo_makeList 18 = .ok (.iconst 2, 1) := by decide +kernel
theorem d_Mo_makeList_19 : decode b_Mo_makeList 19 = .ok (.idiv, 1) := by decide +kernel
theorem d_Mo_makeList_20 : decode b_Mo_makeList 20 = .ok (.istore 5, 2) := by decide +kernel
theorem d_Mo_makeList_22 : decode b_Mo_makeList 22 = .ok (.iconst 0, 1) := by decide +kernel
theorem d_Mo_makeList_23 : decode b_Mo_makeList 23 = .ok (.istore 6, 2) := by decide +kernel
theorem d_Mo_makeList_25 : decode b_Mo_makeList 25 = .ok (.iconst 0, 1) := by decide +kernel
theorem d_Mo_makeList_26 : decode b_Mo_makeList 26 = .ok (.istore 7, 2) := by decide +kernel
theorem d_Mo_makeList_28 : decode b_Mo_makeList 28 = .ok (.iconst 0, 1) := by decide +kernel
theorem d_Mo_makeList_29 : decode b_Mo_makeList 29 = .ok (.istore 8, 2) := by decide +kernel
theorem d_Mo_makeList_31 : decode b_Mo_makeList 31 = .ok (.iload 6, 2) := by decide +kernel
theorem d_Mo_makeList_33 : decode b_Mo_makeList 33 = .ok (.iload_n 3, 1) := by decide +kernel
theorem d_Mo_makeList_34 : decode b_Mo_makeList 34 = .ok (.if_icmp .lt 10, 3) := by decide +kernel
theorem d_Mo_makeList_37 : decode b_Mo_makeList 37 = .ok (.iload 7, 2) := by decide +kernel
theorem d_Mo_makeList_39 : decode b_Mo_makeList 39 = .ok (.iload 5, 2) := by decide +kernel
theorem d_Mo_makeList_41 : decode b_Mo_makeList 41 = .ok (.if_icmp .ge 159, 3) := by decide +kernel
theorem d_Mo_makeList_44 : decode b_Mo_makeList 44 = .ok (.iload 7, 2) := by decide +kernel
theorem d_Mo_makeList_46 : decode b_Mo_makeList 46 = .ok (.iload 5, 2) := by decide +kernel
theorem d_Mo_makeList_48 : decode b_Mo_makeList 48 = .ok (.if_icmp .eq 44, 3) := by decide +kernel
theorem d_Mo_makeList_51 : decode b_Mo_makeList 51 = .ok (.iload 6, 2) := by decide +kernel
theorem d_Mo_makeList_53 : decode b_Mo_makeList 53 = .ok (.iload_n 3, 1) := by decide +kernel
theorem d_Mo_makeList_54 : decode b_Mo_makeList 54 = .ok (.if_icmp .ge 42, 3) := by decide +kernel
theorem d_Mo_makeList_57 : decode b_Mo_makeList 57 = .ok (.aload_n 1, 1) := by decide +kernel
theorem d_Mo_makeList_58 : decode b_Mo_makeList 58 = .ok (.iload_n 2, 1) := by decide +kernel
theorem d_Mo_makeList_59 : decode b_Mo_makeList 59 = .ok (.aload_n 0, 1) := by decide +kernel
theorem d_Mo_makeList_60 : decode b_Mo_makeList 60 = .ok (.getfield 46, 3) := by decide +kernel
theorem d_Mo_makeList_63 : decode b_Mo_makeList 63 = .ok (.iload 6, 2) := by decide +kernel
theorem d_Mo_makeList_65 : decode b_Mo_makeList 65 = .ok (.iaload, 1) := by decide +kernel
theorem d_Mo_makeList_66 : decode b_Mo_makeList 66 = .ok (.iadd, 1) := by decide +kernel
theorem d_Mo_makeList_67 : decode b_Mo_makeList 67 = .ok (.iaload, 1) := by decide +kernel
theorem d_Mo_makeList_68 : decode b_Mo_makeList 68 = .ok (.aload_n 0, 1) := by decide +kernel
theorem d_Mo_makeList_69 : decode b_Mo_makeList 69 = .ok (.getfield 52, 3) := by decide +kernel
theorem d_Mo_makeList_72 : decode b_Mo_makeList 72 = .ok (.iconst 2, 1) := by decide +kernel
theorem d_Mo_makeList_73 : decode b_Mo_makeList 73 = .ok (.iload 7, 2) := by decide +kernel
theorem d_Mo_makeList_75 : decode b_Mo_makeList 75 = .ok (.imul, 1) := by decide +kernel
theorem d_Mo_makeList_76 : decode b_Mo_makeList 76 = .ok (.iaload, 1) := by decide +kernel
theorem d_Mo_makeList_77 : decode b_Mo_makeList 77 = .ok (.aload_n 0, 1) := by decide +kernel
theorem d_Mo_makeList_78 : decode b_Mo_makeList 78 = .ok (.getfield 52, 3) := by decide +kernel
theorem d_Mo_makeList_81 : decode b_Mo_makeList 81 = .ok (.iconst 2, 1) := by decide +kernel
theorem d_Mo_makeList_82 : decode b_Mo_makeList 82 = .ok (.iload 7, 2) := by decide +kernel
theorem d_Mo_makeList_84 : decode b_Mo_makeList 84 = .ok (.imul, 1) := by decide +kernel
theorem d_Mo_makeList_85 : decode b_Mo_makeList 85 = .ok (.iconst 1, 1) := by decide +kernel
theorem d_Mo_makeList_86 : decode b_Mo_makeList 86 = .ok (.iadd, 1) := by decide +kernel
theorem d_Mo_makeList_87 : decode b_Mo_makeList 87 = .ok (.iaload, 1) := by decide +kernel
theorem d_Mo_makeList_88 : decode b_Mo_makeList 88 = .ok (.iadd, 1) := by decide +kernel
theorem d_Mo_makeList_89 : decode b_Mo_makeList 89 = .ok (.if_icmp .gt 7, 3) := by decide +kernel
theorem d_Mo_makeList_92 : decode b_Mo_makeList 92 = .ok (.iconst 1, 1) := by decide +kernel
theorem d_Mo_makeList_93 : decode b_Mo_makeList 93 = .ok (.goto 4, 3) := by decide +kernel
theorem d_Mo_makeList_96 : decode b_Mo_makeList 96 = .ok (.iconst 0, 1) := by decide +kernel
theorem d_Mo_makeList_97 : decode b_Mo_makeList 97 = .ok (.istore 9, 2) := by decide +kernel
theorem d_Mo_makeList_99 : decode b_Mo_makeList 99 = .ok (.aload_n 0, 1) := by decide +kernel
theorem d_Mo_makeList_100 : decode b_Mo_makeList 100 = .ok (.getfield 49, 3) := by decide +kernel
theorem d_Mo_makeList_103 : decode b_Mo_makeList 103 = .ok (.iload 8, 2) := by decide +kernel
theorem d_Mo_makeList_105 : decode b_Mo_makeList 105 = .ok (.iload 9, 2) := by decide +kernel
theorem d_Mo_makeList_107 : decode b_Mo_makeList 107 = .ok (.ifCond .eq 17, 3) := by decide +kernel
theorem d_Mo_makeList_110 : decode b_Mo_makeList 110 = .ok (.aload_n 1, 1) := by decide +kernel
theorem d_Mo_makeList_111 : decode b_Mo_makeList 111 = .ok (.iload_n 2, 1) := by decide +kernel
theorem d_Mo_makeList_112 : decode b_Mo_makeList 112 = .ok (.aload_n 0, 1) := by decide +kernel
theorem d_Mo_makeList_113 : decode b_Mo_makeList 113 = .ok (.getfield 46, 3) := by decide +kernel
theorem d_Mo_makeList_116 : decode b_Mo_makeList 116 = .ok (.iload 6, 2) := by decide +kernel
theorem d_Mo_makeList_118 : decode b_Mo_makeList 118 = .ok (.iaload, 1) := by decide +kernel
theorem d_Mo_makeList_119 : decode b_Mo_makeList 119 = .ok (.iadd, 1) := by decide +kernel
theorem d_Mo_makeList_120 : decode b_Mo_makeList 120 = .ok (.iaload, 1) := by decide +kernel
theorem d_Mo_makeList_121 : decode b_Mo_makeList 121 = .ok (.goto 24, 3) := by decide +kernel
theorem d_Mo_makeList_124 : decode b_Mo_makeList 124 = .ok (.aload_n 0, 1) := by decide +kernel
theorem d_Mo_makeList_125 : decode b_Mo_makeList 125 = .ok (.getfield 52, 3) := by decide +kernel
theorem d_Mo_makeList_128 : decode b_Mo_makeList 128 = .ok (.iconst 2, 1) := by decide +kernel
theorem d_Mo_makeList_129 : decode b_Mo_makeList 129 = .ok (.iload 7, 2) := by decide +kernel
theorem d_Mo_makeList_131 : decode b_Mo_makeList 131 = .ok (.imul, 1) := by decide +kernel
theorem d_Mo_makeList_132 : decode b_Mo_makeList 132 = .ok (.iaload, 1) := by decide +kernel
theorem d_Mo_makeList_133 : decode b_Mo_makeList 133 = .ok (.aload_n 0, 1) := by decide +kernel
theorem d_Mo_makeList_134 : decode b_Mo_makeList 134 = .ok (.getfield 52, 3) := by decide +kernel
theorem d_Mo_makeList_137 : decode b_Mo_makeList 137 = .ok (.iconst 2, 1) := by decide +kernel
theorem d_Mo_makeList_138 : decode b_Mo_makeList 138 = .ok (.iload 7, 2) := by decide +kernel
theorem d_Mo_makeList_140 : decode b_Mo_makeList 140 = .ok (.imul, 1) := by decide +kernel
theorem d_Mo_makeList_141 : decode b_Mo_makeList 141 = .ok (.iconst 1, 1) := by decide +kernel
theorem d_Mo_makeList_142 : decode b_Mo_makeList 142 = .ok (.iadd, 1) := by decide +kernel
theorem d_Mo_makeList_143 : decode b_Mo_makeList 143 = .ok (.iaload, 1) := by decide +kernel
theorem d_Mo_makeList_144 : decode b_Mo_makeList 144 = .ok (.iadd, 1) := by decide +kernel
theorem d_Mo_makeList_145 : decode b_Mo_makeList 145 = .ok (.iastore, 1) := by decide +kernel
theorem d_Mo_makeList_146 : decode b_Mo_makeList 146 = .ok (.aload_n 0, 1) := by decide +kernel
theorem d_Mo_makeList_147 : decode b_Mo_makeList 147 = .ok (.getfield 55, 3) := by decide +kernel
theorem d_Mo_makeList_150 : decode b_Mo_makeList 150 = .ok (.sipush 600, 3) := by decide +kernel
theorem d_Mo_makeList_153 : decode b_Mo_makeList 153 = .ok (.iload 4, 2) := by decide +kernel
theorem d_Mo_makeList_155 : decode b_Mo_makeList 155 = .ok (.imul, 1) := by decide +kernel
theorem d_Mo_makeList_156 : decode b_Mo_makeList 156 = .ok (.iload 8, 2) := by decide +kernel
theorem d_Mo_makeList_158 : decode b_Mo_makeList 158 = .ok (.iadd, 1) := by decide +kernel
theorem d_Mo_makeList_159 : decode b_Mo_makeList 159 = .ok (.iload 9, 2) := by decide +kernel
theorem d_Mo_makeList_161 : decode b_Mo_makeList 161 = .ok (.bastore, 1) := by decide +kernel
theorem d_Mo_makeList_162 : decode b_Mo_makeList 162 = .ok (.iload 9, 2) := by decide +kernel
theorem d_Mo_makeList_164 : decode b_Mo_makeList 164 = .ok (.ifCond .eq 10, 3) := by decide +kernel
theorem d_Mo_makeList_167 : decode b_Mo_makeList 167 = .ok (.iload 6, 2) := by decide +kernel
theorem d_Mo_makeList_169 : decode b_Mo_makeList 169 = .ok (.iconst 1, 1) := by decide +kernel
theorem d_Mo_makeList_170 : decode b_Mo_makeList 170 = .ok (.iadd, 1) := by decide +kernel
theorem d_Mo_makeList_171 : decode b_Mo_makeList 171 = .ok (.goto 5, 3) := by decide +kernel
theorem d_Mo_makeList_174 : decode b_Mo_makeList 174 = .ok (.iload 6, 2) := by decide +kernel
theorem d_Mo_makeList_176 : decode b_Mo_makeList 176 = .ok (.istore 6, 2) := by decide +kernel
theorem d_Mo_makeList_178 : decode b_Mo_makeList 178 = .ok (.iload 9, 2) := by decide +kernel
theorem d_Mo_makeList_180 : decode b_Mo_makeList 180 = .ok (.ifCond .eq 8, 3) := by decide +kernel
theorem d_Mo_makeList_183 : decode b_Mo_makeList 183 = .ok (.iload 7, 2) := by decide +kernel
theorem d_Mo_makeList_185 : decode b_Mo_makeList 185 = .ok (.goto 7, 3) := by decide +kernel
theorem d_Mo_makeList_188 : decode b_Mo_makeList 188 = .ok (.iload 7, 2) := by decide +kernel
theorem d_Mo_makeList_190 : decode b_Mo_makeList 190 = .ok (.iconst 1, 1) := by decide +kernel
theorem d_Mo_makeList_191 : decode b_Mo_makeList 191 = .ok (.iadd, 1) := by decide +kernel
theorem d_Mo_makeList_192 : decode b_Mo_makeList 192 = .ok (.istore 7, 2) := by decide +kernel
theorem d_Mo_makeList_194 : decode b_Mo_makeList 194 = .ok (.iinc 8 1, 3) := by decide +kernel
theorem d_Mo_makeList_197 : decode b_Mo_makeList 197 = .ok (.goto (-166), 3) := by decide +kernel
theorem d_Mo_makeList_200 : decode b_Mo_makeList 200 = .ok (.aload_n 0, 1) := by decide +kernel
theorem d_Mo_makeList_201 : decode b_Mo_makeList 201 = .ok (.getfield 59, 3) := by decide +kernel
theorem d_Mo_makeList_204 : decode b_Mo_makeList 204 = .ok (.iload 4, 2) := by decide +kernel
theorem d_Mo_makeList_206 : decode b_Mo_makeList 206 = .ok (.iload 8, 2) := by decide +kernel
theorem d_Mo_makeList_208 : decode b_Mo_makeList 208 = .ok (.iastore, 1) := by decide +kernel
theorem d_Mo_makeList_209 : decode b_Mo_makeList 209 = .ok (.iconst 0, 1) := by decide +kernel
theorem d_Mo_makeList_210 : decode b_Mo_makeList 210 = .ok (.istore 9, 2) := by decide +kernel
theorem d_Mo_makeList_212 : decode b_Mo_makeList 212 = .ok (.iload 9, 2) := by decide +kernel
theorem d_Mo_makeList_214 : decode b_Mo_makeList 214 = .ok (.iload 8, 2) := by decide +kernel
theorem d_Mo_makeList_216 : decode b_Mo_makeList 216 = .ok (.if_icmp .ge 23, 3) := by decide +kernel
theorem d_Mo_makeList_219 : decode b_Mo_makeList 219 = .ok (.aload_n 0, 1) := by decide +kernel
theorem d_Mo_makeList_220 : decode b_Mo_makeList 220 = .ok (.getfield 52, 3) := by decide +kernel
theorem d_Mo_makeList_223 : decode b_Mo_makeList 223 = .ok (.iload 9, 2) := by decide +kernel
theorem d_Mo_makeList_225 : decode b_Mo_makeList 225 = .ok (.aload_n 0, 1) := by decide +kernel
theorem d_Mo_makeList_226 : decode b_Mo_makeList 226 = .ok (.getfield 49, 3) := by decide +kernel
theorem d_Mo_makeList_229 : decode b_Mo_makeList 229 = .ok (.iload 9, 2) := by decide +kernel
theorem d_Mo_makeList_231 : decode b_Mo_makeList 231 = .ok (.iaload, 1) := by decide +kernel
theorem d_Mo_makeList_232 : decode b_Mo_makeList 232 = .ok (.iastore, 1) := by decide +kernel
theorem d_Mo_makeList_233 : decode b_Mo_makeList 233 = .ok (.iinc 9 1, 3) := by decide +kernel
theorem d_Mo_makeList_236 : decode b_Mo_makeList 236 = .ok (.goto (-24), 3) := by decide +kernel
theorem d_Mo_makeList_239 : decode b_Mo_makeList 239 = .ok (.return_, 1) := by decide +kernel
theorem d_Mo_findLengths_0 : decode b_Mo_findLengths 0 = .ok (.iconst 0, 1) := by decide +kernel
theorem d_Mo_findLengths_1 : decode b_Mo_findLengths 1 = .ok (.istore 6, 2) := by decide +kernel
theorem d_Mo_findLengths_3 : decode b_Mo_findLengths 3 = .ok (.iload 6, 2) := by decide +kernel
