theorem d_Row_init_0 : decode b_Row_init 0 = .ok (.aload_n 0, 1) := by decide +kernel
theorem d_Row_init_1 : decode b_Row_init 1 = .ok (.invokespecial 3, 3) := by decide +kernel
theorem d_Row_init_4 : decode b_Row_init 4 = .ok (.aload_n 0, 1) := by decide +kernel
theorem d_Row_init_5 : decode b_Row_init 5 = .ok (.sipush 9000, 3) := by decide +kernel
theorem d_Row_init_8 : decode b_Row_init 8 = .ok (.newarray .byte, 2) := by decide +kernel
theorem d_Row_init_10 : decode b_Row_init 10 = .ok (.putfield 9, 3) := by decide +kernel
theorem d_Row_init_13 : decode b_Row_init 13 = .ok (.aload_n 0, 1) := by decide +kernel
theorem d_Row_init_14 : decode b_Row_init 14 = .ok (.iconst 0, 1) := by decide +kernel
theorem d_Row_init_15 : decode b_Row_init 15 = .ok (.putfield 15, 3) := by decide +kernel
theorem d_Row_init_18 : decode b_Row_init 18 = .ok (.aload_n 0, 1) := by decide +kernel
theorem d_Row_init_19 : decode b_Row_init 19 = .ok (.iconst 0, 1) := by decide +kernel
theorem d_Row_init_20 : decode b_Row_init 20 = .ok (.putfield 19, 3) := by decide +kernel
theorem d_Row_init_23 : decode b_Row_init 23 = .ok (.return_, 1) := by decide +kernel
theorem d_Matcher_init_0 : decode b_Matcher_init 0 = .ok (.aload_n 0, 1) := by decide +kernel
theorem d_Matcher_init_1 : decode b_Matcher_init 1 = .ok (.invokespecial 3, 3) := by decide +kernel
theorem d_Matcher_init_4 : decode b_Matcher_init 4 = .ok (.aload_n 0, 1) := by decide +kernel
theorem d_Matcher_init_5 : decode b_Matcher_init 5 = .ok (.sipush 8192, 3) := by decide +kernel
theorem d_Matcher_init_8 : decode b_Matcher_init 8 = .ok (.newarray .int, 2) := by decide +kernel
theorem d_Matcher_init_10 : decode b_Matcher_init 10 = .ok (.putfield 9, 3) := by decide +kernel
theorem d_Matcher_init_13 : decode b_Matcher_init 13 = .ok (.aload_n 0, 1) := by decide +kernel
theorem d_Matcher_init_14 : decode b_Matcher_init 14 = .ok (.sipush 8192, 3) := by decide +kernel
theorem d_Matcher_init_17 : decode b_Matcher_init 17 = .ok (.newarray .int, 2) := by decide +kernel
theorem d_Matcher_init_19 : decode b_Matcher_init 19 = .ok (.putfield 15, 3) := by decide +kernel
theorem d_Matcher_init_22 : decode b_Matcher_init 22 = .ok (.aload_n 0, 1) := by decide +kernel
theorem d_Matcher_init_23 : decode b_Matcher_init 23 = .ok (.sipush 257, 3) := by decide +kernel
theorem d_Matcher_init_26 : decode b_Matcher_init 26 = .ok (.newarray .int, 2) := by decide +kernel
theorem d_Matcher_init_28 : decode b_Matcher_init 28 = .ok (.putfield 18, 3) := by decide +kernel
theorem d_Matcher_init_31 : decode b_Matcher_init 31 = .ok (.aload_n 0, 1) := by decide +kernel
theorem d_Matcher_init_32 : decode b_Matcher_init 32 = .ok (.iconst 0, 1) := by decide +kernel
theorem d_Matcher_init_33 : decode b_Matcher_init 33 = .ok (.putfield 21, 3) := by decide +kernel
theorem d_Matcher_init_36 : decode b_Matcher_init 36 = .ok (.aload_n 0, 1) := by decide +kernel
theorem d_Matcher_init_37 : decode b_Matcher_init 37 = .ok (.iconst 0, 1) := by decide +kernel
theorem d_Matcher_init_38 : decode b_Matcher_init 38 = .ok (.putfield 25, 3) := by decide +kernel
theorem d_Matcher_init_41 : decode b_Matcher_init 41 = .ok (.return_, 1) := by decide +kernel
theorem d_LengthMaker_init_0 : decode b_LengthMaker_init 0 = .ok (.aload_n 0, 1) := by decide +kernel
theorem d_LengthMaker_init_1 : decode b_LengthMaker_init 1 = .ok (.invokespecial 3, 3) := by decide +kernel
theorem d_LengthMaker_init_4 : decode b_LengthMaker_init 4 = .ok (.aload_n 0, 1) := by decide +kernel
theorem d_LengthMaker_init_5 : decode b_LengthMaker_init 5 = .ok (.sipush 286, 3) := by decide +kernel
theorem d_LengthMaker_init_8 : decode b_LengthMaker_init 8 = .ok (.newarray .int, 2) := by decide +kernel
theorem d_LengthMaker_init_10 : decode b_LengthMaker_init 10 = .ok (.putfield 9, 3) := by decide +kernel
theorem d_LengthMaker_init_13 : decode b_LengthMaker_init 13 = .ok (.aload_n 0, 1) := by decide +kernel
theorem d_LengthMaker_init_14 : decode b_LengthMaker_init 14 = .ok (.sipush 572, 3) := by decide +kernel
theorem d_LengthMaker_init_17 : decode b_LengthMaker_init 17 = .ok (.newarray .int, 2) := by decide +kernel
theorem d_LengthMaker_init_19 : decode b_LengthMaker_init 19 = .ok (.putfield 15, 3) := by decide +kernel
theorem d_LengthMaker_init_22 : decode b_LengthMaker_init 22 = .ok (.aload_n 0, 1) := by decide +kernel
theorem d_LengthMaker_init_23 : decode b_LengthMaker_init 23 = .ok (.sipush 572, 3) := by decide +kernel
theorem d_LengthMaker_init_26 : decode b_LengthMaker_init 26 = .ok (.newarray .int, 2) := by decide +kernel
theorem d_LengthMaker_init_28 : decode b_LengthMaker_init 28 = .ok (.putfield 18, 3) := by decide +kernel
theorem d_LengthMaker_init_31 : decode b_LengthMaker_init 31 = .ok (.aload_n 0, 1) := by decide +kernel
theorem d_LengthMaker_init_32 : decode b_LengthMaker_init 32 = .ok (.sipush 572, 3) := by decide +kernel
theorem d_LengthMaker_init_35 : decode b_LengthMaker_init 35 = .ok (.newarray .int, 2) := by decide +kernel
theorem d_LengthMaker_init_37 : decode b_LengthMaker_init 37 = .ok (.putfield 21, 3) := by decide +kernel
theorem d_LengthMaker_init_40 : decode b_LengthMaker_init 40 = .ok (.return_, 1) := by decide +kernel
theorem d_Found_init_0 : decode b_Found_init 0 = .ok (.aload_n 0, 1) := by decide +kernel
theorem d_Found_init_1 : decode b_Found_init 1 = .ok (.invokespecial 3, 3) := by decide +kernel
theorem d_Found_init_4 : decode b_Found_init 4 = .ok (.aload_n 0, 1) := by decide +kernel
theorem d_Found_init_5 : decode b_Found_init 5 = .ok (.sipush 4096, 3) := by decide +kernel
theorem d_Found_init_8 : decode b_Found_init 8 = .ok (.newarray .int, 2) := by decide +kernel
theorem d_Found_init_10 : decode b_Found_init 10 = .ok (.putfield 9, 3) := by decide +kernel
theorem d_Found_init_13 : decode b_Found_init 13 = .ok (.aload_n 0, 1) := by decide +kernel
theorem d_Found_init_14 : decode b_Found_init 14 = .ok (.iconst 0, 1) := by decide +kernel
theorem d_Found_init_15 : decode b_Found_init 15 = .ok (.putfield 15, 3) := by decide +kernel
theorem d_Found_init_18 : decode b_Found_init 18 = .ok (.aload_n 0, 1) := by decide +kernel
theorem d_Found_init_19 : decode b_Found_init 19 = .ok (.sipush 286, 3) := by decide +kernel
theorem d_Found_init_22 : decode b_Found_init 22 = .ok (.newarray .int, 2) := by decide +kernel
theorem d_Found_init_24 : decode b_Found_init 24 = .ok (.putfield 19, 3) := by decide +kernel
theorem d_Found_init_27 : decode b_Found_init 27 = .ok (.aload_n 0, 1) := by decide +kernel
theorem d_Found_init_28 : decode b_Found_init 28 = .ok (.bipush 30, 2) := by decide +kernel
theorem d_Found_init_30 : decode b_Found_init 30 = .ok (.newarray .int, 2) := by decide +kernel
theorem d_Found_init_32 : decode b_Found_init 32 = .ok (.putfield 22, 3) := by decide +kernel
theorem d_Found_init_35 : decode b_Found_init 35 = .ok (.return_, 1) := by decide +kernel
theorem d_WriteCodes_init_0 : decode b_WriteCodes_init 0 = .ok (.aload_n 0, 1) := by decide +kernel
theorem d_WriteCodes_init_1 : decode b_WriteCodes_init 1 = .ok (.invokespecial 3, 3) := by decide +kernel
theorem d_WriteCodes_init_4 : decode b_WriteCodes_init 4 = .ok (.aload_n 0, 1) := by decide +kernel
theorem d_WriteCodes_init_5 : decode b_WriteCodes_init 5 = .ok (.sipush 288, 3) := by decide +kernel
theorem d_WriteCodes_init_8 : decode b_WriteCodes_init 8 = .ok (.newarray .int, 2) := by decide +kernel
theorem d_WriteCodes_init_10 : decode b_WriteCodes_init 10 = .ok (.putfield 9, 3) := by decide +kernel
theorem d_WriteCodes_init_13 : decode b_WriteCodes_init 13 = .ok (.aload_n 0, 1) := by decide +kernel
theorem d_WriteCodes_init_14 : decode b_WriteCodes_init 14 = .ok (.sipush 288, 3) := by decide +kernel
theorem d_WriteCodes_init_17 : decode b_WriteCodes_init 17 = .ok (.newarray .int, 2) := by decide +kernel
theorem d_WriteCodes_init_19 : decode b_WriteCodes_init 19 = .ok (.putfield 15, 3) := by decide +kernel
theorem d_WriteCodes_init_22 : decode b_WriteCodes_init 22 = .ok (.return_, 1) := by decide +kernel
theorem d_Tale_init_0 : decode b_Tale_init 0 = .ok (.aload_n 0, 1) := by decide +kernel
theorem d_Tale_init_1 : decode b_Tale_init 1 = .ok (.invokespecial 3, 3) := by decide +kernel
theorem d_Tale_init_4 : decode b_Tale_init 4 = .ok (.aload_n 0, 1) := by decide +kernel
theorem d_Tale_init_5 : decode b_Tale_init 5 = .ok (.sipush 316, 3) := by decide +kernel
theorem d_Tale_init_8 : decode b_Tale_init 8 = .ok (.newarray .int, 2) := by decide +kernel
theorem d_Tale_init_10 : decode b_Tale_init 10 = .ok (.putfield 9, 3) := by decide +kernel
theorem d_Tale_init_13 : decode b_Tale_init 13 = .ok (.aload_n 0, 1) := by decide +kernel
theorem d_Tale_init_14 : decode b_Tale_init 14 = .ok (.sipush 316, 3) := by decide +kernel
theorem d_Tale_init_17 : decode b_Tale_init 17 = .ok (.newarray .int, 2) := by decide +kernel
theorem d_Tale_init_19 : decode b_Tale_init 19 = .ok (.putfield 15, 3) := by decide +kernel
theorem d_Tale_init_22 : decode b_Tale_init 22 = .ok (.aload_n 0, 1) := by decide +kernel
theorem d_Tale_init_23 : decode b_Tale_init 23 = .ok (.sipush 316, 3) := by decide +kernel
theorem d_Tale_init_26 : decode b_Tale_init 26 = .ok (.newarray .int, 2) := by decide +kernel
theorem d_Tale_init_28 : decode b_Tale_init 28 = .ok (.putfield 18, 3) := by decide +kernel
theorem d_Tale_init_31 : decode b_Tale_init 31 = .ok (.aload_n 0, 1) := by decide +kernel
theorem d_Tale_init_32 : decode b_Tale_init 32 = .ok (.bipush 19, 2) := by decide +kernel
theorem d_Tale_init_34 : decode b_Tale_init 34 = .ok (.newarray .int, 2) := by decide +kernel
theorem d_Tale_init_36 : decode b_Tale_init 36 = .ok (.putfield 21, 3) := by decide +kernel
theorem d_Tale_init_39 : decode b_Tale_init 39 = .ok (.aload_n 0, 1) := by decide +kernel
theorem d_Tale_init_40 : decode b_Tale_init 40 = .ok (.new 24, 3) := by decide +kernel
theorem d_Tale_init_43 : decode b_Tale_init 43 = .ok (.dup, 1) := by decide +kernel
theorem d_Tale_init_44 : decode b_Tale_init 44 = .ok (.invokespecial 26, 3) := by decide +kernel
theorem d_Tale_init_47 : decode b_Tale_init 47 = .ok (.putfield 27, 3) := by decide +kernel
theorem d_Tale_init_50 : decode b_Tale_init 50 = .ok (.aload_n 0, 1) := by decide +kernel
theorem d_Tale_init_51 : decode b_Tale_init 51 = .ok (.iconst 0, 1) := by decide +kernel
theorem d_Tale_init_52 : decode b_Tale_init 52 = .ok (.putfield 31, 3) := by decide +kernel
theorem d_Tale_init_55 : decode b_Tale_init 55 = .ok (.aload_n 0, 1) := by decide +kernel
theorem d_Tale_init_56 : decode b_Tale_init 56 = .ok (.iconst 0, 1) := by decide +kernel
theorem d_Tale_init_57 : decode b_Tale_init 57 = .ok (.putfield 35, 3) := by decide +kernel
theorem d_Tale_init_60 : decode b_Tale_init 60 = .ok (.aload_n 0, 1) := by decide +kernel
theorem d_Tale_init_61 : decode b_Tale_init 61 = .ok (.iconst 0, 1) := by decide +kernel
theorem d_Tale_init_62 : decode b_Tale_init 62 = .ok (.putfield 38, 3) := by decide +kernel
theorem d_Tale_init_65 : decode b_Tale_init 65 = .ok (.aload_n 0, 1) := by decide +kernel
theorem d_Tale_init_66 : decode b_Tale_init 66 = .ok (.iconst 0, 1) := by decide +kernel
theorem d_Tale_init_67 : decode b_Tale_init 67 = .ok (.putfield 41, 3) := by decide +kernel
theorem d_Tale_init_70 : decode b_Tale_init 70 = .ok (.return_, 1) := by decide +kernel
theorem d_Bp_fixedLength_0 : decode b_Bp_fixedLength 0 = .ok (.iload_n 0, 1) := by decide +kernel
theorem d_Bp_fixedLength_1 : decode b_Bp_fixedLength 1 = .ok (.sipush 144, 3) := by decide +kernel
theorem d_Bp_fixedLength_4 : decode b_Bp_fixedLength 4 = .ok (.if_icmp .ge 6, 3) := by decide +kernel
theorem d_Bp_fixedLength_7 : decode b_Bp_fixedLength 7 = .ok (.bipush 8, 2) := by decide +kernel
theorem d_Bp_fixedLength_9 : decode b_Bp_fixedLength 9 = .ok (.ireturn, 1) := by decide +kernel
theorem d_Bp_fixedLength_10 : decode b_Bp_fixedLength 10 = .ok (.iload_n 0, 1) := by decide +kernel
theorem d_Bp_fixedLength_11 : decode b_Bp_fixedLength 11 = .ok (.sipush 256, 3) := by decide +kernel
theorem d_Bp_fixedLength_14 : decode b_Bp_fixedLength 14 = .ok (.if_icmp .ge 6, 3) := by decide +kernel
theorem d_Bp_fixedLength_17 : decode b_Bp_fixedLength 17 = .ok (.bipush 9, 2) := by decide +kernel
theorem d_Bp_fixedLength_19 : decode b_Bp_fixedLength 19 = .ok (.ireturn, 1) := by decide +kernel
theorem d_Bp_fixedLength_20 : decode b_Bp_fixedLength 20 = .ok (.iload_n 0, 1) := by decide +kernel
theorem d_Bp_fixedLength_21 : decode b_Bp_fixedLength 21 = .ok (.sipush 280, 3) := by decide +kernel
theorem d_Bp_fixedLength_24 : decode b_Bp_fixedLength 24 = .ok (.if_icmp .ge 8, 3) := by decide +kernel
theorem d_Bp_fixedLength_27 : decode b_Bp_fixedLength 27 = .ok (.bipush 7, 2) := by decide +kernel
theorem d_Bp_fixedLength_29 : decode b_Bp_fixedLength 29 = .ok (.goto 5, 3) := by decide +kernel
theorem d_Bp_fixedLength_32 : decode b_Bp_fixedLength 32 = .ok (.bipush 8, 2) := by decide +kernel
theorem d_Bp_fixedLength_34 : decode b_Bp_fixedLength 34 = .ok (.ireturn, 1) := by decide +kernel
theorem d_WriteCodes_turned_0 : decode b_WriteCodes_turned 0 = .ok (.iconst 0, 1) := by decide +kernel
theorem d_WriteCodes_turned_1 : decode b_WriteCodes_turned 1 = .ok (.istore_n 3, 1) := by decide +kernel
theorem d_WriteCodes_turned_2 : decode b_WriteCodes_turned 2 = .ok (.iconst 0, 1) := by decide +kernel
theorem d_WriteCodes_turned_3 : decode b_WriteCodes_turned 3 = .ok (.istore 4, 2) := by decide +kernel
theorem d_WriteCodes_turned_5 : decode b_WriteCodes_turned 5 = .ok (.iload 4, 2) := by decide +kernel
theorem d_WriteCodes_turned_7 : decode b_WriteCodes_turned 7 = .ok (.iload_n 2, 1) := by decide +kernel
theorem d_WriteCodes_turned_8 : decode b_WriteCodes_turned 8 = .ok (.if_icmp .ge 20, 3) := by decide +kernel
theorem d_WriteCodes_turned_11 : decode b_WriteCodes_turned 11 = .ok (.iconst 2, 1) := by decide +kernel
theorem d_WriteCodes_turned_12 : decode b_WriteCodes_turned 12 = .ok (.iload_n 3, 1) := by decide +kernel
theorem d_WriteCodes_turned_13 : decode b_WriteCodes_turned 13 = .ok (.imul, 1) := by decide +kernel
theorem d_WriteCodes_turned_14 : decode b_WriteCodes_turned 14 = .ok (.iload_n 1, 1) := by decide +kernel
theorem d_WriteCodes_turned_15 : decode b_WriteCodes_turned 15 = .ok (.iload 4, 2) := by decide +kernel
theorem d_WriteCodes_turned_17 : decode b_WriteCodes_turned 17 = .ok (.ishr, 1) := by decide +kernel
theorem d_WriteCodes_turned_18 : decode b_WriteCodes_turned 18 = .ok (.iconst 1, 1) := by decide +kernel
theorem d_WriteCodes_turned_19 : decode b_WriteCodes_turned 19 = .ok (.iand, 1) := by decide +kernel
theorem d_WriteCodes_turned_20 : decode b_WriteCodes_turned 20 = .ok (.iadd, 1) := by decide +kernel
theorem d_WriteCodes_turned_21 : decode b_WriteCodes_turned 21 = .ok (.istore_n 3, 1) := by decide +kernel
theorem d_WriteCodes_turned_22 : decode b_WriteCodes_turned 22 = .ok (.iinc 4 1, 3) := by decide +kernel
theorem d_WriteCodes_turned_25 : decode b_WriteCodes_turned 25 = .ok (.goto (-20), 3) := by decide +kernel
theorem d_WriteCodes_turned_28 : decode b_WriteCodes_turned 28 = .ok (.iload_n 3, 1) := by decide +kernel
theorem d_WriteCodes_turned_29 : decode b_WriteCodes_turned 29 = .ok (.ireturn, 1) := by decide +kernel
theorem d_WriteCodes_makeCodes_0 : decode b_WriteCodes_makeCodes 0 = .ok (.iconst 0, 1) := by decide +kernel
theorem d_WriteCodes_makeCodes_1 : decode b_WriteCodes_makeCodes 1 = .ok (.istore_n 1, 1) := by decide +kernel
theorem d_WriteCodes_makeCodes_2 : decode b_WriteCodes_makeCodes 2 = .ok (.iconst 1, 1) := by decide +kernel
theorem d_WriteCodes_makeCodes_3 : decode b_WriteCodes_makeCodes 3 = .ok (.istore_n 2, 1) := by decide +kernel
theorem d_WriteCodes_makeCodes_4 : decode b_WriteCodes_makeCodes 4 = .ok (.iload_n 2, 1) := by decide +kernel
theorem d_WriteCodes_makeCodes_5 : decode b_WriteCodes_makeCodes 5 = .ok (.bipush 15, 2) := by decide +kernel
theorem d_WriteCodes_makeCodes_7 : decode b_WriteCodes_makeCodes 7 = .ok (.if_icmp .gt 53, 3) := by decide +kernel
theorem d_WriteCodes_makeCodes_10 : decode b_WriteCodes_makeCodes 10 = .ok (.iconst 2, 1) := by decide +kernel
theorem d_WriteCodes_makeCodes_11 : decode b_WriteCodes_makeCodes 11 = .ok (.iload_n 1, 1) := by decide +kernel
theorem d_WriteCodes_makeCodes_12 : decode b_WriteCodes_makeCodes 12 = .ok (.imul, 1) := by decide +kernel
theorem d_WriteCodes_makeCodes_13 : decode b_WriteCodes_makeCodes 13 = .ok (.istore_n 1, 1) := by decide +kernel
theorem d_WriteCodes_makeCodes_14 : decode b_WriteCodes_makeCodes 14 = .ok (.iconst 0, 1) := by decide +kernel
theorem d_WriteCodes_makeCodes_15 : decode b_WriteCodes_makeCodes 15 = .ok (.istore_n 3, 1) := by decide +kernel
theorem d_WriteCodes_makeCodes_16 : decode b_WriteCodes_makeCodes 16 = .ok (.iload_n 3, 1) := by decide +kernel
theorem d_WriteCodes_makeCodes_17 : decode b_WriteCodes_makeCodes 17 = .ok (.sipush 288, 3) := by decide +kernel
theorem d_WriteCodes_makeCodes_20 : decode b_WriteCodes_makeCodes 20 = .ok (.if_icmp .ge 34, 3) := by decide +kernel
theorem d_WriteCodes_makeCodes_23 : decode b_WriteCodes_makeCodes 23 = .ok (.aload_n 0, 1) := by decide +kernel
theorem d_WriteCodes_makeCodes_24 : decode b_WriteCodes_makeCodes 24 = .ok (.getfield 9, 3) := by decide +kernel
theorem d_WriteCodes_makeCodes_27 : decode b_WriteCodes_makeCodes 27 = .ok (.iload_n 3, 1) := by decide +kernel
theorem d_WriteCodes_makeCodes_28 : decode b_WriteCodes_makeCodes 28 = .ok (.iaload, 1) := by decide +kernel
theorem d_WriteCodes_makeCodes_29 : decode b_WriteCodes_makeCodes 29 = .ok (.iload_n 2, 1) := by decide +kernel
theorem d_WriteCodes_makeCodes_30 : decode b_WriteCodes_makeCodes 30 = .ok (.if_icmp .ne 18, 3) := by decide +kernel
theorem d_WriteCodes_makeCodes_33 : decode b_WriteCodes_makeCodes 33 = .ok (.aload_n 0, 1) := by decide +kernel
theorem d_WriteCodes_makeCodes_34 : decode b_WriteCodes_makeCodes 34 = .ok (.getfield 15, 3) := by decide +kernel
theorem d_WriteCodes_makeCodes_37 : decode b_WriteCodes_makeCodes 37 = .ok (.iload_n 3, 1) := by decide +kernel
theorem d_WriteCodes_makeCodes_38 : decode b_WriteCodes_makeCodes 38 = .ok (.aload_n 0, 1) := by decide +kernel
theorem d_WriteCodes_makeCodes_39 : decode b_WriteCodes_makeCodes 39 = .ok (.iload_n 1, 1) := by decide +kernel
theorem d_WriteCodes_makeCodes_40 : decode b_WriteCodes_makeCodes 40 = .ok (.iload_n 2, 1) := by decide +kernel
theorem d_WriteCodes_makeCodes_41 : decode b_WriteCodes_makeCodes 41 = .ok (.invokevirtual 18, 3) := by decide +kernel
theorem d_WriteCodes_makeCodes_44 : decode b_WriteCodes_makeCodes 44 = .ok (.iastore, 1) := by decide +kernel
theorem d_WriteCodes_makeCodes_45 : decode b_WriteCodes_makeCodes 45 = .ok (.iinc 1 1, 3) := by decide +kernel
theorem d_WriteCodes_makeCodes_48 : decode b_WriteCodes_makeCodes 48 = .ok (.iinc 3 1, 3) := by decide +kernel
theorem d_WriteCodes_makeCodes_51 : decode b_WriteCodes_makeCodes 51 = .ok (.goto (-35), 3) := by decide +kernel
theorem d_WriteCodes_makeCodes_54 : decode b_WriteCodes_makeCodes 54 = .ok (.iinc 2 1, 3) := by decide +kernel
theorem d_WriteCodes_makeCodes_57 : decode b_WriteCodes_makeCodes 57 = .ok (.goto (-53), 3) := by decide +kernel
theorem d_WriteCodes_makeCodes_60 : decode b_WriteCodes_makeCodes 60 = .ok (.return_, 1) := by decide +kernel
theorem d_Packer_init_0 : decode b_Packer_init 0 = .ok (.aload_n 0, 1) := by decide +kernel
theorem d_Packer_init_1 : decode b_Packer_init 1 = .ok (.invokespecial 3, 3) := by decide +kernel
theorem d_Packer_init_4 : decode b_Packer_init 4 = .ok (.aload_n 0, 1) := by decide +kernel
theorem d_Packer_init_5 : decode b_Packer_init 5 = .ok (.new 9, 3) := by decide +kernel
theorem d_Packer_init_8 : decode b_Packer_init 8 = .ok (.dup, 1) := by decide +kernel
theorem d_Packer_init_9 : decode b_Packer_init 9 = .ok (.invokespecial 11, 3) := by decide +kernel
theorem d_Packer_init_12 : decode b_Packer_init 12 = .ok (.putfield 12, 3) := by decide +kernel
theorem d_Packer_init_15 : decode b_Packer_init 15 = .ok (.aload_n 0, 1) := by decide +kernel
theorem d_Packer_init_16 : decode b_Packer_init 16 = .ok (.new 18, 3) := by decide +kernel
theorem d_Packer_init_19 : decode b_Packer_init 19 = .ok (.dup, 1) := by decide +kernel
theorem d_Packer_init_20 : decode b_Packer_init 20 = .ok (.invokespecial 20, 3) := by decide +kernel
theorem d_Packer_init_23 : decode b_Packer_init 23 = .ok (.putfield 21, 3) := by decide +kernel
theorem d_Packer_init_26 : decode b_Packer_init 26 = .ok (.aload_n 0, 1) := by decide +kernel
theorem d_Packer_init_27 : decode b_Packer_init 27 = .ok (.new 25, 3) := by decide +kernel
theorem d_Packer_init_30 : decode b_Packer_init 30 = .ok (.dup, 1) := by decide +kernel
theorem d_Packer_init_31 : decode b_Packer_init 31 = .ok (.invokespecial 27, 3) := by decide +kernel
theorem d_Packer_init_34 : decode b_Packer_init 34 = .ok (.putfield 28, 3) := by decide +kernel
theorem d_Packer_init_37 : decode b_Packer_init 37 = .ok (.aload_n 0, 1) := by decide +kernel
theorem d_Packer_init_38 : decode b_Packer_init 38 = .ok (.new 32, 3) := by decide +kernel
theorem d_Packer_init_41 : decode b_Packer_init 41 = .ok (.dup, 1) := by decide +kernel
theorem d_Packer_init_42 : decode b_Packer_init 42 = .ok (.invokespecial 34, 3) := by decide +kernel
theorem d_Packer_init_45 : decode b_Packer_init 45 = .ok (.putfield 35, 3) := by decide +kernel
theorem d_Packer_init_48 : decode b_Packer_init 48 = .ok (.aload_n 0, 1) := by decide +kernel
theorem d_Packer_init_49 : decode b_Packer_init 49 = .ok (.new 39, 3) := by decide +kernel
theorem d_Packer_init_52 : decode b_Packer_init 52 = .ok (.dup, 1) := by decide +kernel
theorem d_Packer_init_53 : decode b_Packer_init 53 = .ok (.invokespecial 41, 3) := by decide +kernel
theorem d_Packer_init_56 : decode b_Packer_init 56 = .ok (.putfield 42, 3) := by decide +kernel
theorem d_Packer_init_59 : decode b_Packer_init 59 = .ok (.aload_n 0, 1) := by decide +kernel
theorem d_Packer_init_60 : decode b_Packer_init 60 = .ok (.new 39, 3) := by decide +kernel
theorem d_Packer_init_63 : decode b_Packer_init 63 = .ok (.dup, 1) := by decide +kernel
theorem d_Packer_init_64 : decode b_Packer_init 64 = .ok (.invokespecial 41, 3) := by decide +kernel
theorem d_Packer_init_67 : decode b_Packer_init 67 = .ok (.putfield 46, 3) := by decide +kernel
theorem d_Packer_init_70 : decode b_Packer_init 70 = .ok (.aload_n 0, 1) := by decide +kernel
theorem d_Packer_init_71 : decode b_Packer_init 71 = .ok (.new 39, 3) := by decide +kernel
theorem d_Packer_init_74 : decode b_Packer_init 74 = .ok (.dup, 1) := by decide +kernel
theorem d_Packer_init_75 : decode b_Packer_init 75 = .ok (.invokespecial 41, 3) := by decide +kernel
theorem d_Packer_init_78 : decode b_Packer_init 78 = .ok (.putfield 49, 3) := by decide +kernel
theorem d_Packer_init_81 : decode b_Packer_init 81 = .ok (.aload_n 0, 1) := by decide +kernel
theorem d_Packer_init_82 : decode b_Packer_init 82 = .ok (.new 39, 3) := by decide +kernel
theorem d_Packer_init_85 : decode b_Packer_init 85 = .ok (.dup, 1) := by decide +kernel
theorem d_Packer_init_86 : decode b_Packer_init 86 = .ok (.invokespecial 41, 3) := by decide +kernel
theorem d_Packer_init_89 : decode b_Packer_init 89 = .ok (.putfield 52, 3) := by decide +kernel
theorem d_Packer_init_92 : decode b_Packer_init 92 = .ok (.aload_n 0, 1) := by decide +kernel
theorem d_Packer_init_93 : decode b_Packer_init 93 = .ok (.iconst 0, 1) := by decide +kernel
theorem d_Packer_init_94 : decode b_Packer_init 94 = .ok (.putfield 55, 3) := by decide +kernel
theorem d_Packer_init_97 : decode b_Packer_init 97 = .ok (.aload_n 0, 1) := by decide +kernel
theorem d_Packer_init_98 : decode b_Packer_init 98 = .ok (.iconst 0, 1) := by decide +kernel
theorem d_Packer_init_99 : decode b_Packer_init 99 = .ok (.putfield 59, 3) := by decide +kernel
theorem d_Packer_init_102 : decode b_Packer_init 102 = .ok (.aload_n 0, 1) := by decide +kernel
theorem d_Packer_init_103 : decode b_Packer_init 103 = .ok (.iconst 0, 1) := by decide +kernel
theorem d_Packer_init_104 : decode b_Packer_init 104 = .ok (.putfield 62, 3) := by decide +kernel
theorem d_Packer_init_107 : decode b_Packer_init 107 = .ok (.aload_n 0, 1) := by decide +kernel
theorem d_Packer_init_108 : decode b_Packer_init 108 = .ok (.iconst 0, 1) := by decide +kernel
theorem d_Packer_init_109 : decode b_Packer_init 109 = .ok (.putfield 65, 3) := by decide +kernel
theorem d_Packer_init_112 : decode b_Packer_init 112 = .ok (.aload_n 0, 1) := by decide +kernel
theorem d_Packer_init_113 : decode b_Packer_init 113 = .ok (.iconst 0, 1) := by decide +kernel
theorem d_Packer_init_114 : decode b_Packer_init 114 = .ok (.putfield 68, 3) := by decide +kernel
theorem d_Packer_init_117 : decode b_Packer_init 117 = .ok (.iconst 0, 1) := by decide +kernel
theorem d_Packer_init_118 : decode b_Packer_init 118 = .ok (.istore_n 1, 1) := by decide +kernel
theorem d_Packer_init_119 : decode b_Packer_init 119 = .ok (.iload_n 1, 1) := by decide +kernel
theorem d_Packer_init_120 : decode b_Packer_init 120 = .ok (.sipush 288, 3) := by decide +kernel
theorem d_Packer_init_123 : decode b_Packer_init 123 = .ok (.if_icmp .ge 22, 3) := by decide +kernel
theorem d_Packer_init_126 : decode b_Packer_init 126 = .ok (.aload_n 0, 1) := by decide +kernel
theorem d_Packer_init_127 : decode b_Packer_init 127 = .ok (.getfield 42, 3) := by decide +kernel
theorem d_Packer_init_130 : decode b_Packer_init 130 = .ok (.getfield 71, 3) := by decide +kernel
theorem d_Packer_init_133 : decode b_Packer_init 133 = .ok (.iload_n 1, 1) := by decide +kernel
theorem d_Packer_init_134 : decode b_Packer_init 134 = .ok (.iload_n 1, 1) := by decide +kernel
theorem d_Packer_init_135 : decode b_Packer_init 135 = .ok (.invokestatic 75, 3) := by decide +kernel
theorem d_Packer_init_138 : decode b_Packer_init 138 = .ok (.iastore, 1) := by decide +kernel
theorem d_Packer_init_139 : decode b_Packer_init 139 = .ok (.iinc 1 1, 3) := by decide +kernel
theorem d_Packer_init_142 : decode b_Packer_init 142 = .ok (.goto (-23), 3) := by decide +kernel
theorem d_Packer_init_145 : decode b_Packer_init 145 = .ok (.iconst 0, 1) := by decide +kernel
theorem d_Packer_init_146 : decode b_Packer_init 146 = .ok (.istore_n 1, 1) := by decide +kernel
theorem d_Packer_init_147 : decode b_Packer_init 147 = .ok (.iload_n 1, 1) := by decide +kernel
theorem d_Packer_init_148 : decode b_Packer_init 148 = .ok (.bipush 32, 2) := by decide +kernel
theorem d_Packer_init_150 : decode b_Packer_init 150 = .ok (.if_icmp .ge 19, 3) := by decide +kernel
theorem d_Packer_init_153 : decode b_Packer_init 153 = .ok (.aload_n 0, 1) := by decide +kernel
theorem d_Packer_init_154 : decode b_Packer_init 154 = .ok (.getfield 46, 3) := by decide +kernel
theorem d_Packer_init_157 : decode b_Packer_init 157 = .ok (.getfield 71, 3) := by decide +kernel
theorem d_Packer_init_160 : decode b_Packer_init 160 = .ok (.iload_n 1, 1) := by decide +kernel
theorem d_Packer_init_161 : decode b_Packer_init 161 = .ok (.iconst 5, 1) := by decide +kernel
theorem d_Packer_init_162 : decode b_Packer_init 162 = .ok (.iastore, 1) := by decide +kernel
theorem d_Packer_init_163 : decode b_Packer_init 163 = .ok (.iinc 1 1, 3) := by decide +kernel
theorem d_Packer_init_166 : decode b_Packer_init 166 = .ok (.goto (-19), 3) := by decide +kernel
theorem d_Packer_init_169 : decode b_Packer_init 169 = .ok (.aload_n 0, 1) := by decide +kernel
theorem d_Packer_init_170 : decode b_Packer_init 170 = .ok (.getfield 42, 3) := by decide +kernel
theorem d_Packer_init_173 : decode b_Packer_init 173 = .ok (.invokevirtual 79, 3) := by decide +kernel
theorem d_Packer_init_176 : decode b_Packer_init 176 = .ok (.aload_n 0, 1) := by decide +kernel
theorem d_Packer_init_177 : decode b_Packer_init 177 = .ok (.getfield 46, 3) := by decide +kernel
theorem d_Packer_init_180 : decode b_Packer_init 180 = .ok (.invokevirtual 79, 3) := by decide +kernel
theorem d_Packer_init_183 : decode b_Packer_init 183 = .ok (.return_, 1) := by decide +kernel
theorem d_ReadCodes_init_0 : decode b_ReadCodes_init 0 = .ok (.aload_n 0, 1) := by decide +kernel
theorem d_ReadCodes_init_1 : decode b_ReadCodes_init 1 = .ok (.invokespecial 3, 3) := by decide +kernel
theorem d_ReadCodes_init_4 : decode b_ReadCodes_init 4 = .ok (.aload_n 0, 1) := by decide +kernel
theorem d_ReadCodes_init_5 : decode b_ReadCodes_init 5 = .ok (.bipush 16, 2) := by decide +kernel
theorem d_ReadCodes_init_7 : decode b_ReadCodes_init 7 = .ok (.newarray .int, 2) := by decide +kernel
theorem d_ReadCodes_init_9 : decode b_ReadCodes_init 9 = .ok (.putfield 9, 3) := by decide +kernel
theorem d_ReadCodes_init_12 : decode b_ReadCodes_init 12 = .ok (.aload_n 0, 1) := by decide +kernel
theorem d_ReadCodes_init_13 : decode b_ReadCodes_init 13 = .ok (.sipush 288, 3) := by decide +kernel
theorem d_ReadCodes_init_16 : decode b_ReadCodes_init 16 = .ok (.newarray .int, 2) := by decide +kernel
theorem d_ReadCodes_init_18 : decode b_ReadCodes_init 18 = .ok (.putfield 15, 3) := by decide +kernel
theorem d_ReadCodes_init_21 : decode b_ReadCodes_init 21 = .ok (.aload_n 0, 1) := by decide +kernel
theorem d_ReadCodes_init_22 : decode b_ReadCodes_init 22 = .ok (.iconst 0, 1) := by decide +kernel
theorem d_ReadCodes_init_23 : decode b_ReadCodes_init 23 = .ok (.putfield 18, 3) := by decide +kernel
theorem d_ReadCodes_init_26 : decode b_ReadCodes_init 26 = .ok (.aload_n 0, 1) := by decide +kernel
theorem d_ReadCodes_init_27 : decode b_ReadCodes_init 27 = .ok (.iconst 0, 1) := by decide +kernel
theorem d_ReadCodes_init_28 : decode b_ReadCodes_init 28 = .ok (.putfield 22, 3) := by decide +kernel
theorem d_ReadCodes_init_31 : decode b_ReadCodes_init 31 = .ok (.return_, 1) := by decide +kernel
theorem d_Ar_fill2_0 : decode b_Ar_fill2 0 = .ok (.iconst 0, 1) := by decide +kernel
theorem d_Ar_fill2_1 : decode b_Ar_fill2 1 = .ok (.istore_n 2, 1) := by decide +kernel
theorem d_Ar_fill2_2 : decode b_Ar_fill2 2 = .ok (.aload_n 0, 1) := by decide +kernel
theorem d_Ar_fill2_3 : decode b_Ar_fill2 3 = .ok (.arraylength, 1) := by decide +kernel
theorem d_Ar_fill2_4 : decode b_Ar_fill2 4 = .ok (.istore_n 3, 1) := by decide +kernel
theorem d_Ar_fill2_5 : decode b_Ar_fill2 5 = .ok (.iload_n 2, 1) := by decide +kernel
theorem d_Ar_fill2_6 : decode b_Ar_fill2 6 = .ok (.iload_n 3, 1) := by decide +kernel
theorem d_Ar_fill2_7 : decode b_Ar_fill2 7 = .ok (.if_icmp .ge 13, 3) := by decide +kernel
theorem d_Ar_fill2_10 : decode b_Ar_fill2 10 = .ok (.aload_n 0, 1) := by decide +kernel
theorem d_Ar_fill2_11 : decode b_Ar_fill2 11 = .ok (.iload_n 2, 1) := by decide +kernel
theorem d_Ar_fill2_12 : decode b_Ar_fill2 12 = .ok (.iload_n 1, 1) := by decide +kernel
theorem d_Ar_fill2_13 : decode b_Ar_fill2 13 = .ok (.iastore, 1) := by decide +kernel
theorem d_Ar_fill2_14 : decode b_Ar_fill2 14 = .ok (.iinc 2 1, 3) := by decide +kernel
theorem d_Ar_fill2_17 : decode b_Ar_fill2 17 = .ok (.goto (-12), 3) := by decide +kernel
theorem d_Ar_fill2_20 : decode b_Ar_fill2 20 = .ok (.return_, 1) := by decide +kernel
theorem d_ReadCodes_addSymbols_0 : decode b_ReadCodes_addSymbols 0 = .ok (.iconst 0, 1) := by decide +kernel
theorem d_ReadCodes_addSymbols_1 : decode b_ReadCodes_addSymbols 1 = .ok (.istore 5, 2) := by decide +kernel
theorem d_ReadCodes_addSymbols_3 : decode b_ReadCodes_addSymbols 3 = .ok (.iload 5, 2) := by decide +kernel
theorem d_ReadCodes_addSymbols_5 : decode b_ReadCodes_addSymbols 5 = .ok (.iload_n 3, 1) := by decide +kernel
theorem d_ReadCodes_addSymbols_6 : decode b_ReadCodes_addSymbols 6 = .ok (.if_icmp .ge 41, 3) := by decide +kernel
theorem d_ReadCodes_addSymbols_9 : decode b_ReadCodes_addSymbols 9 = .ok (.aload_n 1, 1) := by decide +kernel
theorem d_ReadCodes_addSymbols_10 : decode b_ReadCodes_addSymbols 10 = .ok (.iload_n 2, 1) := by decide +kernel
theorem d_ReadCodes_addSymbols_11 : decode b_ReadCodes_addSymbols 11 = .ok (.iload 5, 2) := by decide +kernel
theorem d_ReadCodes_addSymbols_13 : decode b_ReadCodes_addSymbols 13 = .ok (.iadd, 1) := by decide +kernel
theorem d_ReadCodes_addSymbols_14 : decode b_ReadCodes_addSymbols 14 = .ok (.iaload, 1) := by decide +kernel
theorem d_ReadCodes_addSymbols_15 : decode b_ReadCodes_addSymbols 15 = .ok (.iload 4, 2) := by decide +kernel
theorem d_ReadCodes_addSymbols_17 : decode b_ReadCodes_addSymbols 17 = .ok (.if_icmp .ne 24, 3) := by decide +kernel
theorem d_ReadCodes_addSymbols_20 : decode b_ReadCodes_addSymbols 20 = .ok (.aload_n 0, 1) := by decide +kernel
theorem d_ReadCodes_addSymbols_21 : decode b_ReadCodes_addSymbols 21 = .ok (.getfield 15, 3) := by decide +kernel
theorem d_ReadCodes_addSymbols_24 : decode b_ReadCodes_addSymbols 24 = .ok (.aload_n 0, 1) := by decide +kernel
theorem d_ReadCodes_addSymbols_25 : decode b_ReadCodes_addSymbols 25 = .ok (.getfield 18, 3) := by decide +kernel
theorem d_ReadCodes_addSymbols_28 : decode b_ReadCodes_addSymbols 28 = .ok (.iload 5, 2) := by decide +kernel
theorem d_ReadCodes_addSymbols_30 : decode b_ReadCodes_addSymbols 30 = .ok (.iastore, 1) := by decide +kernel
theorem d_ReadCodes_addSymbols_31 : decode b_ReadCodes_addSymbols 31 = .ok (.aload_n 0, 1) := by decide +kernel
theorem d_ReadCodes_addSymbols_32 : decode b_ReadCodes_addSymbols 32 = .ok (.dup, 1) := by decide +kernel
theorem d_ReadCodes_addSymbols_33 : decode b_ReadCodes_addSymbols 33 = .ok (.getfield 18, 3) := by decide +kernel
theorem d_ReadCodes_addSymbols_36 : decode b_ReadCodes_addSymbols 36 = .ok (.iconst 1, 1) := by decide +kernel
theorem d_ReadCodes_addSymbols_37 : decode b_ReadCodes_addSymbols 37 = .ok (.iadd, 1) := by decide +kernel
theorem d_ReadCodes_addSymbols_38 : decode b_ReadCodes_addSymbols 38 = .ok (.putfield 18, 3) := by decide +kernel
theorem d_ReadCodes_addSymbols_41 : decode b_ReadCodes_addSymbols 41 = .ok (.iinc 5 1, 3) := by decide +kernel
theorem d_ReadCodes_addSymbols_44 : decode b_ReadCodes_addSymbols 44 = .ok (.goto (-41), 3) := by decide +kernel
theorem d_ReadCodes_addSymbols_47 : decode b_ReadCodes_addSymbols 47 = .ok (.return_, 1) := by decide +kernel
theorem d_ReadCodes_make_0 : decode b_ReadCodes_make 0 = .ok (.aload_n 0, 1) := by decide +kernel
theorem d_ReadCodes_make_1 : decode b_ReadCodes_make 1 = .ok (.getfield 9, 3) := by decide +kernel
theorem d_ReadCodes_make_4 : decode b_ReadCodes_make 4 = .ok (.iconst 0, 1) := by decide +kernel
theorem d_ReadCodes_make_5 : decode b_ReadCodes_make 5 = .ok (.invokestatic 25, 3) := by decide +kernel
theorem d_ReadCodes_make_8 : decode b_ReadCodes_make 8 = .ok (.iconst 0, 1) := by decide +kernel
theorem d_ReadCodes_make_9 : decode b_ReadCodes_make 9 = .ok (.istore 4, 2) := by decide +kernel
theorem d_ReadCodes_make_11 : decode b_ReadCodes_make 11 = .ok (.iload 4, 2) := by decide +kernel
theorem d_ReadCodes_make_13 : decode b_ReadCodes_make 13 = .ok (.iload_n 3, 1) := by decide +kernel
theorem d_ReadCodes_make_14 : decode b_ReadCodes_make 14 = .ok (.if_icmp .ge 27, 3) := by decide +kernel
theorem d_ReadCodes_make_17 : decode b_ReadCodes_make 17 = .ok (.aload_n 0, 1) := by decide +kernel
theorem d_ReadCodes_make_18 : decode b_ReadCodes_make 18 = .ok (.getfield 9, 3) := by decide +kernel
theorem d_ReadCodes_make_21 : decode b_ReadCodes_make 21 = .ok (.aload_n 1, 1) := by decide +kernel
theorem d_ReadCodes_make_22 : decode b_ReadCodes_make 22 = .ok (.iload_n 2, 1) := by decide +kernel
theorem d_ReadCodes_make_23 : decode b_ReadCodes_make 23 = .ok (.iload 4, 2) := by decide +kernel
theorem d_ReadCodes_make_25 : decode b_ReadCodes_make 25 = .ok (.iadd, 1) := by decide +kernel
theorem d_ReadCodes_make_26 : decode b_ReadCodes_make 26 = .ok (.iaload, 1) := by decide +kernel
theorem d_ReadCodes_make_27 : decode b_ReadCodes_make 27 = .ok (.bipush 15, 2) := by decide +kernel
theorem d_ReadCodes_make_29 : decode b_ReadCodes_make 29 = .ok (.iand, 1) := by decide +kernel
theorem d_ReadCodes_make_30 : decode b_ReadCodes_make 30 = .ok (.dup2, 1) := by decide +kernel
theorem d_ReadCodes_make_31 : decode b_ReadCodes_make 31 = .ok (.iaload, 1) := by decide +kernel
theorem d_ReadCodes_make_32 : decode b_ReadCodes_make 32 = .ok (.iconst 1, 1) := by decide +kernel
theorem d_ReadCodes_make_33 : decode b_ReadCodes_make 33 = .ok (.iadd, 1) := by decide +kernel
theorem d_ReadCodes_make_34 : decode b_ReadCodes_make 34 = .ok (.iastore, 1) := by decide +kernel
theorem d_ReadCodes_make_35 : decode b_ReadCodes_make 35 = .ok (.iinc 4 1, 3) := by decide +kernel
theorem d_ReadCodes_make_38 : decode b_ReadCodes_make 38 = .ok (.goto (-27), 3) := by decide +kernel
theorem d_ReadCodes_make_41 : decode b_ReadCodes_make 41 = .ok (.aload_n 0, 1) := by decide +kernel
theorem d_ReadCodes_make_42 : decode b_ReadCodes_make 42 = .ok (.iconst 0, 1) := by decide +kernel
theorem d_ReadCodes_make_43 : decode b_ReadCodes_make 43 = .ok (.putfield 18, 3) := by decide +kernel
theorem d_ReadCodes_make_46 : decode b_ReadCodes_make 46 = .ok (.aload_n 0, 1) := by decide +kernel
theorem d_ReadCodes_make_47 : decode b_ReadCodes_make 47 = .ok (.iconst 0, 1) := by decide +kernel
theorem d_ReadCodes_make_48 : decode b_ReadCodes_make 48 = .ok (.putfield 22, 3) := by decide +kernel
theorem d_ReadCodes_make_51 : decode b_ReadCodes_make 51 = .ok (.iconst 1, 1) := by decide +kernel
theorem d_ReadCodes_make_52 : decode b_ReadCodes_make 52 = .ok (.istore 4, 2) := by decide +kernel
theorem d_ReadCodes_make_54 : decode b_ReadCodes_make 54 = .ok (.iload 4, 2) := by decide +kernel
theorem d_ReadCodes_make_56 : decode b_ReadCodes_make 56 = .ok (.bipush 15, 2) := by decide +kernel
theorem d_ReadCodes_make_58 : decode b_ReadCodes_make 58 = .ok (.if_icmp .gt 34, 3) := by decide +kernel
theorem d_ReadCodes_make_61 : decode b_ReadCodes_make 61 = .ok (.aload_n 0, 1) := by decide +kernel
theorem d_ReadCodes_make_62 : decode b_ReadCodes_make 62 = .ok (.getfield 9, 3) := by decide +kernel
theorem d_ReadCodes_make_65 : decode b_ReadCodes_make 65 = .ok (.iload 4, 2) := by decide +kernel
theorem d_ReadCodes_make_67 : decode b_ReadCodes_make 67 = .ok (.iaload, 1) := by decide +kernel
theorem d_ReadCodes_make_68 : decode b_ReadCodes_make 68 = .ok (.ifCond .le 18, 3) := by decide +kernel
theorem d_ReadCodes_make_71 : decode b_ReadCodes_make 71 = .ok (.aload_n 0, 1) := by decide +kernel
theorem d_ReadCodes_make_72 : decode b_ReadCodes_make 72 = .ok (.iload 4, 2) := by decide +kernel
theorem d_ReadCodes_make_74 : decode b_ReadCodes_make 74 = .ok (.putfield 22, 3) := by decide +kernel
theorem d_ReadCodes_make_77 : decode b_ReadCodes_make 77 = .ok (.aload_n 0, 1) := by decide +kernel
theorem d_ReadCodes_make_78 : decode b_ReadCodes_make 78 = .ok (.aload_n 1, 1) := by decide +kernel
theorem d_ReadCodes_make_79 : decode b_ReadCodes_make 79 = .ok (.iload_n 2, 1) := by decide +kernel
theorem d_ReadCodes_make_80 : decode b_ReadCodes_make 80 = .ok (.iload_n 3, 1) := by decide +kernel
theorem d_ReadCodes_make_81 : decode b_ReadCodes_make 81 = .ok (.iload 4, 2) := by decide +kernel
theorem d_ReadCodes_make_83 : decode b_ReadCodes_make 83 = .ok (.invokevirtual 31, 3) := by decide +kernel
theorem d_ReadCodes_make_86 : decode b_ReadCodes_make 86 = .ok (.iinc 4 1, 3) := by decide +kernel
theorem d_ReadCodes_make_89 : decode b_ReadCodes_make 89 = .ok (.goto (-35), 3) := by decide +kernel
theorem d_ReadCodes_make_92 : decode b_ReadCodes_make 92 = .ok (.return_, 1) := by decide +kernel
theorem d_Unpacker_init_0 : decode b_Unpacker_init 0 = .ok (.aload_n 0, 1) := by decide +kernel
theorem d_Unpacker_init_1 : decode b_Unpacker_init 1 = .ok (.invokespecial 3, 3) := by decide +kernel
theorem d_Unpacker_init_4 : decode b_Unpacker_init 4 = .ok (.aload_n 0, 1) := by decide +kernel
theorem d_Unpacker_init_5 : decode b_Unpacker_init 5 = .ok (.new 9, 3) := by decide +kernel
theorem d_Unpacker_init_8 : decode b_Unpacker_init 8 = .ok (.dup, 1) := by decide +kernel
theorem d_Unpacker_init_9 : decode b_Unpacker_init 9 = .ok (.invokespecial 11, 3) := by decide +kernel
theorem d_Unpacker_init_12 : decode b_Unpacker_init 12 = .ok (.putfield 12, 3) := by decide +kernel
theorem d_Unpacker_init_15 : decode b_Unpacker_init 15 = .ok (.aload_n 0, 1) := by decide +kernel
theorem d_Unpacker_init_16 : decode b_Unpacker_init 16 = .ok (.new 9, 3) := by decide +kernel
theorem d_Unpacker_init_19 : decode b_Unpacker_init 19 = .ok (.dup, 1) := by decide +kernel
theorem d_Unpacker_init_20 : decode b_Unpacker_init 20 = .ok (.invokespecial 11, 3) := by decide +kernel
theorem d_Unpacker_init_23 : decode b_Unpacker_init 23 = .ok (.putfield 18, 3) := by decide +kernel
theorem d_Unpacker_init_26 : decode b_Unpacker_init 26 = .ok (.aload_n 0, 1) := by decide +kernel
theorem d_Unpacker_init_27 : decode b_Unpacker_init 27 = .ok (.new 9, 3) := by decide +kernel
theorem d_Unpacker_init_30 : decode b_Unpacker_init 30 = .ok (.dup, 1) := by decide +kernel
theorem d_Unpacker_init_31 : decode b_Unpacker_init 31 = .ok (.invokespecial 11, 3) := by decide +kernel
theorem d_Unpacker_init_34 : decode b_Unpacker_init 34 = .ok (.putfield 21, 3) := by decide +kernel
theorem d_Unpacker_init_37 : decode b_Unpacker_init 37 = .ok (.aload_n 0, 1) := by decide +kernel
theorem d_Unpacker_init_38 : decode b_Unpacker_init 38 = .ok (.new 9, 3) := by decide +kernel
theorem d_Unpacker_init_41 : decode b_Unpacker_init 41 = .ok (.dup, 1) := by decide +kernel
theorem d_Unpacker_init_42 : decode b_Unpacker_init 42 = .ok (.invokespecial 11, 3) := by decide +kernel
theorem d_Unpacker_init_45 : decode b_Unpacker_init 45 = .ok (.putfield 24, 3) := by decide +kernel
theorem d_Unpacker_init_48 : decode b_Unpacker_init 48 = .ok (.aload_n 0, 1) := by decide +kernel
theorem d_Unpacker_init_49 : decode b_Unpacker_init 49 = .ok (.new 9, 3) := by decide +kernel
theorem d_Unpacker_init_52 : decode b_Unpacker_init 52 = .ok (.dup, 1) := by decide +kernel
theorem d_Unpacker_init_53 : decode b_Unpacker_init 53 = .ok (.invokespecial 11, 3) := by decide +kernel
theorem d_Unpacker_init_56 : decode b_Unpacker_init 56 = .ok (.putfield 27, 3) := by decide +kernel
theorem d_Unpacker_init_59 : decode b_Unpacker_init 59 = .ok (.aload_n 0, 1) := by decide +kernel
theorem d_Unpacker_init_60 : decode b_Unpacker_init 60 = .ok (.sipush 316, 3) := by decide +kernel
theorem d_Unpacker_init_63 : decode b_Unpacker_init 63 = .ok (.newarray .int, 2) := by decide +kernel
theorem d_Unpacker_init_65 : decode b_Unpacker_init 65 = .ok (.putfield 30, 3) := by decide +kernel
theorem d_Unpacker_init_68 : decode b_Unpacker_init 68 = .ok (.aload_n 0, 1) := by decide +kernel
theorem d_Unpacker_init_69 : decode b_Unpacker_init 69 = .ok (.iconst 0, 1) := by decide +kernel
theorem d_Unpacker_init_70 : decode b_Unpacker_init 70 = .ok (.putfield 34, 3) := by decide +kernel
theorem d_Unpacker_init_73 : decode b_Unpacker_init 73 = .ok (.aload_n 0, 1) := by decide +kernel
theorem d_Unpacker_init_74 : decode b_Unpacker_init 74 = .ok (.iconst 0, 1) := by decide +kernel
theorem d_Unpacker_init_75 : decode b_Unpacker_init 75 = .ok (.putfield 38, 3) := by decide +kernel
theorem d_Unpacker_init_78 : decode b_Unpacker_init 78 = .ok (.aload_n 0, 1) := by decide +kernel
theorem d_Unpacker_init_79 : decode b_Unpacker_init 79 = .ok (.iconst 0, 1) := by decide +kernel
theorem d_Unpacker_init_80 : decode b_Unpacker_init 80 = .ok (.putfield 42, 3) := by decide +kernel
theorem d_Unpacker_init_83 : decode b_Unpacker_init 83 = .ok (.aload_n 0, 1) := by decide +kernel
theorem d_Unpacker_init_84 : decode b_Unpacker_init 84 = .ok (.iconst 0, 1) := by decide +kernel
theorem d_Unpacker_init_85 : decode b_Unpacker_init 85 = .ok (.putfield 45, 3) := by decide +kernel
theorem d_Unpacker_init_88 : decode b_Unpacker_init 88 = .ok (.aload_n 0, 1) := by decide +kernel
theorem d_Unpacker_init_89 : decode b_Unpacker_init 89 = .ok (.iconst 0, 1) := by decide +kernel
theorem d_Unpacker_init_90 : decode b_Unpacker_init 90 = .ok (.putfield 48, 3) := by decide +kernel
theorem d_Unpacker_init_93 : decode b_Unpacker_init 93 = .ok (.sipush 288, 3) := by decide +kernel
theorem d_Unpacker_init_96 : decode b_Unpacker_init 96 = .ok (.newarray .int, 2) := by decide +kernel
theorem d_Unpacker_init_98 : decode b_Unpacker_init 98 = .ok (.astore_n 1, 1) := by decide +kernel
theorem d_Unpacker_init_99 : decode b_Unpacker_init 99 = .ok (.iconst 0, 1) := by decide +kernel
theorem d_Unpacker_init_100 : decode b_Unpacker_init 100 = .ok (.istore_n 2, 1) := by decide +kernel
theorem d_Unpacker_init_101 : decode b_Unpacker_init 101 = .ok (.iload_n 2, 1) := by decide +kernel
theorem d_Unpacker_init_102 : decode b_Unpacker_init 102 = .ok (.sipush 288, 3) := by decide +kernel
theorem d_Unpacker_init_105 : decode b_Unpacker_init 105 = .ok (.if_icmp .ge 16, 3) := by decide +kernel
theorem d_Unpacker_init_108 : decode b_Unpacker_init 108 = .ok (.aload_n 1, 1) := by decide +kernel
theorem d_Unpacker_init_109 : decode b_Unpacker_init 109 = .ok (.iload_n 2, 1) := by decide +kernel
theorem d_Unpacker_init_110 : decode b_Unpacker_init 110 = .ok (.iload_n 2, 1) := by decide +kernel
theorem d_Unpacker_init_111 : decode b_Unpacker_init 111 = .ok (.invokestatic 51, 3) := by decide +kernel
theorem d_Unpacker_init_114 : decode b_Unpacker_init 114 = .ok (.iastore, 1) := by decide +kernel
theorem d_Unpacker_init_115 : decode b_Unpacker_init 115 = .ok (.iinc 2 1, 3) := by decide +kernel
theorem d_Unpacker_init_118 : decode b_Unpacker_init 118 = .ok (.goto (-17), 3) := by decide +kernel
theorem d_Unpacker_init_121 : decode b_Unpacker_init 121 = .ok (.aload_n 0, 1) := by decide +kernel
theorem d_Unpacker_init_122 : decode b_Unpacker_init 122 = .ok (.getfield 12, 3) := by decide +kernel
theorem d_Unpacker_init_125 : decode b_Unpacker_init 125 = .ok (.aload_n 1, 1) := by decide +kernel
theorem d_Unpacker_init_126 : decode b_Unpacker_init 126 = .ok (.iconst 0, 1) := by decide +kernel
theorem d_Unpacker_init_127 : decode b_Unpacker_init 127 = .ok (.sipush 288, 3) := by decide +kernel
theorem d_Unpacker_init_130 : decode b_Unpacker_init 130 = .ok (.invokevirtual 55, 3) := by decide +kernel
theorem d_Unpacker_init_133 : decode b_Unpacker_init 133 = .ok (.aload_n 1, 1) := by decide +kernel
theorem d_Unpacker_init_134 : decode b_Unpacker_init 134 = .ok (.iconst 5, 1) := by decide +kernel
theorem d_Unpacker_init_135 : decode b_Unpacker_init 135 = .ok (.invokestatic 59, 3) := by decide +kernel
theorem d_Unpacker_init_138 : decode b_Unpacker_init 138 = .ok (.aload_n 0, 1) := by decide +kernel
theorem d_Unpacker_init_139 : decode b_Unpacker_init 139 = .ok (.getfield 18, 3) := by decide +kernel
theorem d_Unpacker_init_142 : decode b_Unpacker_init 142 = .ok (.aload_n 1, 1) := by decide +kernel
theorem d_Unpacker_init_143 : decode b_Unpacker_init 143 = .ok (.iconst 0, 1) := by decide +kernel
theorem d_Unpacker_init_144 : decode b_Unpacker_init 144 = .ok (.bipush 32, 2) := by decide +kernel
theorem d_Unpacker_init_146 : decode b_Unpacker_init 146 = .ok (.invokevirtual 55, 3) := by decide +kernel
theorem d_Unpacker_init_149 : decode b_Unpacker_init 149 = .ok (.return_, 1) := by decide +kernel
theorem d_Bp_init_0 : decode b_Bp_init 0 = .ok (.aload_n 0, 1) := by decide +kernel
theorem d_Bp_init_1 : decode b_Bp_init 1 = .ok (.invokespecial 3, 3) := by decide +kernel
theorem d_Bp_init_4 : decode b_Bp_init 4 = .ok (.aload_n 0, 1) := by decide +kernel
theorem d_Bp_init_5 : decode b_Bp_init 5 = .ok (.new 9, 3) := by decide +kernel
theorem d_Bp_init_8 : decode b_Bp_init 8 = .ok (.dup, 1) := by decide +kernel
theorem d_Bp_init_9 : decode b_Bp_init 9 = .ok (.invokespecial 11, 3) := by decide +kernel
theorem d_Bp_init_12 : decode b_Bp_init 12 = .ok (.putfield 12, 3) := by decide +kernel
theorem d_Bp_init_15 : decode b_Bp_init 15 = .ok (.aload_n 0, 1) := by decide +kernel
theorem d_Bp_init_16 : decode b_Bp_init 16 = .ok (.new 9, 3) := by decide +kernel
theorem d_Bp_init_19 : decode b_Bp_init 19 = .ok (.dup, 1) := by decide +kernel
theorem d_Bp_init_20 : decode b_Bp_init 20 = .ok (.invokespecial 11, 3) := by decide +kernel
theorem d_Bp_init_23 : decode b_Bp_init 23 = .ok (.putfield 16, 3) := by decide +kernel
theorem d_Bp_init_26 : decode b_Bp_init 26 = .ok (.aload_n 0, 1) := by decide +kernel
theorem d_Bp_init_27 : decode b_Bp_init 27 = .ok (.new 19, 3) := by decide +kernel
theorem d_Bp_init_30 : decode b_Bp_init 30 = .ok (.dup, 1) := by decide +kernel
theorem d_Bp_init_31 : decode b_Bp_init 31 = .ok (.invokespecial 21, 3) := by decide +kernel
theorem d_Bp_init_34 : decode b_Bp_init 34 = .ok (.putfield 22, 3) := by decide +kernel
theorem d_Bp_init_37 : decode b_Bp_init 37 = .ok (.aload_n 0, 1) := by decide +kernel
theorem d_Bp_init_38 : decode b_Bp_init 38 = .ok (.new 26, 3) := by decide +kernel
theorem d_Bp_init_41 : decode b_Bp_init 41 = .ok (.dup, 1) := by decide +kernel
theorem d_Bp_init_42 : decode b_Bp_init 42 = .ok (.invokespecial 28, 3) := by decide +kernel
theorem d_Bp_init_45 : decode b_Bp_init 45 = .ok (.putfield 29, 3) := by decide +kernel
theorem d_Bp_init_48 : decode b_Bp_init 48 = .ok (.return_, 1) := by decide +kernel
theorem d_Row_add_0 : decode b_Row_add 0 = .ok (.aload_n 0, 1) := by decide +kernel
theorem d_Row_add_1 : decode b_Row_add 1 = .ok (.getfield 15, 3) := by decide +kernel
theorem d_Row_add_4 : decode b_Row_add 4 = .ok (.iload_n 2, 1) := by decide +kernel
theorem d_Row_add_5 : decode b_Row_add 5 = .ok (.if_icmp .ge 13, 3) := by decide +kernel
theorem d_Row_add_8 : decode b_Row_add 8 = .ok (.aload_n 0, 1) := by decide +kernel
theorem d_Row_add_9 : decode b_Row_add 9 = .ok (.getfield 15, 3) := by decide +kernel
theorem d_Row_add_12 : decode b_Row_add 12 = .ok (.sipush 9000, 3) := by decide +kernel
theorem d_Row_add_15 : decode b_Row_add 15 = .ok (.if_icmp .lt 5, 3) := by decide +kernel
theorem d_Row_add_18 : decode b_Row_add 18 = .ok (.iconst 0, 1) := by decide +kernel
theorem d_Row_add_19 : decode b_Row_add 19 = .ok (.ireturn, 1) := by decide +kernel
theorem d_Row_add_20 : decode b_Row_add 20 = .ok (.aload_n 0, 1) := by decide +kernel
theorem d_Row_add_21 : decode b_Row_add 21 = .ok (.getfield 9, 3) := by decide +kernel
theorem d_Row_add_24 : decode b_Row_add 24 = .ok (.aload_n 0, 1) := by decide +kernel
theorem d_Row_add_25 : decode b_Row_add 25 = .ok (.getfield 15, 3) := by decide +kernel
theorem d_Row_add_28 : decode b_Row_add 28 = .ok (.iload_n 1, 1) := by decide +kernel
theorem d_Row_add_29 : decode b_Row_add 29 = .ok (.i2b, 1) := by decide +kernel
theorem d_Row_add_30 : decode b_Row_add 30 = .ok (.bastore, 1) := by decide +kernel
theorem d_Row_add_31 : decode b_Row_add 31 = .ok (.aload_n 0, 1) := by decide +kernel
theorem d_Row_add_32 : decode b_Row_add 32 = .ok (.dup, 1) := by decide +kernel
theorem d_Row_add_33 : decode b_Row_add 33 = .ok (.getfield 15, 3) := by decide +kernel
theorem d_Row_add_36 : decode b_Row_add 36 = .ok (.iconst 1, 1) := by decide +kernel
theorem d_Row_add_37 : decode b_Row_add 37 = .ok (.iadd, 1) := by decide +kernel
theorem d_Row_add_38 : decode b_Row_add 38 = .ok (.putfield 15, 3) := by decide +kernel
theorem d_Row_add_41 : decode b_Row_add 41 = .ok (.iconst 1, 1) := by decide +kernel
theorem d_Row_add_42 : decode b_Row_add 42 = .ok (.ireturn, 1) := by decide +kernel
theorem d_Bp_feed_0 : decode b_Bp_feed 0 = .ok (.iload_n 3, 1) := by decide +kernel
theorem d_Bp_feed_1 : decode b_Bp_feed 1 = .ok (.iconst 1, 1) := by decide +kernel
theorem d_Bp_feed_2 : decode b_Bp_feed 2 = .ok (.if_icmp .lt 9, 3) := by decide +kernel
theorem d_Bp_feed_5 : decode b_Bp_feed 5 = .ok (.iload_n 3, 1) := by decide +kernel
theorem d_Bp_feed_6 : decode b_Bp_feed 6 = .ok (.bipush 8, 2) := by decide +kernel
theorem d_Bp_feed_8 : decode b_Bp_feed 8 = .ok (.if_icmp .le 6, 3) := by decide +kernel
theorem d_Bp_feed_11 : decode b_Bp_feed 11 = .ok (.bipush (-2), 2) := by decide +kernel
theorem d_Bp_feed_13 : decode b_Bp_feed 13 = .ok (.ireturn, 1) := by decide +kernel
theorem d_Bp_feed_14 : decode b_Bp_feed 14 = .ok (.iload_n 3, 1) := by decide +kernel
theorem d_Bp_feed_15 : decode b_Bp_feed 15 = .ok (.sipush 8192, 3) := by decide +kernel
theorem d_Bp_feed_18 : decode b_Bp_feed 18 = .ok (.aload_n 0, 1) := by decide +kernel
theorem d_Bp_feed_19 : decode b_Bp_feed 19 = .ok (.getfield 12, 3) := by decide +kernel
theorem d_Bp_feed_22 : decode b_Bp_feed 22 = .ok (.getfield 33, 3) := by decide +kernel
theorem d_Bp_feed_25 : decode b_Bp_feed 25 = .ok (.isub, 1) := by decide +kernel
theorem d_Bp_feed_26 : decode b_Bp_feed 26 = .ok (.if_icmp .le 6, 3) := by decide +kernel
theorem d_Bp_feed_29 : decode b_Bp_feed 29 = .ok (.bipush (-3), 2) := by decide +kernel
theorem d_Bp_feed_31 : decode b_Bp_feed 31 = .ok (.ireturn, 1) := by decide +kernel
theorem d_Bp_feed_32 : decode b_Bp_feed 32 = .ok (.iconst 0, 1) := by decide +kernel
theorem d_Bp_feed_33 : decode b_Bp_feed 33 = .ok (.istore 4, 2) := by decide +kernel
theorem d_Bp_feed_35 : decode b_Bp_feed 35 = .ok (.iload 4, 2) := by decide +kernel
theorem d_Bp_feed_37 : decode b_Bp_feed 37 = .ok (.iload_n 3, 1) := by decide +kernel
theorem d_Bp_feed_38 : decode b_Bp_feed 38 = .ok (.if_icmp .ge 28, 3) := by decide +kernel
theorem d_Bp_feed_41 : decode b_Bp_feed 41 = .ok (.aload_n 0, 1) := by decide +kernel
theorem d_Bp_feed_42 : decode b_Bp_feed 42 = .ok (.getfield 12, 3) := by decide +kernel
theorem d_Bp_feed_45 : decode b_Bp_feed 45 = .ok (.lload_n 1, 1) := by decide +kernel
theorem d_Bp_feed_46 : decode b_Bp_feed 46 = .ok (.bipush 8, 2) := by decide +kernel
theorem d_Bp_feed_48 : decode b_Bp_feed 48 = .ok (.iload 4, 2) := by decide +kernel
theorem d_Bp_feed_50 : decode b_Bp_feed 50 = .ok (.imul, 1) := by decide +kernel
theorem d_Bp_feed_51 : decode b_Bp_feed 51 = .ok (.lushr, 1) := by decide +kernel
theorem d_Bp_feed_52 : decode b_Bp_feed 52 = .ok (.l2i, 1) := by decide +kernel
theorem d_Bp_feed_53 : decode b_Bp_feed 53 = .ok (.sipush 8192, 3) := by decide +kernel
theorem d_Bp_feed_56 : decode b_Bp_feed 56 = .ok (.invokevirtual 37, 3) := by decide +kernel
theorem d_Bp_feed_59 : decode b_Bp_feed 59 = .ok (.pop, 1) := by decide +kernel
theorem d_Bp_feed_60 : decode b_Bp_feed 60 = .ok (.iinc 4 1, 3) := by decide +kernel
theorem d_Bp_feed_63 : decode b_Bp_feed 63 = .ok (.goto (-28), 3) := by decide +kernel
theorem d_Bp_feed_66 : decode b_Bp_feed 66 = .ok (.aload_n 0, 1) := by decide +kernel
theorem d_Bp_feed_67 : decode b_Bp_feed 67 = .ok (.getfield 12, 3) := by decide +kernel
theorem d_Bp_feed_70 : decode b_Bp_feed 70 = .ok (.getfield 33, 3) := by decide +kernel
theorem d_Bp_feed_73 : decode b_Bp_feed 73 = .ok (.ireturn, 1) := by decide +kernel
theorem d_Row_has_0 : decode b_Row_has 0 = .ok (.iload_n 1, 1) := by decide +kernel
theorem d_Row_has_1 : decode b_Row_has 1 = .ok (.ifCond .lt 15, 3) := by decide +kernel
theorem d_Row_has_4 : decode b_Row_has 4 = .ok (.iload_n 1, 1) := by decide +kernel
theorem d_Row_has_5 : decode b_Row_has 5 = .ok (.aload_n 0, 1) := by decide +kernel
theorem d_Row_has_6 : decode b_Row_has 6 = .ok (.getfield 15, 3) := by decide +kernel
theorem d_Row_has_9 : decode b_Row_has 9 = .ok (.if_icmp .ge 7, 3) := by decide +kernel
theorem d_Row_has_12 : decode b_Row_has 12 = .ok (.iconst 1, 1) := by decide +kernel
theorem d_Row_has_13 : decode b_Row_has 13 = .ok (.goto 4, 3) := by decide +kernel
theorem d_Row_has_16 : decode b_Row_has 16 = .ok (.iconst 0, 1) := by decide +kernel
theorem d_Row_has_17 : decode b_Row_has 17 = .ok (.ireturn, 1) := by decide +kernel
theorem d_Row_byteAt_0 : decode b_Row_byteAt 0 = .ok (.iload_n 1, 1) := by decide +kernel
theorem d_Row_byteAt_1 : decode b_Row_byteAt 1 = .ok (.ifCond .lt 24, 3) := by decide +kernel
theorem d_Row_byteAt_4 : decode b_Row_byteAt 4 = .ok (.iload_n 1, 1) := by decide +kernel
theorem d_Row_byteAt_5 : decode b_Row_byteAt 5 = .ok (.aload_n 0, 1) := by decide +kernel
theorem d_Row_byteAt_6 : decode b_Row_byteAt 6 = .ok (.getfield 15, 3) := by decide +kernel
theorem d_Row_byteAt_9 : decode b_Row_byteAt 9 = .ok (.if_icmp .ge 16, 3) := by decide +kernel
theorem d_Row_byteAt_12 : decode b_Row_byteAt 12 = .ok (.aload_n 0, 1) := by decide +kernel
theorem d_Row_byteAt_13 : decode b_Row_byteAt 13 = .ok (.getfield 9, 3) := by decide +kernel
theorem d_Row_byteAt_16 : decode b_Row_byteAt 16 = .ok (.iload_n 1, 1) := by decide +kernel
theorem d_Row_byteAt_17 : decode b_Row_byteAt 17 = .ok (.baload, 1) := by decide +kernel
theorem d_Row_byteAt_18 : decode b_Row_byteAt 18 = .ok (.sipush 255, 3) := by decide +kernel
theorem d_Row_byteAt_21 : decode b_Row_byteAt 21 = .ok (.iand, 1) := by decide +kernel
theorem d_Row_byteAt_22 : decode b_Row_byteAt 22 = .ok (.goto 4, 3) := by decide +kernel
theorem d_Row_byteAt_25 : decode b_Row_byteAt 25 = .ok (.iconst (-1), 1) := by decide +kernel
theorem d_Row_byteAt_26 : decode b_Row_byteAt 26 = .ok (.ireturn, 1) := by decide +kernel
theorem d_Bp_filling_0 : decode b_Bp_filling 0 = .ok (.iload_n 1, 1) := by decide +kernel
theorem d_Bp_filling_1 : decode b_Bp_filling 1 = .ok (.tableswitch 44 0 2 #[27, 29, 34], 27) := by decide +kernel
theorem d_Bp_filling_28 : decode b_Bp_filling 28 = .ok (.iload_n 2, 1) := by decide +kernel
theorem d_Bp_filling_29 : decode b_Bp_filling 29 = .ok (.ireturn, 1) := by decide +kernel
theorem d_Bp_filling_30 : decode b_Bp_filling 30 = .ok (.iload_n 3, 1) := by decide +kernel
theorem d_Bp_filling_31 : decode b_Bp_filling 31 = .ok (.bipush 16, 2) := by decide +kernel
theorem d_Bp_filling_33 : decode b_Bp_filling 33 = .ok (.iushr, 1) := by decide +kernel
theorem d_Bp_filling_34 : decode b_Bp_filling 34 = .ok (.ireturn, 1) := by decide +kernel
theorem d_Bp_filling_35 : decode b_Bp_filling 35 = .ok (.bipush 97, 2) := by decide +kernel
theorem d_Bp_filling_37 : decode b_Bp_filling 37 = .ok (.iload_n 3, 1) := by decide +kernel
theorem d_Bp_filling_38 : decode b_Bp_filling 38 = .ok (.bipush 16, 2) := by decide +kernel
theorem d_Bp_filling_40 : decode b_Bp_filling 40 = .ok (.iushr, 1) := by decide +kernel
theorem d_Bp_filling_41 : decode b_Bp_filling 41 = .ok (.iconst 3, 1) := by decide +kernel
theorem d_Bp_filling_42 : decode b_Bp_filling 42 = .ok (.iand, 1) := by decide +kernel
theorem d_Bp_filling_43 : decode b_Bp_filling 43 = .ok (.iadd, 1) := by decide +kernel
theorem d_Bp_filling_44 : decode b_Bp_filling 44 = .ok (.ireturn, 1) := by decide +kernel
theorem d_Bp_filling_45 : decode b_Bp_filling 45 = .ok (.aload_n 0, 1) := by decide +kernel
theorem d_Bp_filling_46 : decode b_Bp_filling 46 = .ok (.getfield 12, 3) := by decide +kernel
theorem d_Bp_filling_49 : decode b_Bp_filling 49 = .ok (.iload_n 2, 1) := by decide +kernel
theorem d_Bp_filling_50 : decode b_Bp_filling 50 = .ok (.iload 4, 2) := by decide +kernel
theorem d_Bp_filling_52 : decode b_Bp_filling 52 = .ok (.iadd, 1) := by decide +kernel
theorem d_Bp_filling_53 : decode b_Bp_filling 53 = .ok (.invokevirtual 50, 3) := by decide +kernel
theorem d_Bp_filling_56 : decode b_Bp_filling 56 = .ok (.ireturn, 1) := by decide +kernel
theorem d_Bp_fill_0 : decode b_Bp_fill 0 = .ok (.iload_n 1, 1) := by decide +kernel
theorem d_Bp_fill_1 : decode b_Bp_fill 1 = .ok (.ifCond .lt 20, 3) := by decide +kernel
theorem d_Bp_fill_4 : decode b_Bp_fill 4 = .ok (.iload_n 1, 1) := by decide +kernel
theorem d_Bp_fill_5 : decode b_Bp_fill 5 = .ok (.iconst 3, 1) := by decide +kernel
theorem d_Bp_fill_6 : decode b_Bp_fill 6 = .ok (.if_icmp .gt 15, 3) := by decide +kernel
theorem d_Bp_fill_9 : decode b_Bp_fill 9 = .ok (.iload_n 3, 1) := by decide +kernel
theorem d_Bp_fill_10 : decode b_Bp_fill 10 = .ok (.iconst 1, 1) := by decide +kernel
theorem d_Bp_fill_11 : decode b_Bp_fill 11 = .ok (.if_icmp .lt 10, 3) := by decide +kernel
theorem d_Bp_fill_14 : decode b_Bp_fill 14 = .ok (.iload_n 3, 1) := by decide +kernel
theorem d_Bp_fill_15 : decode b_Bp_fill 15 = .ok (.sipush 8192, 3) := by decide +kernel
theorem d_Bp_fill_18 : decode b_Bp_fill 18 = .ok (.if_icmp .le 6, 3) := by decide +kernel
theorem d_Bp_fill_21 : decode b_Bp_fill 21 = .ok (.bipush (-2), 2) := by decide +kernel
theorem d_Bp_fill_23 : decode b_Bp_fill 23 = .ok (.ireturn, 1) := by decide +kernel
theorem d_Bp_fill_24 : decode b_Bp_fill 24 = .ok (.iload_n 1, 1) := by decide +kernel
theorem d_Bp_fill_25 : decode b_Bp_fill 25 = .ok (.iconst 3, 1) := by decide +kernel
theorem d_Bp_fill_26 : decode b_Bp_fill 26 = .ok (.if_icmp .ne 17, 3) := by decide +kernel
theorem d_Bp_fill_29 : decode b_Bp_fill 29 = .ok (.aload_n 0, 1) := by decide +kernel
theorem d_Bp_fill_30 : decode b_Bp_fill 30 = .ok (.getfield 12, 3) := by decide +kernel
theorem d_Bp_fill_33 : decode b_Bp_fill 33 = .ok (.iload_n 2, 1) := by decide +kernel
theorem d_Bp_fill_34 : decode b_Bp_fill 34 = .ok (.invokevirtual 41, 3) := by decide +kernel
theorem d_Bp_fill_37 : decode b_Bp_fill 37 = .ok (.ifCond .ne 6, 3) := by decide +kernel
theorem d_Bp_fill_40 : decode b_Bp_fill 40 = .ok (.bipush (-2), 2) := by decide +kernel
theorem d_Bp_fill_42 : decode b_Bp_fill 42 = .ok (.ireturn, 1) := by decide +kernel
theorem d_Bp_fill_43 : decode b_Bp_fill 43 = .ok (.iload_n 3, 1) := by decide +kernel
theorem d_Bp_fill_44 : decode b_Bp_fill 44 = .ok (.sipush 8192, 3) := by decide +kernel
theorem d_Bp_fill_47 : decode b_Bp_fill 47 = .ok (.aload_n 0, 1) := by decide +kernel
theorem d_Bp_fill_48 : decode b_Bp_fill 48 = .ok (.getfield 12, 3) := by decide +kernel
theorem d_Bp_fill_51 : decode b_Bp_fill 51 = .ok (.getfield 33, 3) := by decide +kernel
theorem d_Bp_fill_54 : decode b_Bp_fill 54 = .ok (.isub, 1) := by decide +kernel
theorem d_Bp_fill_55 : decode b_Bp_fill 55 = .ok (.if_icmp .le 6, 3) := by decide +kernel
theorem d_Bp_fill_58 : decode b_Bp_fill 58 = .ok (.bipush (-3), 2) := by decide +kernel
theorem d_Bp_fill_60 : decode b_Bp_fill 60 = .ok (.ireturn, 1) := by decide +kernel
theorem d_Bp_fill_61 : decode b_Bp_fill 61 = .ok (.iload_n 2, 1) := by decide +kernel
theorem d_Bp_fill_62 : decode b_Bp_fill 62 = .ok (.istore 4, 2) := by decide +kernel
theorem d_Bp_fill_64 : decode b_Bp_fill 64 = .ok (.iconst 0, 1) := by decide +kernel
theorem d_Bp_fill_65 : decode b_Bp_fill 65 = .ok (.istore 5, 2) := by decide +kernel
theorem d_Bp_fill_67 : decode b_Bp_fill 67 = .ok (.iload 5, 2) := by decide +kernel
theorem d_Bp_fill_69 : decode b_Bp_fill 69 = .ok (.iload_n 3, 1) := by decide +kernel
theorem d_Bp_fill_70 : decode b_Bp_fill 70 = .ok (.if_icmp .ge 41, 3) := by decide +kernel
theorem d_Bp_fill_73 : decode b_Bp_fill 73 = .ok (.ldc 45, 2) := by decide +kernel
theorem d_Bp_fill_75 : decode b_Bp_fill 75 = .ok (.iload 4, 2) := by decide +kernel
theorem d_Bp_fill_77 : decode b_Bp_fill 77 = .ok (.imul, 1) := by decide +kernel
theorem d_Bp_fill_78 : decode b_Bp_fill 78 = .ok (.sipush 12345, 3) := by decide +kernel
theorem d_Bp_fill_81 : decode b_Bp_fill 81 = .ok (.iadd, 1) := by decide +kernel
theorem d_Bp_fill_82 : decode b_Bp_fill 82 = .ok (.istore 4, 2) := by decide +kernel
theorem d_Bp_fill_84 : decode b_Bp_fill 84 = .ok (.aload_n 0, 1) := by decide +kernel
theorem d_Bp_fill_85 : decode b_Bp_fill 85 = .ok (.getfield 12, 3) := by decide +kernel
theorem d_Bp_fill_88 : decode b_Bp_fill 88 = .ok (.aload_n 0, 1) := by decide +kernel
theorem d_Bp_fill_89 : decode b_Bp_fill 89 = .ok (.iload_n 1, 1) := by decide +kernel
theorem d_Bp_fill_90 : decode b_Bp_fill 90 = .ok (.iload_n 2, 1) := by decide +kernel
theorem d_Bp_fill_91 : decode b_Bp_fill 91 = .ok (.iload 4, 2) := by decide +kernel
theorem d_Bp_fill_93 : decode b_Bp_fill 93 = .ok (.iload 5, 2) := by decide +kernel
theorem d_Bp_fill_95 : decode b_Bp_fill 95 = .ok (.invokevirtual 46, 3) := by decide +kernel
theorem d_Bp_fill_98 : decode b_Bp_fill 98 = .ok (.sipush 8192, 3) := by decide +kernel
theorem d_Bp_fill_101 : decode b_Bp_fill 101 = .ok (.invokevirtual 37, 3) := by decide +kernel
theorem d_Bp_fill_104 : decode b_Bp_fill 104 = .ok (.pop, 1) := by decide +kernel
theorem d_Bp_fill_105 : decode b_Bp_fill 105 = .ok (.iinc 5 1, 3) := by decide +kernel
theorem d_Bp_fill_108 : decode b_Bp_fill 108 = .ok (.goto (-41), 3) := by decide +kernel
theorem d_Bp_fill_111 : decode b_Bp_fill 111 = .ok (.aload_n 0, 1) := by decide +kernel
theorem d_Bp_fill_112 : decode b_Bp_fill 112 = .ok (.getfield 12, 3) := by decide +kernel
theorem d_Bp_fill_115 : decode b_Bp_fill 115 = .ok (.getfield 33, 3) := by decide +kernel
theorem d_Bp_fill_118 : decode b_Bp_fill 118 = .ok (.ireturn, 1) := by decide +kernel
theorem d_Bp_set_0 : decode b_Bp_set 0 = .ok (.aload_n 0, 1) := by decide +kernel
theorem d_Bp_set_1 : decode b_Bp_set 1 = .ok (.getfield 12, 3) := by decide +kernel
theorem d_Bp_set_4 : decode b_Bp_set 4 = .ok (.iload_n 1, 1) := by decide +kernel
theorem d_Bp_set_5 : decode b_Bp_set 5 = .ok (.invokevirtual 50, 3) := by decide +kernel
theorem d_Bp_set_8 : decode b_Bp_set 8 = .ok (.istore_n 3, 1) := by decide +kernel
theorem d_Bp_set_9 : decode b_Bp_set 9 = .ok (.aload_n 0, 1) := by decide +kernel
theorem d_Bp_set_10 : decode b_Bp_set 10 = .ok (.getfield 12, 3) := by decide +kernel
theorem d_Bp_set_13 : decode b_Bp_set 13 = .ok (.iload_n 1, 1) := by decide +kernel
theorem d_Bp_set_14 : decode b_Bp_set 14 = .ok (.invokevirtual 41, 3) := by decide +kernel
theorem d_Bp_set_17 : decode b_Bp_set 17 = .ok (.ifCond .eq 14, 3) := by decide +kernel
theorem d_Bp_set_20 : decode b_Bp_set 20 = .ok (.aload_n 0, 1) := by decide +kernel
theorem d_Bp_set_21 : decode b_Bp_set 21 = .ok (.getfield 12, 3) := by decide +kernel
theorem d_Bp_set_24 : decode b_Bp_set 24 = .ok (.getfield 54, 3) := by decide +kernel
theorem d_Bp_set_27 : decode b_Bp_set 27 = .ok (.iload_n 1, 1) := by decide +kernel
theorem d_Bp_set_28 : decode b_Bp_set 28 = .ok (.iload_n 2, 1) := by decide +kernel
theorem d_Bp_set_29 : decode b_Bp_set 29 = .ok (.i2b, 1) := by decide +kernel
theorem d_Bp_set_30 : decode b_Bp_set 30 = .ok (.bastore, 1) := by decide +kernel
theorem d_Bp_set_31 : decode b_Bp_set 31 = .ok (.iload_n 3, 1) := by decide +kernel
theorem d_Bp_set_32 : decode b_Bp_set 32 = .ok (.ireturn, 1) := by decide +kernel
theorem d_Bp_cut_0 : decode b_Bp_cut 0 = .ok (.iload_n 1, 1) := by decide +kernel
theorem d_Bp_cut_1 : decode b_Bp_cut 1 = .ok (.ifCond .lt 14, 3) := by decide +kernel
theorem d_Bp_cut_4 : decode b_Bp_cut 4 = .ok (.iload_n 1, 1) := by decide +kernel
theorem d_Bp_cut_5 : decode b_Bp_cut 5 = .ok (.aload_n 0, 1) := by decide +kernel
theorem d_Bp_cut_6 : decode b_Bp_cut 6 = .ok (.getfield 12, 3) := by decide +kernel
theorem d_Bp_cut_9 : decode b_Bp_cut 9 = .ok (.getfield 33, 3) := by decide +kernel
theorem d_Bp_cut_12 : decode b_Bp_cut 12 = .ok (.if_icmp .le 6, 3) := by decide +kernel
theorem d_Bp_cut_15 : decode b_Bp_cut 15 = .ok (.bipush (-2), 2) := by decide +kernel
theorem d_Bp_cut_17 : decode b_Bp_cut 17 = .ok (.ireturn, 1) := by decide +kernel
theorem d_Bp_cut_18 : decode b_Bp_cut 18 = .ok (.aload_n 0, 1) := by decide +kernel
theorem d_Bp_cut_19 : decode b_Bp_cut 19 = .ok (.getfield 12, 3) := by decide +kernel
theorem d_Bp_cut_22 : decode b_Bp_cut 22 = .ok (.getfield 33, 3) := by decide +kernel
theorem d_Bp_cut_25 : decode b_Bp_cut 25 = .ok (.iload_n 1, 1) := by decide +kernel
theorem d_Bp_cut_26 : decode b_Bp_cut 26 = .ok (.isub, 1) := by decide +kernel
theorem d_Bp_cut_27 : decode b_Bp_cut 27 = .ok (.istore_n 2, 1) := by decide +kernel
theorem d_Bp_cut_28 : decode b_Bp_cut 28 = .ok (.aload_n 0, 1) := by decide +kernel
theorem d_Bp_cut_29 : decode b_Bp_cut 29 = .ok (.getfield 12, 3) := by decide +kernel
theorem d_Bp_cut_32 : decode b_Bp_cut 32 = .ok (.iload_n 1, 1) := by decide +kernel
theorem d_Bp_cut_33 : decode b_Bp_cut 33 = .ok (.putfield 33, 3) := by decide +kernel
theorem d_Bp_cut_36 : decode b_Bp_cut 36 = .ok (.iload_n 2, 1) := by decide +kernel
theorem d_Bp_cut_37 : decode b_Bp_cut 37 = .ok (.ireturn, 1) := by decide +kernel
theorem d_Bp_take_0 : decode b_Bp_take 0 = .ok (.aload_n 0, 1) := by decide +kernel
theorem d_Bp_take_1 : decode b_Bp_take 1 = .ok (.getfield 12, 3) := by decide +kernel
theorem d_Bp_take_4 : decode b_Bp_take 4 = .ok (.aload_n 0, 1) := by decide +kernel
theorem d_Bp_take_5 : decode b_Bp_take 5 = .ok (.getfield 16, 3) := by decide +kernel
theorem d_Bp_take_8 : decode b_Bp_take 8 = .ok (.getfield 33, 3) := by decide +kernel
theorem d_Bp_take_11 : decode b_Bp_take 11 = .ok (.sipush 8192, 3) := by decide +kernel
theorem d_Bp_take_14 : decode b_Bp_take 14 = .ok (.invokestatic 58, 3) := by decide +kernel
theorem d_Bp_take_17 : decode b_Bp_take 17 = .ok (.putfield 33, 3) := by decide +kernel
theorem d_Bp_take_20 : decode b_Bp_take 20 = .ok (.aload_n 0, 1) := by decide +kernel
theorem d_Bp_take_21 : decode b_Bp_take 21 = .ok (.getfield 16, 3) := by decide +kernel
theorem d_Bp_take_24 : decode b_Bp_take 24 = .ok (.getfield 54, 3) := by decide +kernel
theorem d_Bp_take_27 : decode b_Bp_take 27 = .ok (.iconst 0, 1) := by decide +kernel
theorem d_Bp_take_28 : decode b_Bp_take 28 = .ok (.aload_n 0, 1) := by decide +kernel
theorem d_Bp_take_29 : decode b_Bp_take 29 = .ok (.getfield 12, 3) := by decide +kernel
theorem d_Bp_take_32 : decode b_Bp_take 32 = .ok (.getfield 54, 3) := by decide +kernel
theorem d_Bp_take_35 : decode b_Bp_take 35 = .ok (.iconst 0, 1) := by decide +kernel
theorem d_Bp_take_36 : decode b_Bp_take 36 = .ok (.aload_n 0, 1) := by decide +kernel
theorem d_Bp_take_37 : decode b_Bp_take 37 = .ok (.getfield 12, 3) := by decide +kernel
theorem d_Bp_take_40 : decode b_Bp_take 40 = .ok (.getfield 33, 3) := by decide +kernel
theorem d_Bp_take_43 : decode b_Bp_take 43 = .ok (.invokestatic 64, 3) := by decide +kernel
theorem d_Bp_take_46 : decode b_Bp_take 46 = .ok (.aload_n 0, 1) := by decide +kernel
theorem d_Bp_take_47 : decode b_Bp_take 47 = .ok (.getfield 12, 3) := by decide +kernel
theorem d_Bp_take_50 : decode b_Bp_take 50 = .ok (.getfield 33, 3) := by decide +kernel
theorem d_Bp_take_53 : decode b_Bp_take 53 = .ok (.ireturn, 1) := by decide +kernel
theorem d_Bp_size_0 : decode b_Bp_size 0 = .ok (.iload_n 1, 1) := by decide +kernel
theorem d_Bp_size_1 : decode b_Bp_size 1 = .ok (.ifCond .ne 11, 3) := by decide +kernel
theorem d_Bp_size_4 : decode b_Bp_size 4 = .ok (.aload_n 0, 1) := by decide +kernel
theorem d_Bp_size_5 : decode b_Bp_size 5 = .ok (.getfield 12, 3) := by decide +kernel
theorem d_Bp_size_8 : decode b_Bp_size 8 = .ok (.getfield 33, 3) := by decide +kernel
theorem d_Bp_size_11 : decode b_Bp_size 11 = .ok (.ireturn, 1) := by decide +kernel
theorem d_Bp_size_12 : decode b_Bp_size 12 = .ok (.iload_n 1, 1) := by decide +kernel
theorem d_Bp_size_13 : decode b_Bp_size 13 = .ok (.iconst 1, 1) := by decide +kernel
theorem d_Bp_size_14 : decode b_Bp_size 14 = .ok (.if_icmp .ne 13, 3) := by decide +kernel
theorem d_Bp_size_17 : decode b_Bp_size 17 = .ok (.aload_n 0, 1) := by decide +kernel
theorem d_Bp_size_18 : decode b_Bp_size 18 = .ok (.getfield 16, 3) := by decide +kernel
theorem d_Bp_size_21 : decode b_Bp_size 21 = .ok (.getfield 33, 3) := by decide +kernel
theorem d_Bp_size_24 : decode b_Bp_size 24 = .ok (.goto 5, 3) := by decide +kernel
theorem d_Bp_size_27 : decode b_Bp_size 27 = .ok (.bipush (-2), 2) := by decide +kernel
theorem d_Bp_size_29 : decode b_Bp_size 29 = .ok (.ireturn, 1) := by decide +kernel
theorem d_Bp_at_0 : decode b_Bp_at 0 = .ok (.iload_n 1, 1) := by decide +kernel
theorem d_Bp_at_1 : decode b_Bp_at 1 = .ok (.ifCond .ne 12, 3) := by decide +kernel
theorem d_Bp_at_4 : decode b_Bp_at 4 = .ok (.aload_n 0, 1) := by decide +kernel
theorem d_Bp_at_5 : decode b_Bp_at 5 = .ok (.getfield 12, 3) := by decide +kernel
theorem d_Bp_at_8 : decode b_Bp_at 8 = .ok (.iload_n 2, 1) := by decide +kernel
theorem d_Bp_at_9 : decode b_Bp_at 9 = .ok (.invokevirtual 50, 3) := by decide +kernel
theorem d_Bp_at_12 : decode b_Bp_at 12 = .ok (.ireturn, 1) := by decide +kernel
theorem d_Bp_at_13 : decode b_Bp_at 13 = .ok (.iload_n 1, 1) := by decide +kernel
theorem d_Bp_at_14 : decode b_Bp_at 14 = .ok (.iconst 1, 1) := by decide +kernel
theorem d_Bp_at_15 : decode b_Bp_at 15 = .ok (.if_icmp .ne 14, 3) := by decide +kernel
theorem d_Bp_at_18 : decode b_Bp_at 18 = .ok (.aload_n 0, 1) := by decide +kernel
theorem d_Bp_at_19 : decode b_Bp_at 19 = .ok (.getfield 16, 3) := by decide +kernel
theorem d_Bp_at_22 : decode b_Bp_at 22 = .ok (.iload_n 2, 1) := by decide +kernel
theorem d_Bp_at_23 : decode b_Bp_at 23 = .ok (.invokevirtual 50, 3) := by decide +kernel
theorem d_Bp_at_26 : decode b_Bp_at 26 = .ok (.goto 4, 3) := by decide +kernel
theorem d_Bp_at_29 : decode b_Bp_at 29 = .ok (.iconst (-1), 1) := by decide +kernel
theorem d_Bp_at_30 : decode b_Bp_at 30 = .ok (.ireturn, 1) := by decide +kernel
theorem d_Row_clear_0 : decode b_Row_clear 0 = .ok (.aload_n 0, 1) := by decide +kernel
theorem d_Row_clear_1 : decode b_Row_clear 1 = .ok (.iconst 0, 1) := by decide +kernel
theorem d_Row_clear_2 : decode b_Row_clear 2 = .ok (.putfield 15, 3) := by decide +kernel
theorem d_Row_clear_5 : decode b_Row_clear 5 = .ok (.aload_n 0, 1) := by decide +kernel
theorem d_Row_clear_6 : decode b_Row_clear 6 = .ok (.iconst 0, 1) := by decide +kernel
theorem d_Row_clear_7 : decode b_Row_clear 7 = .ok (.putfield 19, 3) := by decide +kernel
theorem d_Row_clear_10 : decode b_Row_clear 10 = .ok (.return_, 1) := by decide +kernel
theorem d_Row_putNumber_0 : decode b_Row_putNumber 0 = .ok (.iconst 0, 1) := by decide +kernel
theorem d_Row_putNumber_1 : decode b_Row_putNumber 1 = .ok (.istore_n 3, 1) := by decide +kernel
theorem d_Row_putNumber_2 : decode b_Row_putNumber 2 = .ok (.iload_n 3, 1) := by decide +kernel
theorem d_Row_putNumber_3 : decode b_Row_putNumber 3 = .ok (.iload_n 2, 1) := by decide +kernel
theorem d_Row_putNumber_4 : decode b_Row_putNumber 4 = .ok (.if_icmp .ge 92, 3) := by decide +kernel
theorem d_Row_putNumber_7 : decode b_Row_putNumber 7 = .ok (.aload_n 0, 1) := by decide +kernel
theorem d_Row_putNumber_8 : decode b_Row_putNumber 8 = .ok (.getfield 19, 3) := by decide +kernel
theorem d_Row_putNumber_11 : decode b_Row_putNumber 11 = .ok (.iconst 3, 1) := by decide +kernel
theorem d_Row_putNumber_12 : decode b_Row_putNumber 12 = .ok (.ishr, 1) := by decide +kernel
theorem d_Row_putNumber_13 : decode b_Row_putNumber 13 = .ok (.istore 4, 2) := by decide +kernel
theorem d_Row_putNumber_15 : decode b_Row_putNumber 15 = .ok (.iload 4, 2) := by decide +kernel
theorem d_Row_putNumber_17 : decode b_Row_putNumber 17 = .ok (.ifCond .lt 11, 3) := by decide +kernel
theorem d_Row_putNumber_20 : decode b_Row_putNumber 20 = .ok (.iload 4, 2) := by decide +kernel
theorem d_Row_putNumber_22 : decode b_Row_putNumber 22 = .ok (.sipush 9000, 3) := by decide +kernel
theorem d_Row_putNumber_25 : decode b_Row_putNumber 25 = .ok (.if_icmp .lt 4, 3) := by decide +kernel
theorem d_Row_putNumber_28 : decode b_Row_putNumber 28 = .ok (.return_, 1) := by decide +kernel
theorem d_Row_putNumber_29 : decode b_Row_putNumber 29 = .ok (.aload_n 0, 1) := by decide +kernel
theorem d_Row_putNumber_30 : decode b_Row_putNumber 30 = .ok (.getfield 19, 3) := by decide +kernel
theorem d_Row_putNumber_33 : decode b_Row_putNumber 33 = .ok (.bipush 7, 2) := by decide +kernel
theorem d_Row_putNumber_35 : decode b_Row_putNumber 35 = .ok (.iand, 1) := by decide +kernel
theorem d_Row_putNumber_36 : decode b_Row_putNumber 36 = .ok (.ifCond .ne 19, 3) := by decide +kernel
theorem d_Row_putNumber_39 : decode b_Row_putNumber 39 = .ok (.aload_n 0, 1) := by decide +kernel
theorem d_Row_putNumber_40 : decode b_Row_putNumber 40 = .ok (.getfield 9, 3) := by decide +kernel
theorem d_Row_putNumber_43 : decode b_Row_putNumber 43 = .ok (.iload 4, 2) := by decide +kernel
theorem d_Row_putNumber_45 : decode b_Row_putNumber 45 = .ok (.iconst 0, 1) := by decide +kernel
theorem d_Row_putNumber_46 : decode b_Row_putNumber 46 = .ok (.bastore, 1) := by decide +kernel
theorem d_Row_putNumber_47 : decode b_Row_putNumber 47 = .ok (.aload_n 0, 1) := by decide +kernel
theorem d_Row_putNumber_48 : decode b_Row_putNumber 48 = .ok (.iload 4, 2) := by decide +kernel
theorem d_Row_putNumber_50 : decode b_Row_putNumber 50 = .ok (.iconst 1, 1) := by decide +kernel
theorem d_Row_putNumber_51 : decode b_Row_putNumber 51 = .ok (.iadd, 1) := by decide +kernel
theorem d_Row_putNumber_52 : decode b_Row_putNumber 52 = .ok (.putfield 15, 3) := by decide +kernel
theorem d_Row_putNumber_55 : decode b_Row_putNumber 55 = .ok (.aload_n 0, 1) := by decide +kernel
theorem d_Row_putNumber_56 : decode b_Row_putNumber 56 = .ok (.getfield 9, 3) := by decide +kernel
theorem d_Row_putNumber_59 : decode b_Row_putNumber 59 = .ok (.iload 4, 2) := by decide +kernel
theorem d_Row_putNumber_61 : decode b_Row_putNumber 61 = .ok (.dup2, 1) := by decide +kernel
theorem d_Row_putNumber_62 : decode b_Row_putNumber 62 = .ok (.baload, 1) := by decide +kernel
theorem d_Row_putNumber_63 : decode b_Row_putNumber 63 = .ok (.iload_n 1, 1) := by decide +kernel
theorem d_Row_putNumber_64 : decode b_Row_putNumber 64 = .ok (.iload_n 3, 1) := by decide +kernel
theorem d_Row_putNumber_65 : decode b_Row_putNumber 65 = .ok (.ishr, 1) := by decide +kernel
theorem d_Row_putNumber_66 : decode b_Row_putNumber 66 = .ok (.iconst 1, 1) := by decide +kernel
theorem d_Row_putNumber_67 : decode b_Row_putNumber 67 = .ok (.iand, 1) := by decide +kernel
theorem d_Row_putNumber_68 : decode b_Row_putNumber 68 = .ok (.aload_n 0, 1) := by decide +kernel
theorem d_Row_putNumber_69 : decode b_Row_putNumber 69 = .ok (.getfield 19, 3) := by decide +kernel
theorem d_Row_putNumber_72 : decode b_Row_putNumber 72 = .ok (.bipush 7, 2) := by decide +kernel
theorem d_Row_putNumber_74 : decode b_Row_putNumber 74 = .ok (.iand, 1) := by decide +kernel
theorem d_Row_putNumber_75 : decode b_Row_putNumber 75 = .ok (.ishl, 1) := by decide +kernel
theorem d_Row_putNumber_76 : decode b_Row_putNumber 76 = .ok (.i2b, 1) := by decide +kernel
theorem d_Row_putNumber_77 : decode b_Row_putNumber 77 = .ok (.ior, 1) := by decide +kernel
theorem d_Row_putNumber_78 : decode b_Row_putNumber 78 = .ok (.i2b, 1) := by decide +kernel
theorem d_Row_putNumber_79 : decode b_Row_putNumber 79 = .ok (.bastore, 1) := by decide +kernel
theorem d_Row_putNumber_80 : decode b_Row_putNumber 80 = .ok (.aload_n 0, 1) := by decide +kernel
theorem d_Row_putNumber_81 : decode b_Row_putNumber 81 = .ok (.dup, 1) := by decide +kernel
theorem d_Row_putNumber_82 : decode b_Row_putNumber 82 = .ok (.getfield 19, 3) := by decide +kernel
theorem d_Row_putNumber_85 : decode b_Row_putNumber 85 = .ok (.iconst 1, 1) := by decide +kernel
theorem d_Row_putNumber_86 : decode b_Row_putNumber 86 = .ok (.iadd, 1) := by decide +kernel
theorem d_Row_putNumber_87 : decode b_Row_putNumber 87 = .ok (.putfield 19, 3) := by decide +kernel
theorem d_Row_putNumber_90 : decode b_Row_putNumber 90 = .ok (.iinc 3 1, 3) := by decide +kernel
theorem d_Row_putNumber_93 : decode b_Row_putNumber 93 = .ok (.goto (-91), 3) := by decide +kernel
theorem d_Row_putNumber_96 : decode b_Row_putNumber 96 = .ok (.return_, 1) := by decide +kernel
theorem d_Matcher_sort_0 : decode b_Matcher_sort 0 = .ok (.aload_n 0, 1) := by decide +kernel
theorem d_Matcher_sort_1 : decode b_Matcher_sort 1 = .ok (.getfield 18, 3) := by decide +kernel
theorem d_Matcher_sort_4 : decode b_Matcher_sort 4 = .ok (.iconst 0, 1) := by decide +kernel
theorem d_Matcher_sort_5 : decode b_Matcher_sort 5 = .ok (.invokestatic 47, 3) := by decide +kernel
theorem d_Matcher_sort_8 : decode b_Matcher_sort 8 = .ok (.iconst 0, 1) := by decide +kernel
theorem d_Matcher_sort_9 : decode b_Matcher_sort 9 = .ok (.istore 6, 2) := by decide +kernel
theorem d_Matcher_sort_11 : decode b_Matcher_sort 11 = .ok (.iload 6, 2) := by decide +kernel
theorem d_Matcher_sort_13 : decode b_Matcher_sort 13 = .ok (.iload_n 2, 1) := by decide +kernel
theorem d_Matcher_sort_14 : decode b_Matcher_sort 14 = .ok (.if_icmp .ge 33, 3) := by decide +kernel
theorem d_Matcher_sort_17 : decode b_Matcher_sort 17 = .ok (.aload_n 0, 1) := by decide +kernel
theorem d_Matcher_sort_18 : decode b_Matcher_sort 18 = .ok (.getfield 18, 3) := by decide +kernel
theorem d_Matcher_sort_21 : decode b_Matcher_sort 21 = .ok (.aload_n 1, 1) := by decide +kernel
theorem d_Matcher_sort_22 : decode b_Matcher_sort 22 = .ok (.getfield 53, 3) := by decide +kernel
theorem d_Matcher_sort_25 : decode b_Matcher_sort 25 = .ok (.iload 6, 2) := by decide +kernel
theorem d_Matcher_sort_27 : decode b_Matcher_sort 27 = .ok (.iload_n 3, 1) := by decide +kernel
theorem d_Matcher_sort_28 : decode b_Matcher_sort 28 = .ok (.iadd, 1) := by decide +kernel
theorem d_Matcher_sort_29 : decode b_Matcher_sort 29 = .ok (.baload, 1) := by decide +kernel
theorem d_Matcher_sort_30 : decode b_Matcher_sort 30 = .ok (.sipush 255, 3) := by decide +kernel
theorem d_Matcher_sort_33 : decode b_Matcher_sort 33 = .ok (.iand, 1) := by decide +kernel
theorem d_Matcher_sort_34 : decode b_Matcher_sort 34 = .ok (.iconst 1, 1) := by decide +kernel
theorem d_Matcher_sort_35 : decode b_Matcher_sort 35 = .ok (.iadd, 1) := by decide +kernel
theorem d_Matcher_sort_36 : decode b_Matcher_sort 36 = .ok (.dup2, 1) := by decide +kernel
theorem d_Matcher_sort_37 : decode b_Matcher_sort 37 = .ok (.iaload, 1) := by decide +kernel
theorem d_Matcher_sort_38 : decode b_Matcher_sort 38 = .ok (.iconst 1, 1) := by decide +kernel
theorem d_Matcher_sort_39 : decode b_Matcher_sort 39 = .ok (.iadd, 1) := by decide +kernel
theorem d_Matcher_sort_40 : decode b_Matcher_sort 40 = .ok (.iastore, 1) := by decide +kernel
theorem d_Matcher_sort_41 : decode b_Matcher_sort 41 = .ok (.iinc 6 1, 3) := by decide +kernel
theorem d_Matcher_sort_44 : decode b_Matcher_sort 44 = .ok (.goto (-33), 3) := by decide +kernel
theorem d_Matcher_sort_47 : decode b_Matcher_sort 47 = .ok (.iconst 0, 1) := by decide +kernel
theorem d_Matcher_sort_48 : decode b_Matcher_sort 48 = .ok (.istore 6, 2) := by decide +kernel
theorem d_Matcher_sort_50 : decode b_Matcher_sort 50 = .ok (.iload 6, 2) := by decide +kernel
theorem d_Matcher_sort_52 : decode b_Matcher_sort 52 = .ok (.sipush 256, 3) := by decide +kernel
theorem d_Matcher_sort_55 : decode b_Matcher_sort 55 = .ok (.if_icmp .ge 28, 3) := by decide +kernel
theorem d_Matcher_sort_58 : decode b_Matcher_sort 58 = .ok (.aload_n 0, 1) := by decide +kernel
theorem d_Matcher_sort_59 : decode b_Matcher_sort 59 = .ok (.getfield 18, 3) := by decide +kernel
theorem d_Matcher_sort_62 : decode b_Matcher_sort 62 = .ok (.iload 6, 2) := by decide +kernel
theorem d_Matcher_sort_64 : decode b_Matcher_sort 64 = .ok (.iconst 1, 1) := by decide +kernel
theorem d_Matcher_sort_65 : decode b_Matcher_sort 65 = .ok (.iadd, 1) := by decide +kernel
theorem d_Matcher_sort_66 : decode b_Matcher_sort 66 = .ok (.dup2, 1) := by decide +kernel
theorem d_Matcher_sort_67 : decode b_Matcher_sort 67 = .ok (.iaload, 1) := by decide +kernel
theorem d_Matcher_sort_68 : decode b_Matcher_sort 68 = .ok (.aload_n 0, 1) := by decide +kernel
theorem d_Matcher_sort_69 : decode b_Matcher_sort 69 = .ok (.getfield 18, 3) := by decide +kernel
theorem d_Matcher_sort_72 : decode b_Matcher_sort 72 = .ok (.iload 6, 2) := by decide +kernel
theorem d_Matcher_sort_74 : decode b_Matcher_sort 74 = .ok (.iaload, 1) := by decide +kernel
theorem d_Matcher_sort_75 : decode b_Matcher_sort 75 = .ok (.iadd, 1) := by decide +kernel
theorem d_Matcher_sort_76 : decode b_Matcher_sort 76 = .ok (.iastore, 1) := by decide +kernel
theorem d_Matcher_sort_77 : decode b_Matcher_sort 77 = .ok (.iinc 6 1, 3) := by decide +kernel
theorem d_Matcher_sort_80 : decode b_Matcher_sort 80 = .ok (.goto (-30), 3) := by decide +kernel
theorem d_Matcher_sort_83 : decode b_Matcher_sort 83 = .ok (.iconst 0, 1) := by decide +kernel
theorem d_Matcher_sort_84 : decode b_Matcher_sort 84 = .ok (.istore 6, 2) := by decide +kernel
theorem d_Matcher_sort_86 : decode b_Matcher_sort 86 = .ok (.iload 6, 2) := by decide +kernel
theorem d_Matcher_sort_88 : decode b_Matcher_sort 88 = .ok (.iload_n 2, 1) := by decide +kernel
theorem d_Matcher_sort_89 : decode b_Matcher_sort 89 = .ok (.if_icmp .ge 53, 3) := by decide +kernel
theorem d_Matcher_sort_92 : decode b_Matcher_sort 92 = .ok (.aload_n 1, 1) := by decide +kernel
theorem d_Matcher_sort_93 : decode b_Matcher_sort 93 = .ok (.getfield 53, 3) := by decide +kernel
theorem d_Matcher_sort_96 : decode b_Matcher_sort 96 = .ok (.aload 4, 2) := by decide +kernel
theorem d_Matcher_sort_98 : decode b_Matcher_sort 98 = .ok (.iload 6, 2) := by decide +kernel
theorem d_Matcher_sort_100 : decode b_Matcher_sort 100 = .ok (.iaload, 1) := by decide +kernel
theorem d_Matcher_sort_101 : decode b_Matcher_sort 101 = .ok (.iload_n 3, 1) := by decide +kernel
theorem d_Matcher_sort_102 : decode b_Matcher_sort 102 = .ok (.iadd, 1) := by decide +kernel
theorem d_Matcher_sort_103 : decode b_Matcher_sort 103 = .ok (.baload, 1) := by decide +kernel
theorem d_Matcher_sort_104 : decode b_Matcher_sort 104 = .ok (.sipush 255, 3) := by decide +kernel
theorem d_Matcher_sort_107 : decode b_Matcher_sort 107 = .ok (.iand, 1) := by decide +kernel
theorem d_Matcher_sort_108 : decode b_Matcher_sort 108 = .ok (.istore 7, 2) := by decide +kernel
theorem d_Matcher_sort_110 : decode b_Matcher_sort 110 = .ok (.aload 5, 2) := by decide +kernel
theorem d_Matcher_sort_112 : decode b_Matcher_sort 112 = .ok (.aload_n 0, 1) := by decide +kernel
theorem d_Matcher_sort_113 : decode b_Matcher_sort 113 = .ok (.getfield 18, 3) := by decide +kernel
theorem d_Matcher_sort_116 : decode b_Matcher_sort 116 = .ok (.iload 7, 2) := by decide +kernel
theorem d_Matcher_sort_118 : decode b_Matcher_sort 118 = .ok (.iaload, 1) := by decide +kernel
