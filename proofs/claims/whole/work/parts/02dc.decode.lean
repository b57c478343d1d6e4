theorem dX6_init_0 : decode cX6_init 0 = .ok (.aload_n 0, 1) := by decide +kernel
theorem dX6_init_1 : decode cX6_init 1 = .ok (.invokespecial 1, 3) := by decide +kernel
theorem dX6_init_4 : decode cX6_init 4 = .ok (.aload_n 0, 1) := by decide +kernel
theorem dX6_init_5 : decode cX6_init 5 = .ok (.bipush 16, 2) := by decide +kernel
theorem dX6_init_7 : decode cX6_init 7 = .ok (.newarray .int, 2) := by decide +kernel
theorem dX6_init_9 : decode cX6_init 9 = .ok (.putfield 7, 3) := by decide +kernel
theorem dX6_init_12 : decode cX6_init 12 = .ok (.aload_n 0, 1) := by decide +kernel
theorem dX6_init_13 : decode cX6_init 13 = .ok (.bipush 16, 2) := by decide +kernel
theorem dX6_init_15 : decode cX6_init 15 = .ok (.newarray .int, 2) := by decide +kernel
theorem dX6_init_17 : decode cX6_init 17 = .ok (.putfield 13, 3) := by decide +kernel
theorem dX6_init_20 : decode cX6_init 20 = .ok (.aload_n 0, 1) := by decide +kernel
theorem dX6_init_21 : decode cX6_init 21 = .ok (.bipush 48, 2) := by decide +kernel
theorem dX6_init_23 : decode cX6_init 23 = .ok (.newarray .int, 2) := by decide +kernel
theorem dX6_init_25 : decode cX6_init 25 = .ok (.putfield 16, 3) := by decide +kernel
theorem dX6_init_28 : decode cX6_init 28 = .ok (.aload_n 0, 1) := by decide +kernel
theorem dX6_init_29 : decode cX6_init 29 = .ok (.bipush 16, 2) := by decide +kernel
theorem dX6_init_31 : decode cX6_init 31 = .ok (.newarray .int, 2) := by decide +kernel
theorem dX6_init_33 : decode cX6_init 33 = .ok (.putfield 19, 3) := by decide +kernel
theorem dX6_init_36 : decode cX6_init 36 = .ok (.aload_n 0, 1) := by decide +kernel
theorem dX6_init_37 : decode cX6_init 37 = .ok (.bipush 16, 2) := by decide +kernel
theorem dX6_init_39 : decode cX6_init 39 = .ok (.newarray .boolean, 2) := by decide +kernel
theorem dX6_init_41 : decode cX6_init 41 = .ok (.putfield 22, 3) := by decide +kernel
theorem dX6_init_44 : decode cX6_init 44 = .ok (.aload_n 0, 1) := by decide +kernel
theorem dX6_init_45 : decode cX6_init 45 = .ok (.sipush 3840, 3) := by decide +kernel
theorem dX6_init_48 : decode cX6_init 48 = .ok (.newarray .long, 2) := by decide +kernel
theorem dX6_init_50 : decode cX6_init 50 = .ok (.putfield 26, 3) := by decide +kernel
theorem dX6_init_53 : decode cX6_init 53 = .ok (.aload_n 0, 1) := by decide +kernel
theorem dX6_init_54 : decode cX6_init 54 = .ok (.sipush 240, 3) := by decide +kernel
theorem dX6_init_57 : decode cX6_init 57 = .ok (.newarray .long, 2) := by decide +kernel
theorem dX6_init_59 : decode cX6_init 59 = .ok (.putfield 30, 3) := by decide +kernel
theorem dX6_init_62 : decode cX6_init 62 = .ok (.aload_n 0, 1) := by decide +kernel
theorem dX6_init_63 : decode cX6_init 63 = .ok (.bipush (-3), 2) := by decide +kernel
theorem dX6_init_65 : decode cX6_init 65 = .ok (.putfield 33, 3) := by decide +kernel
theorem dX6_init_68 : decode cX6_init 68 = .ok (.aload_n 0, 1) := by decide +kernel
theorem dX6_init_69 : decode cX6_init 69 = .ok (.iconst 3, 1) := by decide +kernel
theorem dX6_init_70 : decode cX6_init 70 = .ok (.newarray .int, 2) := by decide +kernel
theorem dX6_init_72 : decode cX6_init 72 = .ok (.putfield 37, 3) := by decide +kernel
theorem dX6_init_75 : decode cX6_init 75 = .ok (.return_, 1) := by decide +kernel
theorem dX6_in_0 : decode cX6_in 0 = .ok (.lload_n 0, 1) := by decide +kernel
theorem dX6_in_1 : decode cX6_in 1 = .ok (.lload_n 2, 1) := by decide +kernel
theorem dX6_in_2 : decode cX6_in 2 = .ok (.lcmp, 1) := by decide +kernel
theorem dX6_in_3 : decode cX6_in 3 = .ok (.ifCond .lt 14, 3) := by decide +kernel
theorem dX6_in_6 : decode cX6_in 6 = .ok (.lload_n 0, 1) := by decide +kernel
theorem dX6_in_7 : decode cX6_in 7 = .ok (.lload 4, 2) := by decide +kernel
theorem dX6_in_9 : decode cX6_in 9 = .ok (.lcmp, 1) := by decide +kernel
theorem dX6_in_10 : decode cX6_in 10 = .ok (.ifCond .gt 7, 3) := by decide +kernel
theorem dX6_in_13 : decode cX6_in 13 = .ok (.iconst 1, 1) := by decide +kernel
theorem dX6_in_14 : decode cX6_in 14 = .ok (.goto 4, 3) := by decide +kernel
theorem dX6_in_17 : decode cX6_in 17 = .ok (.iconst 0, 1) := by decide +kernel
theorem dX6_in_18 : decode cX6_in 18 = .ok (.ireturn, 1) := by decide +kernel
theorem dX6_digitsOf_0 : decode cX6_digitsOf 0 = .ok (.iload_n 0, 1) := by decide +kernel
theorem dX6_digitsOf_1 : decode cX6_digitsOf 1 = .ok (.iconst 4, 1) := by decide +kernel
theorem dX6_digitsOf_2 : decode cX6_digitsOf 2 = .ok (.if_icmp .ne 8, 3) := by decide +kernel
theorem dX6_digitsOf_5 : decode cX6_digitsOf 5 = .ok (.bipush 24, 2) := by decide +kernel
theorem dX6_digitsOf_7 : decode cX6_digitsOf 7 = .ok (.goto 5, 3) := by decide +kernel
theorem dX6_digitsOf_10 : decode cX6_digitsOf 10 = .ok (.bipush 53, 2) := by decide +kernel
theorem dX6_digitsOf_12 : decode cX6_digitsOf 12 = .ok (.ireturn, 1) := by decide +kernel
theorem dX6_leastOf_0 : decode cX6_leastOf 0 = .ok (.iload_n 0, 1) := by decide +kernel
theorem dX6_leastOf_1 : decode cX6_leastOf 1 = .ok (.iconst 4, 1) := by decide +kernel
theorem dX6_leastOf_2 : decode cX6_leastOf 2 = .ok (.if_icmp .ne 9, 3) := by decide +kernel
theorem dX6_leastOf_5 : decode cX6_leastOf 5 = .ok (.sipush (-149), 3) := by decide +kernel
theorem dX6_leastOf_8 : decode cX6_leastOf 8 = .ok (.goto 6, 3) := by decide +kernel
theorem dX6_leastOf_11 : decode cX6_leastOf 11 = .ok (.sipush (-1074), 3) := by decide +kernel
theorem dX6_leastOf_14 : decode cX6_leastOf 14 = .ok (.ireturn, 1) := by decide +kernel
theorem dX6_topOf_0 : decode cX6_topOf 0 = .ok (.iload_n 0, 1) := by decide +kernel
theorem dX6_topOf_1 : decode cX6_topOf 1 = .ok (.iconst 4, 1) := by decide +kernel
theorem dX6_topOf_2 : decode cX6_topOf 2 = .ok (.if_icmp .ne 8, 3) := by decide +kernel
theorem dX6_topOf_5 : decode cX6_topOf 5 = .ok (.bipush 127, 2) := by decide +kernel
theorem dX6_topOf_7 : decode cX6_topOf 7 = .ok (.goto 6, 3) := by decide +kernel
theorem dX6_topOf_10 : decode cX6_topOf 10 = .ok (.sipush 1023, 3) := by decide +kernel
theorem dX6_topOf_13 : decode cX6_topOf 13 = .ok (.ireturn, 1) := by decide +kernel
theorem dX6_isNan_0 : decode cX6_isNan 0 = .ok (.lload_n 0, 1) := by decide +kernel
theorem dX6_isNan_1 : decode cX6_isNan 1 = .ok (.ldc2_w 40, 3) := by decide +kernel
theorem dX6_isNan_4 : decode cX6_isNan 4 = .ok (.land, 1) := by decide +kernel
theorem dX6_isNan_5 : decode cX6_isNan 5 = .ok (.ldc2_w 42, 3) := by decide +kernel
theorem dX6_isNan_8 : decode cX6_isNan 8 = .ok (.lcmp, 1) := by decide +kernel
theorem dX6_isNan_9 : decode cX6_isNan 9 = .ok (.ifCond .le 7, 3) := by decide +kernel
theorem dX6_isNan_12 : decode cX6_isNan 12 = .ok (.iconst 1, 1) := by decide +kernel
theorem dX6_isNan_13 : decode cX6_isNan 13 = .ok (.goto 4, 3) := by decide +kernel
theorem dX6_isNan_16 : decode cX6_isNan 16 = .ok (.iconst 0, 1) := by decide +kernel
theorem dX6_isNan_17 : decode cX6_isNan 17 = .ok (.ireturn, 1) := by decide +kernel
theorem dX6_isInfinite_0 : decode cX6_isInfinite 0 = .ok (.lload_n 0, 1) := by decide +kernel
theorem dX6_isInfinite_1 : decode cX6_isInfinite 1 = .ok (.ldc2_w 40, 3) := by decide +kernel
theorem dX6_isInfinite_4 : decode cX6_isInfinite 4 = .ok (.land, 1) := by decide +kernel
theorem dX6_isInfinite_5 : decode cX6_isInfinite 5 = .ok (.ldc2_w 42, 3) := by decide +kernel
theorem dX6_isInfinite_8 : decode cX6_isInfinite 8 = .ok (.lcmp, 1) := by decide +kernel
theorem dX6_isInfinite_9 : decode cX6_isInfinite 9 = .ok (.ifCond .ne 7, 3) := by decide +kernel
theorem dX6_isInfinite_12 : decode cX6_isInfinite 12 = .ok (.iconst 1, 1) := by decide +kernel
theorem dX6_isInfinite_13 : decode cX6_isInfinite 13 = .ok (.goto 4, 3) := by decide +kernel
theorem dX6_isInfinite_16 : decode cX6_isInfinite 16 = .ok (.iconst 0, 1) := by decide +kernel
theorem dX6_isInfinite_17 : decode cX6_isInfinite 17 = .ok (.ireturn, 1) := by decide +kernel
theorem dX6_isZero_0 : decode cX6_isZero 0 = .ok (.lload_n 0, 1) := by decide +kernel
theorem dX6_isZero_1 : decode cX6_isZero 1 = .ok (.ldc2_w 40, 3) := by decide +kernel
theorem dX6_isZero_4 : decode cX6_isZero 4 = .ok (.land, 1) := by decide +kernel
theorem dX6_isZero_5 : decode cX6_isZero 5 = .ok (.lconst 0, 1) := by decide +kernel
theorem dX6_isZero_6 : decode cX6_isZero 6 = .ok (.lcmp, 1) := by decide +kernel
theorem dX6_isZero_7 : decode cX6_isZero 7 = .ok (.ifCond .ne 7, 3) := by decide +kernel
theorem dX6_isZero_10 : decode cX6_isZero 10 = .ok (.iconst 1, 1) := by decide +kernel
theorem dX6_isZero_11 : decode cX6_isZero 11 = .ok (.goto 4, 3) := by decide +kernel
theorem dX6_isZero_14 : decode cX6_isZero 14 = .ok (.iconst 0, 1) := by decide +kernel
theorem dX6_isZero_15 : decode cX6_isZero 15 = .ok (.ireturn, 1) := by decide +kernel
theorem dX6_mantissa_0 : decode cX6_mantissa 0 = .ok (.lload_n 0, 1) := by decide +kernel
theorem dX6_mantissa_1 : decode cX6_mantissa 1 = .ok (.ldc2_w 44, 3) := by decide +kernel
theorem dX6_mantissa_4 : decode cX6_mantissa 4 = .ok (.land, 1) := by decide +kernel
theorem dX6_mantissa_5 : decode cX6_mantissa 5 = .ok (.lstore_n 2, 1) := by decide +kernel
theorem dX6_mantissa_6 : decode cX6_mantissa 6 = .ok (.lload_n 0, 1) := by decide +kernel
theorem dX6_mantissa_7 : decode cX6_mantissa 7 = .ok (.bipush 52, 2) := by decide +kernel
theorem dX6_mantissa_9 : decode cX6_mantissa 9 = .ok (.lushr, 1) := by decide +kernel
theorem dX6_mantissa_10 : decode cX6_mantissa 10 = .ok (.ldc2_w 46, 3) := by decide +kernel
theorem dX6_mantissa_13 : decode cX6_mantissa 13 = .ok (.land, 1) := by decide +kernel
theorem dX6_mantissa_14 : decode cX6_mantissa 14 = .ok (.lconst 0, 1) := by decide +kernel
theorem dX6_mantissa_15 : decode cX6_mantissa 15 = .ok (.lcmp, 1) := by decide +kernel
theorem dX6_mantissa_16 : decode cX6_mantissa 16 = .ok (.ifCond .ne 7, 3) := by decide +kernel
theorem dX6_mantissa_19 : decode cX6_mantissa 19 = .ok (.lload_n 2, 1) := by decide +kernel
theorem dX6_mantissa_20 : decode cX6_mantissa 20 = .ok (.goto 8, 3) := by decide +kernel
theorem dX6_mantissa_23 : decode cX6_mantissa 23 = .ok (.lload_n 2, 1) := by decide +kernel
theorem dX6_mantissa_24 : decode cX6_mantissa 24 = .ok (.ldc2_w 48, 3) := by decide +kernel
theorem dX6_mantissa_27 : decode cX6_mantissa 27 = .ok (.lor, 1) := by decide +kernel
theorem dX6_mantissa_28 : decode cX6_mantissa 28 = .ok (.lreturn, 1) := by decide +kernel
theorem dX6_exponent_0 : decode cX6_exponent 0 = .ok (.lload_n 0, 1) := by decide +kernel
theorem dX6_exponent_1 : decode cX6_exponent 1 = .ok (.bipush 52, 2) := by decide +kernel
theorem dX6_exponent_3 : decode cX6_exponent 3 = .ok (.lushr, 1) := by decide +kernel
theorem dX6_exponent_4 : decode cX6_exponent 4 = .ok (.ldc2_w 46, 3) := by decide +kernel
theorem dX6_exponent_7 : decode cX6_exponent 7 = .ok (.land, 1) := by decide +kernel
theorem dX6_exponent_8 : decode cX6_exponent 8 = .ok (.l2i, 1) := by decide +kernel
theorem dX6_exponent_9 : decode cX6_exponent 9 = .ok (.istore_n 2, 1) := by decide +kernel
theorem dX6_exponent_10 : decode cX6_exponent 10 = .ok (.iload_n 2, 1) := by decide +kernel
theorem dX6_exponent_11 : decode cX6_exponent 11 = .ok (.ifCond .ne 9, 3) := by decide +kernel
theorem dX6_exponent_14 : decode cX6_exponent 14 = .ok (.sipush (-1074), 3) := by decide +kernel
theorem dX6_exponent_17 : decode cX6_exponent 17 = .ok (.goto 8, 3) := by decide +kernel
theorem dX6_exponent_20 : decode cX6_exponent 20 = .ok (.iload_n 2, 1) := by decide +kernel
theorem dX6_exponent_21 : decode cX6_exponent 21 = .ok (.sipush 1075, 3) := by decide +kernel
theorem dX6_exponent_24 : decode cX6_exponent 24 = .ok (.isub, 1) := by decide +kernel
theorem dX6_exponent_25 : decode cX6_exponent 25 = .ok (.ireturn, 1) := by decide +kernel
theorem dX6_length_0 : decode cX6_length 0 = .ok (.iconst 0, 1) := by decide +kernel
theorem dX6_length_1 : decode cX6_length 1 = .ok (.istore_n 2, 1) := by decide +kernel
theorem dX6_length_2 : decode cX6_length 2 = .ok (.lload_n 0, 1) := by decide +kernel
theorem dX6_length_3 : decode cX6_length 3 = .ok (.lstore_n 3, 1) := by decide +kernel
theorem dX6_length_4 : decode cX6_length 4 = .ok (.lload_n 3, 1) := by decide +kernel
theorem dX6_length_5 : decode cX6_length 5 = .ok (.lconst 0, 1) := by decide +kernel
theorem dX6_length_6 : decode cX6_length 6 = .ok (.lcmp, 1) := by decide +kernel
theorem dX6_length_7 : decode cX6_length 7 = .ok (.ifCond .eq 13, 3) := by decide +kernel
theorem dX6_length_10 : decode cX6_length 10 = .ok (.lload_n 3, 1) := by decide +kernel
theorem dX6_length_11 : decode cX6_length 11 = .ok (.iconst 1, 1) := by decide +kernel
theorem dX6_length_12 : decode cX6_length 12 = .ok (.lushr, 1) := by decide +kernel
theorem dX6_length_13 : decode cX6_length 13 = .ok (.lstore_n 3, 1) := by decide +kernel
theorem dX6_length_14 : decode cX6_length 14 = .ok (.iinc 2 1, 3) := by decide +kernel
theorem dX6_length_17 : decode cX6_length 17 = .ok (.goto (-13), 3) := by decide +kernel
theorem dX6_length_20 : decode cX6_length 20 = .ok (.iload_n 2, 1) := by decide +kernel
theorem dX6_length_21 : decode cX6_length 21 = .ok (.ireturn, 1) := by decide +kernel
theorem dX6_signed_0 : decode cX6_signed 0 = .ok (.iload_n 0, 1) := by decide +kernel
theorem dX6_signed_1 : decode cX6_signed 1 = .ok (.ifCond .eq 11, 3) := by decide +kernel
theorem dX6_signed_4 : decode cX6_signed 4 = .ok (.lload_n 1, 1) := by decide +kernel
theorem dX6_signed_5 : decode cX6_signed 5 = .ok (.ldc2_w 50, 3) := by decide +kernel
theorem dX6_signed_8 : decode cX6_signed 8 = .ok (.lor, 1) := by decide +kernel
theorem dX6_signed_9 : decode cX6_signed 9 = .ok (.goto 4, 3) := by decide +kernel
theorem dX6_signed_12 : decode cX6_signed 12 = .ok (.lload_n 1, 1) := by decide +kernel
theorem dX6_signed_13 : decode cX6_signed 13 = .ok (.lreturn, 1) := by decide +kernel
theorem dX6_pack_0 : decode cX6_pack 0 = .ok (.lload_n 1, 1) := by decide +kernel
theorem dX6_pack_1 : decode cX6_pack 1 = .ok (.lconst 0, 1) := by decide +kernel
theorem dX6_pack_2 : decode cX6_pack 2 = .ok (.lcmp, 1) := by decide +kernel
theorem dX6_pack_3 : decode cX6_pack 3 = .ok (.ifCond .ne 9, 3) := by decide +kernel
theorem dX6_pack_6 : decode cX6_pack 6 = .ok (.iload_n 0, 1) := by decide +kernel
theorem dX6_pack_7 : decode cX6_pack 7 = .ok (.lconst 0, 1) := by decide +kernel
theorem dX6_pack_8 : decode cX6_pack 8 = .ok (.invokestatic 52, 3) := by decide +kernel
theorem dX6_pack_11 : decode cX6_pack 11 = .ok (.lreturn, 1) := by decide +kernel
theorem dX6_pack_12 : decode cX6_pack 12 = .ok (.lload_n 1, 1) := by decide +kernel
theorem dX6_pack_13 : decode cX6_pack 13 = .ok (.invokestatic 56, 3) := by decide +kernel
theorem dX6_pack_16 : decode cX6_pack 16 = .ok (.istore 4, 2) := by decide +kernel
theorem dX6_pack_18 : decode cX6_pack 18 = .ok (.iload 4, 2) := by decide +kernel
theorem dX6_pack_20 : decode cX6_pack 20 = .ok (.iload_n 3, 1) := by decide +kernel
theorem dX6_pack_21 : decode cX6_pack 21 = .ok (.iadd, 1) := by decide +kernel
theorem dX6_pack_22 : decode cX6_pack 22 = .ok (.iconst 1, 1) := by decide +kernel
theorem dX6_pack_23 : decode cX6_pack 23 = .ok (.isub, 1) := by decide +kernel
theorem dX6_pack_24 : decode cX6_pack 24 = .ok (.istore 5, 2) := by decide +kernel
theorem dX6_pack_26 : decode cX6_pack 26 = .ok (.iload 5, 2) := by decide +kernel
theorem dX6_pack_28 : decode cX6_pack 28 = .ok (.sipush (-1022), 3) := by decide +kernel
theorem dX6_pack_31 : decode cX6_pack 31 = .ok (.if_icmp .ge 32, 3) := by decide +kernel
theorem dX6_pack_34 : decode cX6_pack 34 = .ok (.iload_n 0, 1) := by decide +kernel
theorem dX6_pack_35 : decode cX6_pack 35 = .ok (.iload_n 3, 1) := by decide +kernel
theorem dX6_pack_36 : decode cX6_pack 36 = .ok (.sipush (-1074), 3) := by decide +kernel
theorem dX6_pack_39 : decode cX6_pack 39 = .ok (.if_icmp .lt 13, 3) := by decide +kernel
theorem dX6_pack_42 : decode cX6_pack 42 = .ok (.lload_n 1, 1) := by decide +kernel
theorem dX6_pack_43 : decode cX6_pack 43 = .ok (.iload_n 3, 1) := by decide +kernel
theorem dX6_pack_44 : decode cX6_pack 44 = .ok (.sipush 1074, 3) := by decide +kernel
theorem dX6_pack_47 : decode cX6_pack 47 = .ok (.iadd, 1) := by decide +kernel
theorem dX6_pack_48 : decode cX6_pack 48 = .ok (.lshl, 1) := by decide +kernel
theorem dX6_pack_49 : decode cX6_pack 49 = .ok (.goto 10, 3) := by decide +kernel
theorem dX6_pack_52 : decode cX6_pack 52 = .ok (.lload_n 1, 1) := by decide +kernel
theorem dX6_pack_53 : decode cX6_pack 53 = .ok (.sipush (-1074), 3) := by decide +kernel
theorem dX6_pack_56 : decode cX6_pack 56 = .ok (.iload_n 3, 1) := by decide +kernel
theorem dX6_pack_57 : decode cX6_pack 57 = .ok (.isub, 1) := by decide +kernel
theorem dX6_pack_58 : decode cX6_pack 58 = .ok (.lshr, 1) := by decide +kernel
theorem dX6_pack_59 : decode cX6_pack 59 = .ok (.invokestatic 52, 3) := by decide +kernel
theorem dX6_pack_62 : decode cX6_pack 62 = .ok (.lreturn, 1) := by decide +kernel
theorem dX6_pack_63 : decode cX6_pack 63 = .ok (.iload 4, 2) := by decide +kernel
theorem dX6_pack_65 : decode cX6_pack 65 = .ok (.bipush 53, 2) := by decide +kernel
theorem dX6_pack_67 : decode cX6_pack 67 = .ok (.if_icmp .gt 13, 3) := by decide +kernel
theorem dX6_pack_70 : decode cX6_pack 70 = .ok (.lload_n 1, 1) := by decide +kernel
theorem dX6_pack_71 : decode cX6_pack 71 = .ok (.bipush 53, 2) := by decide +kernel
theorem dX6_pack_73 : decode cX6_pack 73 = .ok (.iload 4, 2) := by decide +kernel
theorem dX6_pack_75 : decode cX6_pack 75 = .ok (.isub, 1) := by decide +kernel
theorem dX6_pack_76 : decode cX6_pack 76 = .ok (.lshl, 1) := by decide +kernel
theorem dX6_pack_77 : decode cX6_pack 77 = .ok (.goto 10, 3) := by decide +kernel
theorem dX6_pack_80 : decode cX6_pack 80 = .ok (.lload_n 1, 1) := by decide +kernel
theorem dX6_pack_81 : decode cX6_pack 81 = .ok (.iload 4, 2) := by decide +kernel
theorem dX6_pack_83 : decode cX6_pack 83 = .ok (.bipush 53, 2) := by decide +kernel
theorem dX6_pack_85 : decode cX6_pack 85 = .ok (.isub, 1) := by decide +kernel
theorem dX6_pack_86 : decode cX6_pack 86 = .ok (.lshr, 1) := by decide +kernel
theorem dX6_pack_87 : decode cX6_pack 87 = .ok (.lstore 6, 2) := by decide +kernel
theorem dX6_pack_89 : decode cX6_pack 89 = .ok (.iload_n 0, 1) := by decide +kernel
theorem dX6_pack_90 : decode cX6_pack 90 = .ok (.iload 5, 2) := by decide +kernel
theorem dX6_pack_92 : decode cX6_pack 92 = .ok (.sipush 1023, 3) := by decide +kernel
theorem dX6_pack_95 : decode cX6_pack 95 = .ok (.iadd, 1) := by decide +kernel
theorem dX6_pack_96 : decode cX6_pack 96 = .ok (.i2l, 1) := by decide +kernel
theorem dX6_pack_97 : decode cX6_pack 97 = .ok (.bipush 52, 2) := by decide +kernel
theorem dX6_pack_99 : decode cX6_pack 99 = .ok (.lshl, 1) := by decide +kernel
theorem dX6_pack_100 : decode cX6_pack 100 = .ok (.lload 6, 2) := by decide +kernel
theorem dX6_pack_102 : decode cX6_pack 102 = .ok (.ldc2_w 44, 3) := by decide +kernel
theorem dX6_pack_105 : decode cX6_pack 105 = .ok (.land, 1) := by decide +kernel
theorem dX6_pack_106 : decode cX6_pack 106 = .ok (.lor, 1) := by decide +kernel
theorem dX6_pack_107 : decode cX6_pack 107 = .ok (.invokestatic 52, 3) := by decide +kernel
theorem dX6_pack_110 : decode cX6_pack 110 = .ok (.lreturn, 1) := by decide +kernel
theorem dX6_fit_0 : decode cX6_fit 0 = .ok (.lload_n 1, 1) := by decide +kernel
theorem dX6_fit_1 : decode cX6_fit 1 = .ok (.lconst 0, 1) := by decide +kernel
theorem dX6_fit_2 : decode cX6_fit 2 = .ok (.lcmp, 1) := by decide +kernel
theorem dX6_fit_3 : decode cX6_fit 3 = .ok (.ifCond .ne 9, 3) := by decide +kernel
theorem dX6_fit_6 : decode cX6_fit 6 = .ok (.iload_n 0, 1) := by decide +kernel
theorem dX6_fit_7 : decode cX6_fit 7 = .ok (.lconst 0, 1) := by decide +kernel
theorem dX6_fit_8 : decode cX6_fit 8 = .ok (.invokestatic 52, 3) := by decide +kernel
theorem dX6_fit_11 : decode cX6_fit 11 = .ok (.lreturn, 1) := by decide +kernel
theorem dX6_fit_12 : decode cX6_fit 12 = .ok (.iload_n 3, 1) := by decide +kernel
theorem dX6_fit_13 : decode cX6_fit 13 = .ok (.lload_n 1, 1) := by decide +kernel
theorem dX6_fit_14 : decode cX6_fit 14 = .ok (.invokestatic 56, 3) := by decide +kernel
theorem dX6_fit_17 : decode cX6_fit 17 = .ok (.iadd, 1) := by decide +kernel
theorem dX6_fit_18 : decode cX6_fit 18 = .ok (.iload 5, 2) := by decide +kernel
theorem dX6_fit_20 : decode cX6_fit 20 = .ok (.invokestatic 60, 3) := by decide +kernel
theorem dX6_fit_23 : decode cX6_fit 23 = .ok (.isub, 1) := by decide +kernel
theorem dX6_fit_24 : decode cX6_fit 24 = .ok (.istore 6, 2) := by decide +kernel
theorem dX6_fit_26 : decode cX6_fit 26 = .ok (.iload 6, 2) := by decide +kernel
theorem dX6_fit_28 : decode cX6_fit 28 = .ok (.iload 5, 2) := by decide +kernel
theorem dX6_fit_30 : decode cX6_fit 30 = .ok (.invokestatic 64, 3) := by decide +kernel
theorem dX6_fit_33 : decode cX6_fit 33 = .ok (.if_icmp .ge 11, 3) := by decide +kernel
theorem dX6_fit_36 : decode cX6_fit 36 = .ok (.iload 5, 2) := by decide +kernel
theorem dX6_fit_38 : decode cX6_fit 38 = .ok (.invokestatic 64, 3) := by decide +kernel
theorem dX6_fit_41 : decode cX6_fit 41 = .ok (.goto 5, 3) := by decide +kernel
theorem dX6_fit_44 : decode cX6_fit 44 = .ok (.iload 6, 2) := by decide +kernel
theorem dX6_fit_46 : decode cX6_fit 46 = .ok (.istore 6, 2) := by decide +kernel
theorem dX6_fit_48 : decode cX6_fit 48 = .ok (.iload 6, 2) := by decide +kernel
theorem dX6_fit_50 : decode cX6_fit 50 = .ok (.iload_n 3, 1) := by decide +kernel
theorem dX6_fit_51 : decode cX6_fit 51 = .ok (.isub, 1) := by decide +kernel
theorem dX6_fit_52 : decode cX6_fit 52 = .ok (.istore 7, 2) := by decide +kernel
theorem dX6_fit_54 : decode cX6_fit 54 = .ok (.iload 7, 2) := by decide +kernel
theorem dX6_fit_56 : decode cX6_fit 56 = .ok (.bipush 62, 2) := by decide +kernel
theorem dX6_fit_58 : decode cX6_fit 58 = .ok (.if_icmp .le 9, 3) := by decide +kernel
theorem dX6_fit_61 : decode cX6_fit 61 = .ok (.iload_n 0, 1) := by decide +kernel
theorem dX6_fit_62 : decode cX6_fit 62 = .ok (.lconst 0, 1) := by decide +kernel
theorem dX6_fit_63 : decode cX6_fit 63 = .ok (.invokestatic 52, 3) := by decide +kernel
theorem dX6_fit_66 : decode cX6_fit 66 = .ok (.lreturn, 1) := by decide +kernel
theorem dX6_fit_67 : decode cX6_fit 67 = .ok (.lload_n 1, 1) := by decide +kernel
theorem dX6_fit_68 : decode cX6_fit 68 = .ok (.lstore 8, 2) := by decide +kernel
theorem dX6_fit_70 : decode cX6_fit 70 = .ok (.iload_n 3, 1) := by decide +kernel
theorem dX6_fit_71 : decode cX6_fit 71 = .ok (.istore 10, 2) := by decide +kernel
theorem dX6_fit_73 : decode cX6_fit 73 = .ok (.iload 7, 2) := by decide +kernel
theorem dX6_fit_75 : decode cX6_fit 75 = .ok (.ifCond .le 67, 3) := by decide +kernel
theorem dX6_fit_78 : decode cX6_fit 78 = .ok (.lload_n 1, 1) := by decide +kernel
theorem dX6_fit_79 : decode cX6_fit 79 = .ok (.iload 7, 2) := by decide +kernel
theorem dX6_fit_81 : decode cX6_fit 81 = .ok (.lshr, 1) := by decide +kernel
theorem dX6_fit_82 : decode cX6_fit 82 = .ok (.lstore 8, 2) := by decide +kernel
theorem dX6_fit_84 : decode cX6_fit 84 = .ok (.iload 6, 2) := by decide +kernel
theorem dX6_fit_86 : decode cX6_fit 86 = .ok (.istore 10, 2) := by decide +kernel
theorem dX6_fit_88 : decode cX6_fit 88 = .ok (.lload_n 1, 1) := by decide +kernel
theorem dX6_fit_89 : decode cX6_fit 89 = .ok (.lconst 1, 1) := by decide +kernel
theorem dX6_fit_90 : decode cX6_fit 90 = .ok (.iload 7, 2) := by decide +kernel
theorem dX6_fit_92 : decode cX6_fit 92 = .ok (.lshl, 1) := by decide +kernel
theorem dX6_fit_93 : decode cX6_fit 93 = .ok (.lconst 1, 1) := by decide +kernel
theorem dX6_fit_94 : decode cX6_fit 94 = .ok (.lsub, 1) := by decide +kernel
theorem dX6_fit_95 : decode cX6_fit 95 = .ok (.land, 1) := by decide +kernel
theorem dX6_fit_96 : decode cX6_fit 96 = .ok (.lstore 11, 2) := by decide +kernel
theorem dX6_fit_98 : decode cX6_fit 98 = .ok (.lconst 1, 1) := by decide +kernel
theorem dX6_fit_99 : decode cX6_fit 99 = .ok (.iload 7, 2) := by decide +kernel
theorem dX6_fit_101 : decode cX6_fit 101 = .ok (.iconst 1, 1) := by decide +kernel
theorem dX6_fit_102 : decode cX6_fit 102 = .ok (.isub, 1) := by decide +kernel
theorem dX6_fit_103 : decode cX6_fit 103 = .ok (.lshl, 1) := by decide +kernel
theorem dX6_fit_104 : decode cX6_fit 104 = .ok (.lstore 13, 2) := by decide +kernel
theorem dX6_fit_106 : decode cX6_fit 106 = .ok (.lload 11, 2) := by decide +kernel
theorem dX6_fit_108 : decode cX6_fit 108 = .ok (.lload 13, 2) := by decide +kernel
theorem dX6_fit_110 : decode cX6_fit 110 = .ok (.lcmp, 1) := by decide +kernel
theorem dX6_fit_111 : decode cX6_fit 111 = .ok (.ifCond .gt 25, 3) := by decide +kernel
theorem dX6_fit_114 : decode cX6_fit 114 = .ok (.lload 11, 2) := by decide +kernel
theorem dX6_fit_116 : decode cX6_fit 116 = .ok (.lload 13, 2) := by decide +kernel
theorem dX6_fit_118 : decode cX6_fit 118 = .ok (.lcmp, 1) := by decide +kernel
theorem dX6_fit_119 : decode cX6_fit 119 = .ok (.ifCond .ne 23, 3) := by decide +kernel
theorem dX6_fit_122 : decode cX6_fit 122 = .ok (.iload 4, 2) := by decide +kernel
theorem dX6_fit_124 : decode cX6_fit 124 = .ok (.ifCond .ne 12, 3) := by decide +kernel
theorem dX6_fit_127 : decode cX6_fit 127 = .ok (.lload 8, 2) := by decide +kernel
theorem dX6_fit_129 : decode cX6_fit 129 = .ok (.lconst 1, 1) := by decide +kernel
theorem dX6_fit_130 : decode cX6_fit 130 = .ok (.land, 1) := by decide +kernel
theorem dX6_fit_131 : decode cX6_fit 131 = .ok (.lconst 1, 1) := by decide +kernel
theorem dX6_fit_132 : decode cX6_fit 132 = .ok (.lcmp, 1) := by decide +kernel
theorem dX6_fit_133 : decode cX6_fit 133 = .ok (.ifCond .ne 9, 3) := by decide +kernel
theorem dX6_fit_136 : decode cX6_fit 136 = .ok (.lload 8, 2) := by decide +kernel
theorem dX6_fit_138 : decode cX6_fit 138 = .ok (.lconst 1, 1) := by decide +kernel
theorem dX6_fit_139 : decode cX6_fit 139 = .ok (.ladd, 1) := by decide +kernel
theorem dX6_fit_140 : decode cX6_fit 140 = .ok (.lstore 8, 2) := by decide +kernel
theorem dX6_fit_142 : decode cX6_fit 142 = .ok (.lload 8, 2) := by decide +kernel
theorem dX6_fit_144 : decode cX6_fit 144 = .ok (.invokestatic 56, 3) := by decide +kernel
theorem dX6_fit_147 : decode cX6_fit 147 = .ok (.iload 10, 2) := by decide +kernel
theorem dX6_fit_149 : decode cX6_fit 149 = .ok (.iadd, 1) := by decide +kernel
theorem dX6_fit_150 : decode cX6_fit 150 = .ok (.iconst 1, 1) := by decide +kernel
theorem dX6_fit_151 : decode cX6_fit 151 = .ok (.isub, 1) := by decide +kernel
theorem dX6_fit_152 : decode cX6_fit 152 = .ok (.iload 5, 2) := by decide +kernel
theorem dX6_fit_154 : decode cX6_fit 154 = .ok (.invokestatic 67, 3) := by decide +kernel
theorem dX6_fit_157 : decode cX6_fit 157 = .ok (.if_icmp .le 13, 3) := by decide +kernel
theorem dX6_fit_160 : decode cX6_fit 160 = .ok (.iload_n 0, 1) := by decide +kernel
theorem dX6_fit_161 : decode cX6_fit 161 = .ok (.ldc2_w 42, 3) := by decide +kernel
theorem dX6_fit_164 : decode cX6_fit 164 = .ok (.invokestatic 52, 3) := by decide +kernel
theorem dX6_fit_167 : decode cX6_fit 167 = .ok (.goto 11, 3) := by decide +kernel
theorem dX6_fit_170 : decode cX6_fit 170 = .ok (.iload_n 0, 1) := by decide +kernel
theorem dX6_fit_171 : decode cX6_fit 171 = .ok (.lload 8, 2) := by decide +kernel
theorem dX6_fit_173 : decode cX6_fit 173 = .ok (.iload 10, 2) := by decide +kernel
theorem dX6_fit_175 : decode cX6_fit 175 = .ok (.invokestatic 70, 3) := by decide +kernel
theorem dX6_fit_178 : decode cX6_fit 178 = .ok (.lreturn, 1) := by decide +kernel
theorem dX6_nearest_0 : decode cX6_nearest 0 = .ok (.lload_n 0, 1) := by decide +kernel
theorem dX6_nearest_1 : decode cX6_nearest 1 = .ok (.invokestatic 74, 3) := by decide +kernel
theorem dX6_nearest_4 : decode cX6_nearest 4 = .ok (.ifCond .eq 7, 3) := by decide +kernel
theorem dX6_nearest_7 : decode cX6_nearest 7 = .ok (.ldc2_w 78, 3) := by decide +kernel
theorem dX6_nearest_10 : decode cX6_nearest 10 = .ok (.lreturn, 1) := by decide +kernel
theorem dX6_nearest_11 : decode cX6_nearest 11 = .ok (.lload_n 0, 1) := by decide +kernel
theorem dX6_nearest_12 : decode cX6_nearest 12 = .ok (.invokestatic 80, 3) := by decide +kernel
theorem dX6_nearest_15 : decode cX6_nearest 15 = .ok (.ifCond .eq 7, 3) := by decide +kernel
theorem dX6_nearest_18 : decode cX6_nearest 18 = .ok (.lload_n 0, 1) := by decide +kernel
theorem dX6_nearest_19 : decode cX6_nearest 19 = .ok (.goto 27, 3) := by decide +kernel
theorem dX6_nearest_22 : decode cX6_nearest 22 = .ok (.lload_n 0, 1) := by decide +kernel
theorem dX6_nearest_23 : decode cX6_nearest 23 = .ok (.lconst 0, 1) := by decide +kernel
theorem dX6_nearest_24 : decode cX6_nearest 24 = .ok (.lcmp, 1) := by decide +kernel
theorem dX6_nearest_25 : decode cX6_nearest 25 = .ok (.ifCond .ge 7, 3) := by decide +kernel
theorem dX6_nearest_28 : decode cX6_nearest 28 = .ok (.iconst 1, 1) := by decide +kernel
theorem dX6_nearest_29 : decode cX6_nearest 29 = .ok (.goto 4, 3) := by decide +kernel
theorem dX6_nearest_32 : decode cX6_nearest 32 = .ok (.iconst 0, 1) := by decide +kernel
theorem dX6_nearest_33 : decode cX6_nearest 33 = .ok (.lload_n 0, 1) := by decide +kernel
theorem dX6_nearest_34 : decode cX6_nearest 34 = .ok (.invokestatic 83, 3) := by decide +kernel
theorem dX6_nearest_37 : decode cX6_nearest 37 = .ok (.lload_n 0, 1) := by decide +kernel
theorem dX6_nearest_38 : decode cX6_nearest 38 = .ok (.invokestatic 87, 3) := by decide +kernel
theorem dX6_nearest_41 : decode cX6_nearest 41 = .ok (.iconst 0, 1) := by decide +kernel
theorem dX6_nearest_42 : decode cX6_nearest 42 = .ok (.iload_n 2, 1) := by decide +kernel
theorem dX6_nearest_43 : decode cX6_nearest 43 = .ok (.invokestatic 90, 3) := by decide +kernel
theorem dX6_nearest_46 : decode cX6_nearest 46 = .ok (.lreturn, 1) := by decide +kernel
theorem dX6_ofWhole_0 : decode cX6_ofWhole 0 = .ok (.lload_n 0, 1) := by decide +kernel
theorem dX6_ofWhole_1 : decode cX6_ofWhole 1 = .ok (.lconst 0, 1) := by decide +kernel
theorem dX6_ofWhole_2 : decode cX6_ofWhole 2 = .ok (.lcmp, 1) := by decide +kernel
theorem dX6_ofWhole_3 : decode cX6_ofWhole 3 = .ok (.ifCond .ge 7, 3) := by decide +kernel
theorem dX6_ofWhole_6 : decode cX6_ofWhole 6 = .ok (.iconst 1, 1) := by decide +kernel
theorem dX6_ofWhole_7 : decode cX6_ofWhole 7 = .ok (.goto 4, 3) := by decide +kernel
theorem dX6_ofWhole_10 : decode cX6_ofWhole 10 = .ok (.iconst 0, 1) := by decide +kernel
theorem dX6_ofWhole_11 : decode cX6_ofWhole 11 = .ok (.istore_n 3, 1) := by decide +kernel
theorem dX6_ofWhole_12 : decode cX6_ofWhole 12 = .ok (.iload_n 3, 1) := by decide +kernel
theorem dX6_ofWhole_13 : decode cX6_ofWhole 13 = .ok (.ifCond .eq 8, 3) := by decide +kernel
theorem dX6_ofWhole_16 : decode cX6_ofWhole 16 = .ok (.lload_n 0, 1) := by decide +kernel
theorem dX6_ofWhole_17 : decode cX6_ofWhole 17 = .ok (.lneg, 1) := by decide +kernel
theorem dX6_ofWhole_18 : decode cX6_ofWhole 18 = .ok (.goto 4, 3) := by decide +kernel
theorem dX6_ofWhole_21 : decode cX6_ofWhole 21 = .ok (.lload_n 0, 1) := by decide +kernel
theorem dX6_ofWhole_22 : decode cX6_ofWhole 22 = .ok (.lstore 4, 2) := by decide +kernel
theorem dX6_ofWhole_24 : decode cX6_ofWhole 24 = .ok (.lload 4, 2) := by decide +kernel
theorem dX6_ofWhole_26 : decode cX6_ofWhole 26 = .ok (.invokestatic 56, 3) := by decide +kernel
theorem dX6_ofWhole_29 : decode cX6_ofWhole 29 = .ok (.bipush 63, 2) := by decide +kernel
theorem dX6_ofWhole_31 : decode cX6_ofWhole 31 = .ok (.if_icmp .ge 13, 3) := by decide +kernel
theorem dX6_ofWhole_34 : decode cX6_ofWhole 34 = .ok (.iload_n 3, 1) := by decide +kernel
theorem dX6_ofWhole_35 : decode cX6_ofWhole 35 = .ok (.lload 4, 2) := by decide +kernel
theorem dX6_ofWhole_37 : decode cX6_ofWhole 37 = .ok (.iconst 0, 1) := by decide +kernel
theorem dX6_ofWhole_38 : decode cX6_ofWhole 38 = .ok (.iconst 0, 1) := by decide +kernel
theorem dX6_ofWhole_39 : decode cX6_ofWhole 39 = .ok (.iload_n 2, 1) := by decide +kernel
theorem dX6_ofWhole_40 : decode cX6_ofWhole 40 = .ok (.invokestatic 90, 3) := by decide +kernel
theorem dX6_ofWhole_43 : decode cX6_ofWhole 43 = .ok (.lreturn, 1) := by decide +kernel
theorem dX6_ofWhole_44 : decode cX6_ofWhole 44 = .ok (.iload_n 3, 1) := by decide +kernel
theorem dX6_ofWhole_45 : decode cX6_ofWhole 45 = .ok (.lload 4, 2) := by decide +kernel
theorem dX6_ofWhole_47 : decode cX6_ofWhole 47 = .ok (.iconst 2, 1) := by decide +kernel
theorem dX6_ofWhole_48 : decode cX6_ofWhole 48 = .ok (.lushr, 1) := by decide +kernel
theorem dX6_ofWhole_49 : decode cX6_ofWhole 49 = .ok (.iconst 2, 1) := by decide +kernel
theorem dX6_ofWhole_50 : decode cX6_ofWhole 50 = .ok (.lload 4, 2) := by decide +kernel
theorem dX6_ofWhole_52 : decode cX6_ofWhole 52 = .ok (.ldc2_w 94, 3) := by decide +kernel
theorem dX6_ofWhole_55 : decode cX6_ofWhole 55 = .ok (.land, 1) := by decide +kernel
theorem dX6_ofWhole_56 : decode cX6_ofWhole 56 = .ok (.lconst 0, 1) := by decide +kernel
theorem dX6_ofWhole_57 : decode cX6_ofWhole 57 = .ok (.lcmp, 1) := by decide +kernel
theorem dX6_ofWhole_58 : decode cX6_ofWhole 58 = .ok (.ifCond .eq 7, 3) := by decide +kernel
theorem dX6_ofWhole_61 : decode cX6_ofWhole 61 = .ok (.iconst 1, 1) := by decide +kernel
theorem dX6_ofWhole_62 : decode cX6_ofWhole 62 = .ok (.goto 4, 3) := by decide +kernel
theorem dX6_ofWhole_65 : decode cX6_ofWhole 65 = .ok (.iconst 0, 1) := by decide +kernel
theorem dX6_ofWhole_66 : decode cX6_ofWhole 66 = .ok (.iload_n 2, 1) := by decide +kernel
theorem dX6_ofWhole_67 : decode cX6_ofWhole 67 = .ok (.invokestatic 90, 3) := by decide +kernel
theorem dX6_ofWhole_70 : decode cX6_ofWhole 70 = .ok (.lreturn, 1) := by decide +kernel
theorem dX6_floatBits_0 : decode cX6_floatBits 0 = .ok (.lload_n 0, 1) := by decide +kernel
theorem dX6_floatBits_1 : decode cX6_floatBits 1 = .ok (.invokestatic 74, 3) := by decide +kernel
theorem dX6_floatBits_4 : decode cX6_floatBits 4 = .ok (.ifCond .eq 7, 3) := by decide +kernel
theorem dX6_floatBits_7 : decode cX6_floatBits 7 = .ok (.ldc2_w 96, 3) := by decide +kernel
theorem dX6_floatBits_10 : decode cX6_floatBits 10 = .ok (.lreturn, 1) := by decide +kernel
theorem dX6_floatBits_11 : decode cX6_floatBits 11 = .ok (.lload_n 0, 1) := by decide +kernel
theorem dX6_floatBits_12 : decode cX6_floatBits 12 = .ok (.lconst 0, 1) := by decide +kernel
theorem dX6_floatBits_13 : decode cX6_floatBits 13 = .ok (.lcmp, 1) := by decide +kernel
theorem dX6_floatBits_14 : decode cX6_floatBits 14 = .ok (.ifCond .ge 9, 3) := by decide +kernel
theorem dX6_floatBits_17 : decode cX6_floatBits 17 = .ok (.ldc2_w 98, 3) := by decide +kernel
theorem dX6_floatBits_20 : decode cX6_floatBits 20 = .ok (.goto 4, 3) := by decide +kernel
theorem dX6_floatBits_23 : decode cX6_floatBits 23 = .ok (.lconst 0, 1) := by decide +kernel
theorem dX6_floatBits_24 : decode cX6_floatBits 24 = .ok (.lstore_n 2, 1) := by decide +kernel
theorem dX6_floatBits_25 : decode cX6_floatBits 25 = .ok (.lload_n 0, 1) := by decide +kernel
theorem dX6_floatBits_26 : decode cX6_floatBits 26 = .ok (.invokestatic 80, 3) := by decide +kernel
theorem dX6_floatBits_29 : decode cX6_floatBits 29 = .ok (.ifCond .eq 9, 3) := by decide +kernel
theorem dX6_floatBits_32 : decode cX6_floatBits 32 = .ok (.lload_n 2, 1) := by decide +kernel
theorem dX6_floatBits_33 : decode cX6_floatBits 33 = .ok (.ldc2_w 100, 3) := by decide +kernel
theorem dX6_floatBits_36 : decode cX6_floatBits 36 = .ok (.lor, 1) := by decide +kernel
theorem dX6_floatBits_37 : decode cX6_floatBits 37 = .ok (.lreturn, 1) := by decide +kernel
theorem dX6_floatBits_38 : decode cX6_floatBits 38 = .ok (.lload_n 0, 1) := by decide +kernel
theorem dX6_floatBits_39 : decode cX6_floatBits 39 = .ok (.invokestatic 83, 3) := by decide +kernel
theorem dX6_floatBits_42 : decode cX6_floatBits 42 = .ok (.invokestatic 56, 3) := by decide +kernel
theorem dX6_floatBits_45 : decode cX6_floatBits 45 = .ok (.lload_n 0, 1) := by decide +kernel
theorem dX6_floatBits_46 : decode cX6_floatBits 46 = .ok (.invokestatic 87, 3) := by decide +kernel
theorem dX6_floatBits_49 : decode cX6_floatBits 49 = .ok (.iadd, 1) := by decide +kernel
theorem dX6_floatBits_50 : decode cX6_floatBits 50 = .ok (.iconst 1, 1) := by decide +kernel
theorem dX6_floatBits_51 : decode cX6_floatBits 51 = .ok (.isub, 1) := by decide +kernel
theorem dX6_floatBits_52 : decode cX6_floatBits 52 = .ok (.istore 4, 2) := by decide +kernel
theorem dX6_floatBits_54 : decode cX6_floatBits 54 = .ok (.lload_n 0, 1) := by decide +kernel
theorem dX6_floatBits_55 : decode cX6_floatBits 55 = .ok (.invokestatic 102, 3) := by decide +kernel
theorem dX6_floatBits_58 : decode cX6_floatBits 58 = .ok (.ifCond .eq 5, 3) := by decide +kernel
theorem dX6_floatBits_61 : decode cX6_floatBits 61 = .ok (.lload_n 2, 1) := by decide +kernel
theorem dX6_floatBits_62 : decode cX6_floatBits 62 = .ok (.lreturn, 1) := by decide +kernel
theorem dX6_floatBits_63 : decode cX6_floatBits 63 = .ok (.iload 4, 2) := by decide +kernel
theorem dX6_floatBits_65 : decode cX6_floatBits 65 = .ok (.bipush (-126), 2) := by decide +kernel
theorem dX6_floatBits_67 : decode cX6_floatBits 67 = .ok (.if_icmp .ge 39, 3) := by decide +kernel
theorem dX6_floatBits_70 : decode cX6_floatBits 70 = .ok (.sipush (-149), 3) := by decide +kernel
theorem dX6_floatBits_73 : decode cX6_floatBits 73 = .ok (.lload_n 0, 1) := by decide +kernel
theorem dX6_floatBits_74 : decode cX6_floatBits 74 = .ok (.invokestatic 87, 3) := by decide +kernel
theorem dX6_floatBits_77 : decode cX6_floatBits 77 = .ok (.isub, 1) := by decide +kernel
theorem dX6_floatBits_78 : decode cX6_floatBits 78 = .ok (.istore 5, 2) := by decide +kernel
theorem dX6_floatBits_80 : decode cX6_floatBits 80 = .ok (.lload_n 2, 1) := by decide +kernel
theorem dX6_floatBits_81 : decode cX6_floatBits 81 = .ok (.iload 5, 2) := by decide +kernel
theorem dX6_floatBits_83 : decode cX6_floatBits 83 = .ok (.ifCond .le 13, 3) := by decide +kernel
theorem dX6_floatBits_86 : decode cX6_floatBits 86 = .ok (.lload_n 0, 1) := by decide +kernel
theorem dX6_floatBits_87 : decode cX6_floatBits 87 = .ok (.invokestatic 83, 3) := by decide +kernel
theorem dX6_floatBits_90 : decode cX6_floatBits 90 = .ok (.iload 5, 2) := by decide +kernel
theorem dX6_floatBits_92 : decode cX6_floatBits 92 = .ok (.lshr, 1) := by decide +kernel
theorem dX6_floatBits_93 : decode cX6_floatBits 93 = .ok (.goto 11, 3) := by decide +kernel
theorem dX6_floatBits_96 : decode cX6_floatBits 96 = .ok (.lload_n 0, 1) := by decide +kernel
theorem dX6_floatBits_97 : decode cX6_floatBits 97 = .ok (.invokestatic 83, 3) := by decide +kernel
theorem dX6_floatBits_100 : decode cX6_floatBits 100 = .ok (.iload 5, 2) := by decide +kernel
theorem dX6_floatBits_102 : decode cX6_floatBits 102 = .ok (.ineg, 1) := by decide +kernel
theorem dX6_floatBits_103 : decode cX6_floatBits 103 = .ok (.lshl, 1) := by decide +kernel
theorem dX6_floatBits_104 : decode cX6_floatBits 104 = .ok (.lor, 1) := by decide +kernel
theorem dX6_floatBits_105 : decode cX6_floatBits 105 = .ok (.lreturn, 1) := by decide +kernel
theorem dX6_floatBits_106 : decode cX6_floatBits 106 = .ok (.lload_n 2, 1) := by decide +kernel
theorem dX6_floatBits_107 : decode cX6_floatBits 107 = .ok (.iload 4, 2) := by decide +kernel
theorem dX6_floatBits_109 : decode cX6_floatBits 109 = .ok (.bipush 127, 2) := by decide +kernel
theorem dX6_floatBits_111 : decode cX6_floatBits 111 = .ok (.iadd, 1) := by decide +kernel
theorem dX6_floatBits_112 : decode cX6_floatBits 112 = .ok (.i2l, 1) := by decide +kernel
theorem dX6_floatBits_113 : decode cX6_floatBits 113 = .ok (.bipush 23, 2) := by decide +kernel
theorem dX6_floatBits_115 : decode cX6_floatBits 115 = .ok (.lshl, 1) := by decide +kernel
theorem dX6_floatBits_116 : decode cX6_floatBits 116 = .ok (.lor, 1) := by decide +kernel
theorem dX6_floatBits_117 : decode cX6_floatBits 117 = .ok (.lload_n 0, 1) := by decide +kernel
theorem dX6_floatBits_118 : decode cX6_floatBits 118 = .ok (.invokestatic 83, 3) := by decide +kernel
theorem dX6_floatBits_121 : decode cX6_floatBits 121 = .ok (.lload_n 0, 1) := by decide +kernel
theorem dX6_floatBits_122 : decode cX6_floatBits 122 = .ok (.invokestatic 83, 3) := by decide +kernel
theorem dX6_floatBits_125 : decode cX6_floatBits 125 = .ok (.invokestatic 56, 3) := by decide +kernel
theorem dX6_floatBits_128 : decode cX6_floatBits 128 = .ok (.bipush 24, 2) := by decide +kernel
theorem dX6_floatBits_130 : decode cX6_floatBits 130 = .ok (.isub, 1) := by decide +kernel
theorem dX6_floatBits_131 : decode cX6_floatBits 131 = .ok (.lshr, 1) := by decide +kernel
theorem dX6_floatBits_132 : decode cX6_floatBits 132 = .ok (.ldc2_w 105, 3) := by decide +kernel
theorem dX6_floatBits_135 : decode cX6_floatBits 135 = .ok (.land, 1) := by decide +kernel
theorem dX6_floatBits_136 : decode cX6_floatBits 136 = .ok (.lor, 1) := by decide +kernel
theorem dX6_floatBits_137 : decode cX6_floatBits 137 = .ok (.lreturn, 1) := by decide +kernel
theorem dX6_wide_0 : decode cX6_wide 0 = .ok (.lload_n 0, 1) := by decide +kernel
theorem dX6_wide_1 : decode cX6_wide 1 = .ok (.bipush 23, 2) := by decide +kernel
theorem dX6_wide_3 : decode cX6_wide 3 = .ok (.lshr, 1) := by decide +kernel
theorem dX6_wide_4 : decode cX6_wide 4 = .ok (.ldc2_w 107, 3) := by decide +kernel
theorem dX6_wide_7 : decode cX6_wide 7 = .ok (.land, 1) := by decide +kernel
theorem dX6_wide_8 : decode cX6_wide 8 = .ok (.l2i, 1) := by decide +kernel
theorem dX6_wide_9 : decode cX6_wide 9 = .ok (.istore_n 2, 1) := by decide +kernel
theorem dX6_wide_10 : decode cX6_wide 10 = .ok (.lload_n 0, 1) := by decide +kernel
theorem dX6_wide_11 : decode cX6_wide 11 = .ok (.ldc2_w 105, 3) := by decide +kernel
theorem dX6_wide_14 : decode cX6_wide 14 = .ok (.land, 1) := by decide +kernel
theorem dX6_wide_15 : decode cX6_wide 15 = .ok (.lstore_n 3, 1) := by decide +kernel
theorem dX6_wide_16 : decode cX6_wide 16 = .ok (.lload_n 0, 1) := by decide +kernel
theorem dX6_wide_17 : decode cX6_wide 17 = .ok (.lconst 0, 1) := by decide +kernel
theorem dX6_wide_18 : decode cX6_wide 18 = .ok (.lcmp, 1) := by decide +kernel
theorem dX6_wide_19 : decode cX6_wide 19 = .ok (.ifCond .ge 7, 3) := by decide +kernel
theorem dX6_wide_22 : decode cX6_wide 22 = .ok (.iconst 1, 1) := by decide +kernel
theorem dX6_wide_23 : decode cX6_wide 23 = .ok (.goto 4, 3) := by decide +kernel
theorem dX6_wide_26 : decode cX6_wide 26 = .ok (.iconst 0, 1) := by decide +kernel
theorem dX6_wide_27 : decode cX6_wide 27 = .ok (.istore 5, 2) := by decide +kernel
theorem dX6_wide_29 : decode cX6_wide 29 = .ok (.iload_n 2, 1) := by decide +kernel
theorem dX6_wide_30 : decode cX6_wide 30 = .ok (.sipush 255, 3) := by decide +kernel
theorem dX6_wide_33 : decode cX6_wide 33 = .ok (.if_icmp .ne 24, 3) := by decide +kernel
theorem dX6_wide_36 : decode cX6_wide 36 = .ok (.lload_n 3, 1) := by decide +kernel
theorem dX6_wide_37 : decode cX6_wide 37 = .ok (.lconst 0, 1) := by decide +kernel
theorem dX6_wide_38 : decode cX6_wide 38 = .ok (.lcmp, 1) := by decide +kernel
theorem dX6_wide_39 : decode cX6_wide 39 = .ok (.ifCond .eq 9, 3) := by decide +kernel
theorem dX6_wide_42 : decode cX6_wide 42 = .ok (.ldc2_w 78, 3) := by decide +kernel
theorem dX6_wide_45 : decode cX6_wide 45 = .ok (.goto 11, 3) := by decide +kernel
theorem dX6_wide_48 : decode cX6_wide 48 = .ok (.iload 5, 2) := by decide +kernel
theorem dX6_wide_50 : decode cX6_wide 50 = .ok (.ldc2_w 42, 3) := by decide +kernel
theorem dX6_wide_53 : decode cX6_wide 53 = .ok (.invokestatic 52, 3) := by decide +kernel
theorem dX6_wide_56 : decode cX6_wide 56 = .ok (.lreturn, 1) := by decide +kernel
theorem dX6_wide_57 : decode cX6_wide 57 = .ok (.iload_n 2, 1) := by decide +kernel
theorem dX6_wide_58 : decode cX6_wide 58 = .ok (.ifCond .ne 15, 3) := by decide +kernel
theorem dX6_wide_61 : decode cX6_wide 61 = .ok (.iload 5, 2) := by decide +kernel
theorem dX6_wide_63 : decode cX6_wide 63 = .ok (.lload_n 3, 1) := by decide +kernel
theorem dX6_wide_64 : decode cX6_wide 64 = .ok (.sipush (-149), 3) := by decide +kernel
theorem dX6_wide_67 : decode cX6_wide 67 = .ok (.invokestatic 70, 3) := by decide +kernel
theorem dX6_wide_70 : decode cX6_wide 70 = .ok (.goto 18, 3) := by decide +kernel
theorem dX6_wide_73 : decode cX6_wide 73 = .ok (.iload 5, 2) := by decide +kernel
theorem dX6_wide_75 : decode cX6_wide 75 = .ok (.lload_n 3, 1) := by decide +kernel
theorem dX6_wide_76 : decode cX6_wide 76 = .ok (.ldc2_w 109, 3) := by decide +kernel
theorem dX6_wide_79 : decode cX6_wide 79 = .ok (.lor, 1) := by decide +kernel
theorem dX6_wide_80 : decode cX6_wide 80 = .ok (.iload_n 2, 1) := by decide +kernel
theorem dX6_wide_81 : decode cX6_wide 81 = .ok (.sipush 150, 3) := by decide +kernel
theorem dX6_wide_84 : decode cX6_wide 84 = .ok (.isub, 1) := by decide +kernel
theorem dX6_wide_85 : decode cX6_wide 85 = .ok (.invokestatic 70, 3) := by decide +kernel
theorem dX6_wide_88 : decode cX6_wide 88 = .ok (.lreturn, 1) := by decide +kernel
theorem dX6_times_0 : decode cX6_times 0 = .ok (.lload_n 0, 1) := by decide +kernel
theorem dX6_times_1 : decode cX6_times 1 = .ok (.lconst 0, 1) := by decide +kernel
theorem dX6_times_2 : decode cX6_times 2 = .ok (.lcmp, 1) := by decide +kernel
theorem dX6_times_3 : decode cX6_times 3 = .ok (.ifCond .ge 7, 3) := by decide +kernel
theorem dX6_times_6 : decode cX6_times 6 = .ok (.iconst 1, 1) := by decide +kernel
theorem dX6_times_7 : decode cX6_times 7 = .ok (.goto 4, 3) := by decide +kernel
theorem dX6_times_10 : decode cX6_times 10 = .ok (.iconst 0, 1) := by decide +kernel
theorem dX6_times_11 : decode cX6_times 11 = .ok (.lload_n 2, 1) := by decide +kernel
theorem dX6_times_12 : decode cX6_times 12 = .ok (.lconst 0, 1) := by decide +kernel
theorem dX6_times_13 : decode cX6_times 13 = .ok (.lcmp, 1) := by decide +kernel
theorem dX6_times_14 : decode cX6_times 14 = .ok (.ifCond .ge 7, 3) := by decide +kernel
theorem dX6_times_17 : decode cX6_times 17 = .ok (.iconst 1, 1) := by decide +kernel
theorem dX6_times_18 : decode cX6_times 18 = .ok (.goto 4, 3) := by decide +kernel
theorem dX6_times_21 : decode cX6_times 21 = .ok (.iconst 0, 1) := by decide +kernel
theorem dX6_times_22 : decode cX6_times 22 = .ok (.if_icmp .eq 7, 3) := by decide +kernel
theorem dX6_times_25 : decode cX6_times 25 = .ok (.iconst 1, 1) := by decide +kernel
theorem dX6_times_26 : decode cX6_times 26 = .ok (.goto 4, 3) := by decide +kernel
theorem dX6_times_29 : decode cX6_times 29 = .ok (.iconst 0, 1) := by decide +kernel
theorem dX6_times_30 : decode cX6_times 30 = .ok (.istore 5, 2) := by decide +kernel
theorem dX6_times_32 : decode cX6_times 32 = .ok (.lload_n 0, 1) := by decide +kernel
theorem dX6_times_33 : decode cX6_times 33 = .ok (.invokestatic 74, 3) := by decide +kernel
theorem dX6_times_36 : decode cX6_times 36 = .ok (.ifCond .ne 38, 3) := by decide +kernel
theorem dX6_times_39 : decode cX6_times 39 = .ok (.lload_n 2, 1) := by decide +kernel
theorem dX6_times_40 : decode cX6_times 40 = .ok (.invokestatic 74, 3) := by decide +kernel
theorem dX6_times_43 : decode cX6_times 43 = .ok (.ifCond .ne 31, 3) := by decide +kernel
theorem dX6_times_46 : decode cX6_times 46 = .ok (.lload_n 0, 1) := by decide +kernel
theorem dX6_times_47 : decode cX6_times 47 = .ok (.invokestatic 80, 3) := by decide +kernel
theorem dX6_times_50 : decode cX6_times 50 = .ok (.ifCond .eq 10, 3) := by decide +kernel
theorem dX6_times_53 : decode cX6_times 53 = .ok (.lload_n 2, 1) := by decide +kernel
theorem dX6_times_54 : decode cX6_times 54 = .ok (.invokestatic 102, 3) := by decide +kernel
theorem dX6_times_57 : decode cX6_times 57 = .ok (.ifCond .ne 17, 3) := by decide +kernel
theorem dX6_times_60 : decode cX6_times 60 = .ok (.lload_n 0, 1) := by decide +kernel
theorem dX6_times_61 : decode cX6_times 61 = .ok (.invokestatic 102, 3) := by decide +kernel
theorem dX6_times_64 : decode cX6_times 64 = .ok (.ifCond .eq 14, 3) := by decide +kernel
theorem dX6_times_67 : decode cX6_times 67 = .ok (.lload_n 2, 1) := by decide +kernel
theorem dX6_times_68 : decode cX6_times 68 = .ok (.invokestatic 80, 3) := by decide +kernel
theorem dX6_times_71 : decode cX6_times 71 = .ok (.ifCond .eq 7, 3) := by decide +kernel
theorem dX6_times_74 : decode cX6_times 74 = .ok (.ldc2_w 78, 3) := by decide +kernel
theorem dX6_times_77 : decode cX6_times 77 = .ok (.lreturn, 1) := by decide +kernel
theorem dX6_times_78 : decode cX6_times 78 = .ok (.lload_n 0, 1) := by decide +kernel
theorem dX6_times_79 : decode cX6_times 79 = .ok (.invokestatic 80, 3) := by decide +kernel
theorem dX6_times_82 : decode cX6_times 82 = .ok (.ifCond .ne 10, 3) := by decide +kernel
theorem dX6_times_85 : decode cX6_times 85 = .ok (.lload_n 2, 1) := by decide +kernel
theorem dX6_times_86 : decode cX6_times 86 = .ok (.invokestatic 80, 3) := by decide +kernel
theorem dX6_times_89 : decode cX6_times 89 = .ok (.ifCond .eq 12, 3) := by decide +kernel
theorem dX6_times_92 : decode cX6_times 92 = .ok (.iload 5, 2) := by decide +kernel
theorem dX6_times_94 : decode cX6_times 94 = .ok (.ldc2_w 42, 3) := by decide +kernel
theorem dX6_times_97 : decode cX6_times 97 = .ok (.invokestatic 52, 3) := by decide +kernel
theorem dX6_times_100 : decode cX6_times 100 = .ok (.lreturn, 1) := by decide +kernel
theorem dX6_times_101 : decode cX6_times 101 = .ok (.lload_n 0, 1) := by decide +kernel
theorem dX6_times_102 : decode cX6_times 102 = .ok (.invokestatic 102, 3) := by decide +kernel
theorem dX6_times_105 : decode cX6_times 105 = .ok (.ifCond .ne 10, 3) := by decide +kernel
theorem dX6_times_108 : decode cX6_times 108 = .ok (.lload_n 2, 1) := by decide +kernel
theorem dX6_times_109 : decode cX6_times 109 = .ok (.invokestatic 102, 3) := by decide +kernel
theorem dX6_times_112 : decode cX6_times 112 = .ok (.ifCond .eq 10, 3) := by decide +kernel
theorem dX6_times_115 : decode cX6_times 115 = .ok (.iload 5, 2) := by decide +kernel
theorem dX6_times_117 : decode cX6_times 117 = .ok (.lconst 0, 1) := by decide +kernel
theorem dX6_times_118 : decode cX6_times 118 = .ok (.invokestatic 52, 3) := by decide +kernel
theorem dX6_times_121 : decode cX6_times 121 = .ok (.lreturn, 1) := by decide +kernel
theorem dX6_times_122 : decode cX6_times 122 = .ok (.ldc2_w 111, 3) := by decide +kernel
theorem dX6_times_125 : decode cX6_times 125 = .ok (.lstore 6, 2) := by decide +kernel
theorem dX6_times_127 : decode cX6_times 127 = .ok (.lload_n 0, 1) := by decide +kernel
theorem dX6_times_128 : decode cX6_times 128 = .ok (.invokestatic 83, 3) := by decide +kernel
theorem dX6_times_131 : decode cX6_times 131 = .ok (.lstore 8, 2) := by decide +kernel
theorem dX6_times_133 : decode cX6_times 133 = .ok (.lload_n 2, 1) := by decide +kernel
theorem dX6_times_134 : decode cX6_times 134 = .ok (.invokestatic 83, 3) := by decide +kernel
theorem dX6_times_137 : decode cX6_times 137 = .ok (.lstore 10, 2) := by decide +kernel
theorem dX6_times_139 : decode cX6_times 139 = .ok (.lload 8, 2) := by decide +kernel
theorem dX6_times_141 : decode cX6_times 141 = .ok (.bipush 27, 2) := by decide +kernel
theorem dX6_times_143 : decode cX6_times 143 = .ok (.lshr, 1) := by decide +kernel
theorem dX6_times_144 : decode cX6_times 144 = .ok (.lload 10, 2) := by decide +kernel
theorem dX6_times_146 : decode cX6_times 146 = .ok (.lload 6, 2) := by decide +kernel
theorem dX6_times_148 : decode cX6_times 148 = .ok (.land, 1) := by decide +kernel
theorem dX6_times_149 : decode cX6_times 149 = .ok (.lmul, 1) := by decide +kernel
theorem dX6_times_150 : decode cX6_times 150 = .ok (.lload 8, 2) := by decide +kernel
theorem dX6_times_152 : decode cX6_times 152 = .ok (.lload 6, 2) := by decide +kernel
theorem dX6_times_154 : decode cX6_times 154 = .ok (.land, 1) := by decide +kernel
theorem dX6_times_155 : decode cX6_times 155 = .ok (.lload 10, 2) := by decide +kernel
theorem dX6_times_157 : decode cX6_times 157 = .ok (.bipush 27, 2) := by decide +kernel
theorem dX6_times_159 : decode cX6_times 159 = .ok (.lshr, 1) := by decide +kernel
theorem dX6_times_160 : decode cX6_times 160 = .ok (.lmul, 1) := by decide +kernel
theorem dX6_times_161 : decode cX6_times 161 = .ok (.ladd, 1) := by decide +kernel
theorem dX6_times_162 : decode cX6_times 162 = .ok (.lstore 12, 2) := by decide +kernel
theorem dX6_times_164 : decode cX6_times 164 = .ok (.lload 12, 2) := by decide +kernel
theorem dX6_times_166 : decode cX6_times 166 = .ok (.lload 6, 2) := by decide +kernel
theorem dX6_times_168 : decode cX6_times 168 = .ok (.land, 1) := by decide +kernel
theorem dX6_times_169 : decode cX6_times 169 = .ok (.bipush 27, 2) := by decide +kernel
theorem dX6_times_171 : decode cX6_times 171 = .ok (.lshl, 1) := by decide +kernel
theorem dX6_times_172 : decode cX6_times 172 = .ok (.lload 8, 2) := by decide +kernel
theorem dX6_times_174 : decode cX6_times 174 = .ok (.lload 6, 2) := by decide +kernel
theorem dX6_times_176 : decode cX6_times 176 = .ok (.land, 1) := by decide +kernel
theorem dX6_times_177 : decode cX6_times 177 = .ok (.lload 10, 2) := by decide +kernel
theorem dX6_times_179 : decode cX6_times 179 = .ok (.lload 6, 2) := by decide +kernel
theorem dX6_times_181 : decode cX6_times 181 = .ok (.land, 1) := by decide +kernel
theorem dX6_times_182 : decode cX6_times 182 = .ok (.lmul, 1) := by decide +kernel
theorem dX6_times_183 : decode cX6_times 183 = .ok (.ladd, 1) := by decide +kernel
theorem dX6_times_184 : decode cX6_times 184 = .ok (.lstore 14, 2) := by decide +kernel
theorem dX6_times_186 : decode cX6_times 186 = .ok (.lload 8, 2) := by decide +kernel
theorem dX6_times_188 : decode cX6_times 188 = .ok (.bipush 27, 2) := by decide +kernel
theorem dX6_times_190 : decode cX6_times 190 = .ok (.lshr, 1) := by decide +kernel
theorem dX6_times_191 : decode cX6_times 191 = .ok (.lload 10, 2) := by decide +kernel
theorem dX6_times_193 : decode cX6_times 193 = .ok (.bipush 27, 2) := by decide +kernel
theorem dX6_times_195 : decode cX6_times 195 = .ok (.lshr, 1) := by decide +kernel
theorem dX6_times_196 : decode cX6_times 196 = .ok (.lmul, 1) := by decide +kernel
theorem dX6_times_197 : decode cX6_times 197 = .ok (.lload 12, 2) := by decide +kernel
theorem dX6_times_199 : decode cX6_times 199 = .ok (.bipush 27, 2) := by decide +kernel
theorem dX6_times_201 : decode cX6_times 201 = .ok (.lshr, 1) := by decide +kernel
theorem dX6_times_202 : decode cX6_times 202 = .ok (.ladd, 1) := by decide +kernel
theorem dX6_times_203 : decode cX6_times 203 = .ok (.lload 14, 2) := by decide +kernel
theorem dX6_times_205 : decode cX6_times 205 = .ok (.bipush 54, 2) := by decide +kernel
theorem dX6_times_207 : decode cX6_times 207 = .ok (.lshr, 1) := by decide +kernel
theorem dX6_times_208 : decode cX6_times 208 = .ok (.ladd, 1) := by decide +kernel
theorem dX6_times_209 : decode cX6_times 209 = .ok (.lstore 16, 2) := by decide +kernel
theorem dX6_times_211 : decode cX6_times 211 = .ok (.lload 14, 2) := by decide +kernel
theorem dX6_times_213 : decode cX6_times 213 = .ok (.ldc2_w 113, 3) := by decide +kernel
theorem dX6_times_216 : decode cX6_times 216 = .ok (.land, 1) := by decide +kernel
theorem dX6_times_217 : decode cX6_times 217 = .ok (.lstore 14, 2) := by decide +kernel
theorem dX6_times_219 : decode cX6_times 219 = .ok (.lload_n 0, 1) := by decide +kernel
theorem dX6_times_220 : decode cX6_times 220 = .ok (.invokestatic 87, 3) := by decide +kernel
theorem dX6_times_223 : decode cX6_times 223 = .ok (.lload_n 2, 1) := by decide +kernel
theorem dX6_times_224 : decode cX6_times 224 = .ok (.invokestatic 87, 3) := by decide +kernel
theorem dX6_times_227 : decode cX6_times 227 = .ok (.iadd, 1) := by decide +kernel
theorem dX6_times_228 : decode cX6_times 228 = .ok (.istore 18, 2) := by decide +kernel
theorem dX6_times_230 : decode cX6_times 230 = .ok (.lload 16, 2) := by decide +kernel
theorem dX6_times_232 : decode cX6_times 232 = .ok (.lconst 0, 1) := by decide +kernel
theorem dX6_times_233 : decode cX6_times 233 = .ok (.lcmp, 1) := by decide +kernel
theorem dX6_times_234 : decode cX6_times 234 = .ok (.ifCond .ne 16, 3) := by decide +kernel
theorem dX6_times_237 : decode cX6_times 237 = .ok (.iload 5, 2) := by decide +kernel
theorem dX6_times_239 : decode cX6_times 239 = .ok (.lload 14, 2) := by decide +kernel
theorem dX6_times_241 : decode cX6_times 241 = .ok (.iload 18, 2) := by decide +kernel
theorem dX6_times_243 : decode cX6_times 243 = .ok (.iconst 0, 1) := by decide +kernel
theorem dX6_times_244 : decode cX6_times 244 = .ok (.iload 4, 2) := by decide +kernel
theorem dX6_times_246 : decode cX6_times 246 = .ok (.invokestatic 90, 3) := by decide +kernel
theorem dX6_times_249 : decode cX6_times 249 = .ok (.lreturn, 1) := by decide +kernel
theorem dX6_times_250 : decode cX6_times 250 = .ok (.bipush 62, 2) := by decide +kernel
theorem dX6_times_252 : decode cX6_times 252 = .ok (.lload 16, 2) := by decide +kernel
theorem dX6_times_254 : decode cX6_times 254 = .ok (.invokestatic 56, 3) := by decide +kernel
theorem dX6_times_257 : decode cX6_times 257 = .ok (.isub, 1) := by decide +kernel
theorem dX6_times_258 : decode cX6_times 258 = .ok (.istore 19, 2) := by decide +kernel
theorem dX6_times_260 : decode cX6_times 260 = .ok (.iload 19, 2) := by decide +kernel
theorem dX6_times_262 : decode cX6_times 262 = .ok (.bipush 54, 2) := by decide +kernel
theorem dX6_times_264 : decode cX6_times 264 = .ok (.if_icmp .le 8, 3) := by decide +kernel
theorem dX6_times_267 : decode cX6_times 267 = .ok (.bipush 54, 2) := by decide +kernel
theorem dX6_times_269 : decode cX6_times 269 = .ok (.goto 5, 3) := by decide +kernel
theorem dX6_times_272 : decode cX6_times 272 = .ok (.iload 19, 2) := by decide +kernel
theorem dX6_times_274 : decode cX6_times 274 = .ok (.istore 19, 2) := by decide +kernel
theorem dX6_times_276 : decode cX6_times 276 = .ok (.lload 14, 2) := by decide +kernel
theorem dX6_times_278 : decode cX6_times 278 = .ok (.lconst 1, 1) := by decide +kernel
theorem dX6_times_279 : decode cX6_times 279 = .ok (.bipush 54, 2) := by decide +kernel
theorem dX6_times_281 : decode cX6_times 281 = .ok (.iload 19, 2) := by decide +kernel
theorem dX6_times_283 : decode cX6_times 283 = .ok (.isub, 1) := by decide +kernel
theorem dX6_times_284 : decode cX6_times 284 = .ok (.lshl, 1) := by decide +kernel
theorem dX6_times_285 : decode cX6_times 285 = .ok (.lconst 1, 1) := by decide +kernel
theorem dX6_times_286 : decode cX6_times 286 = .ok (.lsub, 1) := by decide +kernel
theorem dX6_times_287 : decode cX6_times 287 = .ok (.land, 1) := by decide +kernel
theorem dX6_times_288 : decode cX6_times 288 = .ok (.lconst 0, 1) := by decide +kernel
theorem dX6_times_289 : decode cX6_times 289 = .ok (.lcmp, 1) := by decide +kernel
theorem dX6_times_290 : decode cX6_times 290 = .ok (.ifCond .eq 7, 3) := by decide +kernel
theorem dX6_times_293 : decode cX6_times 293 = .ok (.iconst 1, 1) := by decide +kernel
theorem dX6_times_294 : decode cX6_times 294 = .ok (.goto 4, 3) := by decide +kernel
theorem dX6_times_297 : decode cX6_times 297 = .ok (.iconst 0, 1) := by decide +kernel
theorem dX6_times_298 : decode cX6_times 298 = .ok (.istore 20, 2) := by decide +kernel
theorem dX6_times_300 : decode cX6_times 300 = .ok (.iload 5, 2) := by decide +kernel
theorem dX6_times_302 : decode cX6_times 302 = .ok (.lload 16, 2) := by decide +kernel
theorem dX6_times_304 : decode cX6_times 304 = .ok (.iload 19, 2) := by decide +kernel
theorem dX6_times_306 : decode cX6_times 306 = .ok (.lshl, 1) := by decide +kernel
theorem dX6_times_307 : decode cX6_times 307 = .ok (.lload 14, 2) := by decide +kernel
theorem dX6_times_309 : decode cX6_times 309 = .ok (.bipush 54, 2) := by decide +kernel
theorem dX6_times_311 : decode cX6_times 311 = .ok (.iload 19, 2) := by decide +kernel
theorem dX6_times_313 : decode cX6_times 313 = .ok (.isub, 1) := by decide +kernel
theorem dX6_times_314 : decode cX6_times 314 = .ok (.lshr, 1) := by decide +kernel
theorem dX6_times_315 : decode cX6_times 315 = .ok (.lor, 1) := by decide +kernel
theorem dX6_times_316 : decode cX6_times 316 = .ok (.iload 18, 2) := by decide +kernel
theorem dX6_times_318 : decode cX6_times 318 = .ok (.bipush 54, 2) := by decide +kernel
theorem dX6_times_320 : decode cX6_times 320 = .ok (.iadd, 1) := by decide +kernel
theorem dX6_times_321 : decode cX6_times 321 = .ok (.iload 19, 2) := by decide +kernel
theorem dX6_times_323 : decode cX6_times 323 = .ok (.isub, 1) := by decide +kernel
theorem dX6_times_324 : decode cX6_times 324 = .ok (.iload 20, 2) := by decide +kernel
theorem dX6_times_326 : decode cX6_times 326 = .ok (.iload 4, 2) := by decide +kernel
theorem dX6_times_328 : decode cX6_times 328 = .ok (.invokestatic 90, 3) := by decide +kernel
theorem dX6_times_331 : decode cX6_times 331 = .ok (.lreturn, 1) := by decide +kernel
theorem dX6_plus_0 : decode cX6_plus 0 = .ok (.lload_n 0, 1) := by decide +kernel
theorem dX6_plus_1 : decode cX6_plus 1 = .ok (.invokestatic 74, 3) := by decide +kernel
theorem dX6_plus_4 : decode cX6_plus 4 = .ok (.ifCond .ne 30, 3) := by decide +kernel
theorem dX6_plus_7 : decode cX6_plus 7 = .ok (.lload_n 2, 1) := by decide +kernel
theorem dX6_plus_8 : decode cX6_plus 8 = .ok (.invokestatic 74, 3) := by decide +kernel
theorem dX6_plus_11 : decode cX6_plus 11 = .ok (.ifCond .ne 23, 3) := by decide +kernel
theorem dX6_plus_14 : decode cX6_plus 14 = .ok (.lload_n 0, 1) := by decide +kernel
theorem dX6_plus_15 : decode cX6_plus 15 = .ok (.invokestatic 80, 3) := by decide +kernel
theorem dX6_plus_18 : decode cX6_plus 18 = .ok (.ifCond .eq 20, 3) := by decide +kernel
theorem dX6_plus_21 : decode cX6_plus 21 = .ok (.lload_n 2, 1) := by decide +kernel
theorem dX6_plus_22 : decode cX6_plus 22 = .ok (.invokestatic 80, 3) := by decide +kernel
theorem dX6_plus_25 : decode cX6_plus 25 = .ok (.ifCond .eq 13, 3) := by decide +kernel
theorem dX6_plus_28 : decode cX6_plus 28 = .ok (.lload_n 0, 1) := by decide +kernel
theorem dX6_plus_29 : decode cX6_plus 29 = .ok (.lload_n 2, 1) := by decide +kernel
theorem dX6_plus_30 : decode cX6_plus 30 = .ok (.lcmp, 1) := by decide +kernel
theorem dX6_plus_31 : decode cX6_plus 31 = .ok (.ifCond .eq 7, 3) := by decide +kernel
theorem dX6_plus_34 : decode cX6_plus 34 = .ok (.ldc2_w 78, 3) := by decide +kernel
theorem dX6_plus_37 : decode cX6_plus 37 = .ok (.lreturn, 1) := by decide +kernel
theorem dX6_plus_38 : decode cX6_plus 38 = .ok (.lload_n 0, 1) := by decide +kernel
theorem dX6_plus_39 : decode cX6_plus 39 = .ok (.invokestatic 80, 3) := by decide +kernel
theorem dX6_plus_42 : decode cX6_plus 42 = .ok (.ifCond .ne 10, 3) := by decide +kernel
theorem dX6_plus_45 : decode cX6_plus 45 = .ok (.lload_n 2, 1) := by decide +kernel
theorem dX6_plus_46 : decode cX6_plus 46 = .ok (.invokestatic 80, 3) := by decide +kernel
theorem dX6_plus_49 : decode cX6_plus 49 = .ok (.ifCond .eq 16, 3) := by decide +kernel
theorem dX6_plus_52 : decode cX6_plus 52 = .ok (.lload_n 0, 1) := by decide +kernel
theorem dX6_plus_53 : decode cX6_plus 53 = .ok (.invokestatic 80, 3) := by decide +kernel
theorem dX6_plus_56 : decode cX6_plus 56 = .ok (.ifCond .eq 7, 3) := by decide +kernel
theorem dX6_plus_59 : decode cX6_plus 59 = .ok (.lload_n 0, 1) := by decide +kernel
theorem dX6_plus_60 : decode cX6_plus 60 = .ok (.goto 4, 3) := by decide +kernel
theorem dX6_plus_63 : decode cX6_plus 63 = .ok (.lload_n 2, 1) := by decide +kernel
theorem dX6_plus_64 : decode cX6_plus 64 = .ok (.lreturn, 1) := by decide +kernel
theorem dX6_plus_65 : decode cX6_plus 65 = .ok (.lload_n 0, 1) := by decide +kernel
theorem dX6_plus_66 : decode cX6_plus 66 = .ok (.invokestatic 102, 3) := by decide +kernel
theorem dX6_plus_69 : decode cX6_plus 69 = .ok (.ifCond .eq 22, 3) := by decide +kernel
theorem dX6_plus_72 : decode cX6_plus 72 = .ok (.lload_n 2, 1) := by decide +kernel
theorem dX6_plus_73 : decode cX6_plus 73 = .ok (.invokestatic 102, 3) := by decide +kernel
theorem dX6_plus_76 : decode cX6_plus 76 = .ok (.ifCond .eq 15, 3) := by decide +kernel
theorem dX6_plus_79 : decode cX6_plus 79 = .ok (.lload_n 0, 1) := by decide +kernel
theorem dX6_plus_80 : decode cX6_plus 80 = .ok (.lload_n 2, 1) := by decide +kernel
theorem dX6_plus_81 : decode cX6_plus 81 = .ok (.lcmp, 1) := by decide +kernel
theorem dX6_plus_82 : decode cX6_plus 82 = .ok (.ifCond .ne 7, 3) := by decide +kernel
theorem dX6_plus_85 : decode cX6_plus 85 = .ok (.lload_n 0, 1) := by decide +kernel
theorem dX6_plus_86 : decode cX6_plus 86 = .ok (.goto 4, 3) := by decide +kernel
theorem dX6_plus_89 : decode cX6_plus 89 = .ok (.lconst 0, 1) := by decide +kernel
theorem dX6_plus_90 : decode cX6_plus 90 = .ok (.lreturn, 1) := by decide +kernel
theorem dX6_plus_91 : decode cX6_plus 91 = .ok (.lload_n 0, 1) := by decide +kernel
theorem dX6_plus_92 : decode cX6_plus 92 = .ok (.ldc2_w 40, 3) := by decide +kernel
theorem dX6_plus_95 : decode cX6_plus 95 = .ok (.land, 1) := by decide +kernel
theorem dX6_plus_96 : decode cX6_plus 96 = .ok (.lload_n 2, 1) := by decide +kernel
theorem dX6_plus_97 : decode cX6_plus 97 = .ok (.ldc2_w 40, 3) := by decide +kernel
theorem dX6_plus_100 : decode cX6_plus 100 = .ok (.land, 1) := by decide +kernel
theorem dX6_plus_101 : decode cX6_plus 101 = .ok (.lcmp, 1) := by decide +kernel
theorem dX6_plus_102 : decode cX6_plus 102 = .ok (.ifCond .lt 7, 3) := by decide +kernel
theorem dX6_plus_105 : decode cX6_plus 105 = .ok (.iconst 1, 1) := by decide +kernel
theorem dX6_plus_106 : decode cX6_plus 106 = .ok (.goto 4, 3) := by decide +kernel
theorem dX6_plus_109 : decode cX6_plus 109 = .ok (.iconst 0, 1) := by decide +kernel
theorem dX6_plus_110 : decode cX6_plus 110 = .ok (.istore 5, 2) := by decide +kernel
theorem dX6_plus_112 : decode cX6_plus 112 = .ok (.iload 5, 2) := by decide +kernel
theorem dX6_plus_114 : decode cX6_plus 114 = .ok (.ifCond .eq 7, 3) := by decide +kernel
theorem dX6_plus_117 : decode cX6_plus 117 = .ok (.lload_n 0, 1) := by decide +kernel
theorem dX6_plus_118 : decode cX6_plus 118 = .ok (.goto 4, 3) := by decide +kernel
theorem dX6_plus_121 : decode cX6_plus 121 = .ok (.lload_n 2, 1) := by decide +kernel
theorem dX6_plus_122 : decode cX6_plus 122 = .ok (.lstore 6, 2) := by decide +kernel
theorem dX6_plus_124 : decode cX6_plus 124 = .ok (.iload 5, 2) := by decide +kernel
theorem dX6_plus_126 : decode cX6_plus 126 = .ok (.ifCond .eq 7, 3) := by decide +kernel
theorem dX6_plus_129 : decode cX6_plus 129 = .ok (.lload_n 2, 1) := by decide +kernel
theorem dX6_plus_130 : decode cX6_plus 130 = .ok (.goto 4, 3) := by decide +kernel
theorem dX6_plus_133 : decode cX6_plus 133 = .ok (.lload_n 0, 1) := by decide +kernel
theorem dX6_plus_134 : decode cX6_plus 134 = .ok (.lstore 8, 2) := by decide +kernel
theorem dX6_plus_136 : decode cX6_plus 136 = .ok (.lload 6, 2) := by decide +kernel
theorem dX6_plus_138 : decode cX6_plus 138 = .ok (.invokestatic 83, 3) := by decide +kernel
theorem dX6_plus_141 : decode cX6_plus 141 = .ok (.lstore 10, 2) := by decide +kernel
theorem dX6_plus_143 : decode cX6_plus 143 = .ok (.lload 6, 2) := by decide +kernel
theorem dX6_plus_145 : decode cX6_plus 145 = .ok (.invokestatic 87, 3) := by decide +kernel
theorem dX6_plus_148 : decode cX6_plus 148 = .ok (.istore 12, 2) := by decide +kernel
theorem dX6_plus_150 : decode cX6_plus 150 = .ok (.bipush 61, 2) := by decide +kernel
theorem dX6_plus_152 : decode cX6_plus 152 = .ok (.lload 10, 2) := by decide +kernel
theorem dX6_plus_154 : decode cX6_plus 154 = .ok (.invokestatic 56, 3) := by decide +kernel
theorem dX6_plus_157 : decode cX6_plus 157 = .ok (.isub, 1) := by decide +kernel
theorem dX6_plus_158 : decode cX6_plus 158 = .ok (.istore 13, 2) := by decide +kernel
theorem dX6_plus_160 : decode cX6_plus 160 = .ok (.lload 10, 2) := by decide +kernel
theorem dX6_plus_162 : decode cX6_plus 162 = .ok (.iload 13, 2) := by decide +kernel
theorem dX6_plus_164 : decode cX6_plus 164 = .ok (.lshl, 1) := by decide +kernel
theorem dX6_plus_165 : decode cX6_plus 165 = .ok (.lstore 10, 2) := by decide +kernel
theorem dX6_plus_167 : decode cX6_plus 167 = .ok (.iload 12, 2) := by decide +kernel
theorem dX6_plus_169 : decode cX6_plus 169 = .ok (.iload 13, 2) := by decide +kernel
theorem dX6_plus_171 : decode cX6_plus 171 = .ok (.isub, 1) := by decide +kernel
theorem dX6_plus_172 : decode cX6_plus 172 = .ok (.istore 12, 2) := by decide +kernel
theorem dX6_plus_174 : decode cX6_plus 174 = .ok (.lload 8, 2) := by decide +kernel
theorem dX6_plus_176 : decode cX6_plus 176 = .ok (.invokestatic 83, 3) := by decide +kernel
theorem dX6_plus_179 : decode cX6_plus 179 = .ok (.lstore 14, 2) := by decide +kernel
theorem dX6_plus_181 : decode cX6_plus 181 = .ok (.iload 12, 2) := by decide +kernel
theorem dX6_plus_183 : decode cX6_plus 183 = .ok (.lload 8, 2) := by decide +kernel
theorem dX6_plus_185 : decode cX6_plus 185 = .ok (.invokestatic 87, 3) := by decide +kernel
theorem dX6_plus_188 : decode cX6_plus 188 = .ok (.isub, 1) := by decide +kernel
theorem dX6_plus_189 : decode cX6_plus 189 = .ok (.istore 16, 2) := by decide +kernel
theorem dX6_plus_191 : decode cX6_plus 191 = .ok (.iconst 0, 1) := by decide +kernel
theorem dX6_plus_192 : decode cX6_plus 192 = .ok (.istore 17, 2) := by decide +kernel
theorem dX6_plus_194 : decode cX6_plus 194 = .ok (.lload 14, 2) := by decide +kernel
theorem dX6_plus_196 : decode cX6_plus 196 = .ok (.lconst 0, 1) := by decide +kernel
theorem dX6_plus_197 : decode cX6_plus 197 = .ok (.lcmp, 1) := by decide +kernel
theorem dX6_plus_198 : decode cX6_plus 198 = .ok (.ifCond .eq 10, 3) := by decide +kernel
theorem dX6_plus_201 : decode cX6_plus 201 = .ok (.iload 16, 2) := by decide +kernel
theorem dX6_plus_203 : decode cX6_plus 203 = .ok (.bipush 62, 2) := by decide +kernel
theorem dX6_plus_205 : decode cX6_plus 205 = .ok (.if_icmp .le 23, 3) := by decide +kernel
theorem dX6_plus_208 : decode cX6_plus 208 = .ok (.lload 14, 2) := by decide +kernel
theorem dX6_plus_210 : decode cX6_plus 210 = .ok (.lconst 0, 1) := by decide +kernel
theorem dX6_plus_211 : decode cX6_plus 211 = .ok (.lcmp, 1) := by decide +kernel
theorem dX6_plus_212 : decode cX6_plus 212 = .ok (.ifCond .eq 7, 3) := by decide +kernel
theorem dX6_plus_215 : decode cX6_plus 215 = .ok (.iconst 1, 1) := by decide +kernel
theorem dX6_plus_216 : decode cX6_plus 216 = .ok (.goto 4, 3) := by decide +kernel
theorem dX6_plus_219 : decode cX6_plus 219 = .ok (.iconst 0, 1) := by decide +kernel
theorem dX6_plus_220 : decode cX6_plus 220 = .ok (.istore 17, 2) := by decide +kernel
theorem dX6_plus_222 : decode cX6_plus 222 = .ok (.lconst 0, 1) := by decide +kernel
theorem dX6_plus_223 : decode cX6_plus 223 = .ok (.lstore 14, 2) := by decide +kernel
theorem dX6_plus_225 : decode cX6_plus 225 = .ok (.goto 47, 3) := by decide +kernel
theorem dX6_plus_228 : decode cX6_plus 228 = .ok (.iload 16, 2) := by decide +kernel
theorem dX6_plus_230 : decode cX6_plus 230 = .ok (.ifCond .le 34, 3) := by decide +kernel
theorem dX6_plus_233 : decode cX6_plus 233 = .ok (.lload 14, 2) := by decide +kernel
theorem dX6_plus_235 : decode cX6_plus 235 = .ok (.lconst 1, 1) := by decide +kernel
theorem dX6_plus_236 : decode cX6_plus 236 = .ok (.iload 16, 2) := by decide +kernel
theorem dX6_plus_238 : decode cX6_plus 238 = .ok (.lshl, 1) := by decide +kernel
theorem dX6_plus_239 : decode cX6_plus 239 = .ok (.lconst 1, 1) := by decide +kernel
theorem dX6_plus_240 : decode cX6_plus 240 = .ok (.lsub, 1) := by decide +kernel
theorem dX6_plus_241 : decode cX6_plus 241 = .ok (.land, 1) := by decide +kernel
theorem dX6_plus_242 : decode cX6_plus 242 = .ok (.lconst 0, 1) := by decide +kernel
theorem dX6_plus_243 : decode cX6_plus 243 = .ok (.lcmp, 1) := by decide +kernel
theorem dX6_plus_244 : decode cX6_plus 244 = .ok (.ifCond .eq 7, 3) := by decide +kernel
theorem dX6_plus_247 : decode cX6_plus 247 = .ok (.iconst 1, 1) := by decide +kernel
theorem dX6_plus_248 : decode cX6_plus 248 = .ok (.goto 4, 3) := by decide +kernel
theorem dX6_plus_251 : decode cX6_plus 251 = .ok (.iconst 0, 1) := by decide +kernel
theorem dX6_plus_252 : decode cX6_plus 252 = .ok (.istore 17, 2) := by decide +kernel
theorem dX6_plus_254 : decode cX6_plus 254 = .ok (.lload 14, 2) := by decide +kernel
theorem dX6_plus_256 : decode cX6_plus 256 = .ok (.iload 16, 2) := by decide +kernel
theorem dX6_plus_258 : decode cX6_plus 258 = .ok (.lshr, 1) := by decide +kernel
theorem dX6_plus_259 : decode cX6_plus 259 = .ok (.lstore 14, 2) := by decide +kernel
theorem dX6_plus_261 : decode cX6_plus 261 = .ok (.goto 11, 3) := by decide +kernel
theorem dX6_plus_264 : decode cX6_plus 264 = .ok (.lload 14, 2) := by decide +kernel
theorem dX6_plus_266 : decode cX6_plus 266 = .ok (.iload 16, 2) := by decide +kernel
theorem dX6_plus_268 : decode cX6_plus 268 = .ok (.ineg, 1) := by decide +kernel
theorem dX6_plus_269 : decode cX6_plus 269 = .ok (.lshl, 1) := by decide +kernel
theorem dX6_plus_270 : decode cX6_plus 270 = .ok (.lstore 14, 2) := by decide +kernel
theorem dX6_plus_272 : decode cX6_plus 272 = .ok (.lload_n 0, 1) := by decide +kernel
theorem dX6_plus_273 : decode cX6_plus 273 = .ok (.lconst 0, 1) := by decide +kernel
theorem dX6_plus_274 : decode cX6_plus 274 = .ok (.lcmp, 1) := by decide +kernel
theorem dX6_plus_275 : decode cX6_plus 275 = .ok (.ifCond .ge 7, 3) := by decide +kernel
theorem dX6_plus_278 : decode cX6_plus 278 = .ok (.iconst 1, 1) := by decide +kernel
theorem dX6_plus_279 : decode cX6_plus 279 = .ok (.goto 4, 3) := by decide +kernel
theorem dX6_plus_282 : decode cX6_plus 282 = .ok (.iconst 0, 1) := by decide +kernel
theorem dX6_plus_283 : decode cX6_plus 283 = .ok (.lload_n 2, 1) := by decide +kernel
theorem dX6_plus_284 : decode cX6_plus 284 = .ok (.lconst 0, 1) := by decide +kernel
theorem dX6_plus_285 : decode cX6_plus 285 = .ok (.lcmp, 1) := by decide +kernel
theorem dX6_plus_286 : decode cX6_plus 286 = .ok (.ifCond .ge 7, 3) := by decide +kernel
theorem dX6_plus_289 : decode cX6_plus 289 = .ok (.iconst 1, 1) := by decide +kernel
theorem dX6_plus_290 : decode cX6_plus 290 = .ok (.goto 4, 3) := by decide +kernel
theorem dX6_plus_293 : decode cX6_plus 293 = .ok (.iconst 0, 1) := by decide +kernel
theorem dX6_plus_294 : decode cX6_plus 294 = .ok (.if_icmp .ne 11, 3) := by decide +kernel
theorem dX6_plus_297 : decode cX6_plus 297 = .ok (.lload 10, 2) := by decide +kernel
theorem dX6_plus_299 : decode cX6_plus 299 = .ok (.lload 14, 2) := by decide +kernel
theorem dX6_plus_301 : decode cX6_plus 301 = .ok (.ladd, 1) := by decide +kernel
theorem dX6_plus_302 : decode cX6_plus 302 = .ok (.goto 19, 3) := by decide +kernel
theorem dX6_plus_305 : decode cX6_plus 305 = .ok (.lload 10, 2) := by decide +kernel
theorem dX6_plus_307 : decode cX6_plus 307 = .ok (.lload 14, 2) := by decide +kernel
theorem dX6_plus_309 : decode cX6_plus 309 = .ok (.lsub, 1) := by decide +kernel
theorem dX6_plus_310 : decode cX6_plus 310 = .ok (.iload 17, 2) := by decide +kernel
theorem dX6_plus_312 : decode cX6_plus 312 = .ok (.ifCond .eq 7, 3) := by decide +kernel
theorem dX6_plus_315 : decode cX6_plus 315 = .ok (.lconst 1, 1) := by decide +kernel
theorem dX6_plus_316 : decode cX6_plus 316 = .ok (.goto 4, 3) := by decide +kernel
theorem dX6_plus_319 : decode cX6_plus 319 = .ok (.lconst 0, 1) := by decide +kernel
theorem dX6_plus_320 : decode cX6_plus 320 = .ok (.lsub, 1) := by decide +kernel
theorem dX6_plus_321 : decode cX6_plus 321 = .ok (.lstore 18, 2) := by decide +kernel
theorem dX6_plus_323 : decode cX6_plus 323 = .ok (.lload 18, 2) := by decide +kernel
theorem dX6_plus_325 : decode cX6_plus 325 = .ok (.lconst 0, 1) := by decide +kernel
theorem dX6_plus_326 : decode cX6_plus 326 = .ok (.lcmp, 1) := by decide +kernel
theorem dX6_plus_327 : decode cX6_plus 327 = .ok (.ifCond .ne 7, 3) := by decide +kernel
theorem dX6_plus_330 : decode cX6_plus 330 = .ok (.lconst 0, 1) := by decide +kernel
theorem dX6_plus_331 : decode cX6_plus 331 = .ok (.goto 26, 3) := by decide +kernel
theorem dX6_plus_334 : decode cX6_plus 334 = .ok (.lload 6, 2) := by decide +kernel
theorem dX6_plus_336 : decode cX6_plus 336 = .ok (.lconst 0, 1) := by decide +kernel
theorem dX6_plus_337 : decode cX6_plus 337 = .ok (.lcmp, 1) := by decide +kernel
theorem dX6_plus_338 : decode cX6_plus 338 = .ok (.ifCond .ge 7, 3) := by decide +kernel
theorem dX6_plus_341 : decode cX6_plus 341 = .ok (.iconst 1, 1) := by decide +kernel
theorem dX6_plus_342 : decode cX6_plus 342 = .ok (.goto 4, 3) := by decide +kernel
theorem dX6_plus_345 : decode cX6_plus 345 = .ok (.iconst 0, 1) := by decide +kernel
theorem dX6_plus_346 : decode cX6_plus 346 = .ok (.lload 18, 2) := by decide +kernel
theorem dX6_plus_348 : decode cX6_plus 348 = .ok (.iload 12, 2) := by decide +kernel
theorem dX6_plus_350 : decode cX6_plus 350 = .ok (.iload 17, 2) := by decide +kernel
theorem dX6_plus_352 : decode cX6_plus 352 = .ok (.iload 4, 2) := by decide +kernel
theorem dX6_plus_354 : decode cX6_plus 354 = .ok (.invokestatic 90, 3) := by decide +kernel
theorem dX6_plus_357 : decode cX6_plus 357 = .ok (.lreturn, 1) := by decide +kernel
theorem dX6_other_0 : decode cX6_other 0 = .ok (.lload_n 0, 1) := by decide +kernel
theorem dX6_other_1 : decode cX6_other 1 = .ok (.invokestatic 74, 3) := by decide +kernel
theorem dX6_other_4 : decode cX6_other 4 = .ok (.ifCond .eq 9, 3) := by decide +kernel
theorem dX6_other_7 : decode cX6_other 7 = .ok (.ldc2_w 78, 3) := by decide +kernel
theorem dX6_other_10 : decode cX6_other 10 = .ok (.goto 8, 3) := by decide +kernel
theorem dX6_other_13 : decode cX6_other 13 = .ok (.lload_n 0, 1) := by decide +kernel
theorem dX6_other_14 : decode cX6_other 14 = .ok (.ldc2_w 50, 3) := by decide +kernel
theorem dX6_other_17 : decode cX6_other 17 = .ok (.lxor, 1) := by decide +kernel
theorem dX6_other_18 : decode cX6_other 18 = .ok (.lreturn, 1) := by decide +kernel
theorem dX6_over_0 : decode cX6_over 0 = .ok (.lload_n 0, 1) := by decide +kernel
theorem dX6_over_1 : decode cX6_over 1 = .ok (.lconst 0, 1) := by decide +kernel
theorem dX6_over_2 : decode cX6_over 2 = .ok (.lcmp, 1) := by decide +kernel
theorem dX6_over_3 : decode cX6_over 3 = .ok (.ifCond .ge 7, 3) := by decide +kernel
theorem dX6_over_6 : decode cX6_over 6 = .ok (.iconst 1, 1) := by decide +kernel
theorem dX6_over_7 : decode cX6_over 7 = .ok (.goto 4, 3) := by decide +kernel
theorem dX6_over_10 : decode cX6_over 10 = .ok (.iconst 0, 1) := by decide +kernel
theorem dX6_over_11 : decode cX6_over 11 = .ok (.lload_n 2, 1) := by decide +kernel
theorem dX6_over_12 : decode cX6_over 12 = .ok (.lconst 0, 1) := by decide +kernel
theorem dX6_over_13 : decode cX6_over 13 = .ok (.lcmp, 1) := by decide +kernel
theorem dX6_over_14 : decode cX6_over 14 = .ok (.ifCond .ge 7, 3) := by decide +kernel
theorem dX6_over_17 : decode cX6_over 17 = .ok (.iconst 1, 1) := by decide +kernel
theorem dX6_over_18 : decode cX6_over 18 = .ok (.goto 4, 3) := by decide +kernel
theorem dX6_over_21 : decode cX6_over 21 = .ok (.iconst 0, 1) := by decide +kernel
theorem dX6_over_22 : decode cX6_over 22 = .ok (.if_icmp .eq 7, 3) := by decide +kernel
theorem dX6_over_25 : decode cX6_over 25 = .ok (.iconst 1, 1) := by decide +kernel
theorem dX6_over_26 : decode cX6_over 26 = .ok (.goto 4, 3) := by decide +kernel
theorem dX6_over_29 : decode cX6_over 29 = .ok (.iconst 0, 1) := by decide +kernel
theorem dX6_over_30 : decode cX6_over 30 = .ok (.istore 5, 2) := by decide +kernel
theorem dX6_over_32 : decode cX6_over 32 = .ok (.lload_n 0, 1) := by decide +kernel
theorem dX6_over_33 : decode cX6_over 33 = .ok (.invokestatic 74, 3) := by decide +kernel
theorem dX6_over_36 : decode cX6_over 36 = .ok (.ifCond .ne 38, 3) := by decide +kernel
theorem dX6_over_39 : decode cX6_over 39 = .ok (.lload_n 2, 1) := by decide +kernel
theorem dX6_over_40 : decode cX6_over 40 = .ok (.invokestatic 74, 3) := by decide +kernel
theorem dX6_over_43 : decode cX6_over 43 = .ok (.ifCond .ne 31, 3) := by decide +kernel
theorem dX6_over_46 : decode cX6_over 46 = .ok (.lload_n 0, 1) := by decide +kernel
theorem dX6_over_47 : decode cX6_over 47 = .ok (.invokestatic 80, 3) := by decide +kernel
theorem dX6_over_50 : decode cX6_over 50 = .ok (.ifCond .eq 10, 3) := by decide +kernel
theorem dX6_over_53 : decode cX6_over 53 = .ok (.lload_n 2, 1) := by decide +kernel
theorem dX6_over_54 : decode cX6_over 54 = .ok (.invokestatic 80, 3) := by decide +kernel
theorem dX6_over_57 : decode cX6_over 57 = .ok (.ifCond .ne 17, 3) := by decide +kernel
theorem dX6_over_60 : decode cX6_over 60 = .ok (.lload_n 0, 1) := by decide +kernel
theorem dX6_over_61 : decode cX6_over 61 = .ok (.invokestatic 102, 3) := by decide +kernel
theorem dX6_over_64 : decode cX6_over 64 = .ok (.ifCond .eq 14, 3) := by decide +kernel
theorem dX6_over_67 : decode cX6_over 67 = .ok (.lload_n 2, 1) := by decide +kernel
theorem dX6_over_68 : decode cX6_over 68 = .ok (.invokestatic 102, 3) := by decide +kernel
theorem dX6_over_71 : decode cX6_over 71 = .ok (.ifCond .eq 7, 3) := by decide +kernel
theorem dX6_over_74 : decode cX6_over 74 = .ok (.ldc2_w 78, 3) := by decide +kernel
theorem dX6_over_77 : decode cX6_over 77 = .ok (.lreturn, 1) := by decide +kernel
theorem dX6_over_78 : decode cX6_over 78 = .ok (.lload_n 0, 1) := by decide +kernel
theorem dX6_over_79 : decode cX6_over 79 = .ok (.invokestatic 80, 3) := by decide +kernel
theorem dX6_over_82 : decode cX6_over 82 = .ok (.ifCond .ne 10, 3) := by decide +kernel
theorem dX6_over_85 : decode cX6_over 85 = .ok (.lload_n 2, 1) := by decide +kernel
theorem dX6_over_86 : decode cX6_over 86 = .ok (.invokestatic 102, 3) := by decide +kernel
theorem dX6_over_89 : decode cX6_over 89 = .ok (.ifCond .eq 12, 3) := by decide +kernel
theorem dX6_over_92 : decode cX6_over 92 = .ok (.iload 5, 2) := by decide +kernel
theorem dX6_over_94 : decode cX6_over 94 = .ok (.ldc2_w 42, 3) := by decide +kernel
theorem dX6_over_97 : decode cX6_over 97 = .ok (.invokestatic 52, 3) := by decide +kernel
theorem dX6_over_100 : decode cX6_over 100 = .ok (.lreturn, 1) := by decide +kernel
theorem dX6_over_101 : decode cX6_over 101 = .ok (.lload_n 2, 1) := by decide +kernel
theorem dX6_over_102 : decode cX6_over 102 = .ok (.invokestatic 80, 3) := by decide +kernel
theorem dX6_over_105 : decode cX6_over 105 = .ok (.ifCond .ne 10, 3) := by decide +kernel
theorem dX6_over_108 : decode cX6_over 108 = .ok (.lload_n 0, 1) := by decide +kernel
theorem dX6_over_109 : decode cX6_over 109 = .ok (.invokestatic 102, 3) := by decide +kernel
theorem dX6_over_112 : decode cX6_over 112 = .ok (.ifCond .eq 10, 3) := by decide +kernel
theorem dX6_over_115 : decode cX6_over 115 = .ok (.iload 5, 2) := by decide +kernel
theorem dX6_over_117 : decode cX6_over 117 = .ok (.lconst 0, 1) := by decide +kernel
theorem dX6_over_118 : decode cX6_over 118 = .ok (.invokestatic 52, 3) := by decide +kernel
theorem dX6_over_121 : decode cX6_over 121 = .ok (.lreturn, 1) := by decide +kernel
theorem dX6_over_122 : decode cX6_over 122 = .ok (.lload_n 2, 1) := by decide +kernel
theorem dX6_over_123 : decode cX6_over 123 = .ok (.invokestatic 83, 3) := by decide +kernel
theorem dX6_over_126 : decode cX6_over 126 = .ok (.lstore 6, 2) := by decide +kernel
theorem dX6_over_128 : decode cX6_over 128 = .ok (.lload_n 0, 1) := by decide +kernel
theorem dX6_over_129 : decode cX6_over 129 = .ok (.invokestatic 83, 3) := by decide +kernel
theorem dX6_over_132 : decode cX6_over 132 = .ok (.lload 6, 2) := by decide +kernel
theorem dX6_over_134 : decode cX6_over 134 = .ok (.ldiv, 1) := by decide +kernel
theorem dX6_over_135 : decode cX6_over 135 = .ok (.lstore 8, 2) := by decide +kernel
theorem dX6_over_137 : decode cX6_over 137 = .ok (.lload_n 0, 1) := by decide +kernel
theorem dX6_over_138 : decode cX6_over 138 = .ok (.invokestatic 83, 3) := by decide +kernel
theorem dX6_over_141 : decode cX6_over 141 = .ok (.lload 6, 2) := by decide +kernel
theorem dX6_over_143 : decode cX6_over 143 = .ok (.lrem, 1) := by decide +kernel
theorem dX6_over_144 : decode cX6_over 144 = .ok (.lstore 10, 2) := by decide +kernel
theorem dX6_over_146 : decode cX6_over 146 = .ok (.lload_n 0, 1) := by decide +kernel
theorem dX6_over_147 : decode cX6_over 147 = .ok (.invokestatic 87, 3) := by decide +kernel
theorem dX6_over_150 : decode cX6_over 150 = .ok (.lload_n 2, 1) := by decide +kernel
theorem dX6_over_151 : decode cX6_over 151 = .ok (.invokestatic 87, 3) := by decide +kernel
theorem dX6_over_154 : decode cX6_over 154 = .ok (.isub, 1) := by decide +kernel
theorem dX6_over_155 : decode cX6_over 155 = .ok (.istore 12, 2) := by decide +kernel
theorem dX6_over_157 : decode cX6_over 157 = .ok (.lload 8, 2) := by decide +kernel
theorem dX6_over_159 : decode cX6_over 159 = .ok (.invokestatic 56, 3) := by decide +kernel
theorem dX6_over_162 : decode cX6_over 162 = .ok (.bipush 60, 2) := by decide +kernel
theorem dX6_over_164 : decode cX6_over 164 = .ok (.if_icmp .ge 54, 3) := by decide +kernel
theorem dX6_over_167 : decode cX6_over 167 = .ok (.lload 10, 2) := by decide +kernel
theorem dX6_over_169 : decode cX6_over 169 = .ok (.iconst 1, 1) := by decide +kernel
theorem dX6_over_170 : decode cX6_over 170 = .ok (.lshl, 1) := by decide +kernel
theorem dX6_over_171 : decode cX6_over 171 = .ok (.lstore 10, 2) := by decide +kernel
theorem dX6_over_173 : decode cX6_over 173 = .ok (.lload 8, 2) := by decide +kernel
theorem dX6_over_175 : decode cX6_over 175 = .ok (.iconst 1, 1) := by decide +kernel
theorem dX6_over_176 : decode cX6_over 176 = .ok (.lshl, 1) := by decide +kernel
theorem dX6_over_177 : decode cX6_over 177 = .ok (.lload 10, 2) := by decide +kernel
theorem dX6_over_179 : decode cX6_over 179 = .ok (.lload 6, 2) := by decide +kernel
theorem dX6_over_181 : decode cX6_over 181 = .ok (.lcmp, 1) := by decide +kernel
theorem dX6_over_182 : decode cX6_over 182 = .ok (.ifCond .lt 7, 3) := by decide +kernel
theorem dX6_over_185 : decode cX6_over 185 = .ok (.lconst 1, 1) := by decide +kernel
theorem dX6_over_186 : decode cX6_over 186 = .ok (.goto 4, 3) := by decide +kernel
theorem dX6_over_189 : decode cX6_over 189 = .ok (.lconst 0, 1) := by decide +kernel
theorem dX6_over_190 : decode cX6_over 190 = .ok (.lor, 1) := by decide +kernel
theorem dX6_over_191 : decode cX6_over 191 = .ok (.lstore 8, 2) := by decide +kernel
theorem dX6_over_193 : decode cX6_over 193 = .ok (.lload 10, 2) := by decide +kernel
theorem dX6_over_195 : decode cX6_over 195 = .ok (.lload 10, 2) := by decide +kernel
theorem dX6_over_197 : decode cX6_over 197 = .ok (.lload 6, 2) := by decide +kernel
theorem dX6_over_199 : decode cX6_over 199 = .ok (.lcmp, 1) := by decide +kernel
theorem dX6_over_200 : decode cX6_over 200 = .ok (.ifCond .lt 8, 3) := by decide +kernel
theorem dX6_over_203 : decode cX6_over 203 = .ok (.lload 6, 2) := by decide +kernel
theorem dX6_over_205 : decode cX6_over 205 = .ok (.goto 4, 3) := by decide +kernel
theorem dX6_over_208 : decode cX6_over 208 = .ok (.lconst 0, 1) := by decide +kernel
theorem dX6_over_209 : decode cX6_over 209 = .ok (.lsub, 1) := by decide +kernel
theorem dX6_over_210 : decode cX6_over 210 = .ok (.lstore 10, 2) := by decide +kernel
theorem dX6_over_212 : decode cX6_over 212 = .ok (.iinc 12 (-1), 3) := by decide +kernel
theorem dX6_over_215 : decode cX6_over 215 = .ok (.goto (-58), 3) := by decide +kernel
theorem dX6_over_218 : decode cX6_over 218 = .ok (.iload 5, 2) := by decide +kernel
theorem dX6_over_220 : decode cX6_over 220 = .ok (.lload 8, 2) := by decide +kernel
theorem dX6_over_222 : decode cX6_over 222 = .ok (.iload 12, 2) := by decide +kernel
theorem dX6_over_224 : decode cX6_over 224 = .ok (.lload 10, 2) := by decide +kernel
theorem dX6_over_226 : decode cX6_over 226 = .ok (.lconst 0, 1) := by decide +kernel
theorem dX6_over_227 : decode cX6_over 227 = .ok (.lcmp, 1) := by decide +kernel
theorem dX6_over_228 : decode cX6_over 228 = .ok (.ifCond .eq 7, 3) := by decide +kernel
theorem dX6_over_231 : decode cX6_over 231 = .ok (.iconst 1, 1) := by decide +kernel
theorem dX6_over_232 : decode cX6_over 232 = .ok (.goto 4, 3) := by decide +kernel
theorem dX6_over_235 : decode cX6_over 235 = .ok (.iconst 0, 1) := by decide +kernel
theorem dX6_over_236 : decode cX6_over 236 = .ok (.iload 4, 2) := by decide +kernel
theorem dX6_over_238 : decode cX6_over 238 = .ok (.invokestatic 90, 3) := by decide +kernel
theorem dX6_over_241 : decode cX6_over 241 = .ok (.lreturn, 1) := by decide +kernel
theorem dX6_left_0 : decode cX6_left 0 = .ok (.lload_n 0, 1) := by decide +kernel
theorem dX6_left_1 : decode cX6_left 1 = .ok (.invokestatic 74, 3) := by decide +kernel
theorem dX6_left_4 : decode cX6_left 4 = .ok (.ifCond .ne 24, 3) := by decide +kernel
theorem dX6_left_7 : decode cX6_left 7 = .ok (.lload_n 2, 1) := by decide +kernel
theorem dX6_left_8 : decode cX6_left 8 = .ok (.invokestatic 74, 3) := by decide +kernel
theorem dX6_left_11 : decode cX6_left 11 = .ok (.ifCond .ne 17, 3) := by decide +kernel
theorem dX6_left_14 : decode cX6_left 14 = .ok (.lload_n 0, 1) := by decide +kernel
theorem dX6_left_15 : decode cX6_left 15 = .ok (.invokestatic 80, 3) := by decide +kernel
theorem dX6_left_18 : decode cX6_left 18 = .ok (.ifCond .ne 10, 3) := by decide +kernel
theorem dX6_left_21 : decode cX6_left 21 = .ok (.lload_n 2, 1) := by decide +kernel
theorem dX6_left_22 : decode cX6_left 22 = .ok (.invokestatic 102, 3) := by decide +kernel
theorem dX6_left_25 : decode cX6_left 25 = .ok (.ifCond .eq 7, 3) := by decide +kernel
theorem dX6_left_28 : decode cX6_left 28 = .ok (.ldc2_w 78, 3) := by decide +kernel
theorem dX6_left_31 : decode cX6_left 31 = .ok (.lreturn, 1) := by decide +kernel
theorem dX6_left_32 : decode cX6_left 32 = .ok (.lload_n 2, 1) := by decide +kernel
theorem dX6_left_33 : decode cX6_left 33 = .ok (.invokestatic 80, 3) := by decide +kernel
theorem dX6_left_36 : decode cX6_left 36 = .ok (.ifCond .ne 10, 3) := by decide +kernel
theorem dX6_left_39 : decode cX6_left 39 = .ok (.lload_n 0, 1) := by decide +kernel
theorem dX6_left_40 : decode cX6_left 40 = .ok (.invokestatic 102, 3) := by decide +kernel
theorem dX6_left_43 : decode cX6_left 43 = .ok (.ifCond .eq 5, 3) := by decide +kernel
theorem dX6_left_46 : decode cX6_left 46 = .ok (.lload_n 0, 1) := by decide +kernel
theorem dX6_left_47 : decode cX6_left 47 = .ok (.lreturn, 1) := by decide +kernel
theorem dX6_left_48 : decode cX6_left 48 = .ok (.lload_n 0, 1) := by decide +kernel
theorem dX6_left_49 : decode cX6_left 49 = .ok (.invokestatic 83, 3) := by decide +kernel
theorem dX6_left_52 : decode cX6_left 52 = .ok (.lstore 4, 2) := by decide +kernel
theorem dX6_left_54 : decode cX6_left 54 = .ok (.lload_n 2, 1) := by decide +kernel
theorem dX6_left_55 : decode cX6_left 55 = .ok (.invokestatic 83, 3) := by decide +kernel
theorem dX6_left_58 : decode cX6_left 58 = .ok (.lstore 6, 2) := by decide +kernel
theorem dX6_left_60 : decode cX6_left 60 = .ok (.lload_n 0, 1) := by decide +kernel
theorem dX6_left_61 : decode cX6_left 61 = .ok (.invokestatic 87, 3) := by decide +kernel
theorem dX6_left_64 : decode cX6_left 64 = .ok (.lload_n 2, 1) := by decide +kernel
theorem dX6_left_65 : decode cX6_left 65 = .ok (.invokestatic 87, 3) := by decide +kernel
theorem dX6_left_68 : decode cX6_left 68 = .ok (.isub, 1) := by decide +kernel
theorem dX6_left_69 : decode cX6_left 69 = .ok (.istore 8, 2) := by decide +kernel
theorem dX6_left_71 : decode cX6_left 71 = .ok (.iload 8, 2) := by decide +kernel
theorem dX6_left_73 : decode cX6_left 73 = .ok (.ifCond .ge 46, 3) := by decide +kernel
theorem dX6_left_76 : decode cX6_left 76 = .ok (.lload 6, 2) := by decide +kernel
theorem dX6_left_78 : decode cX6_left 78 = .ok (.invokestatic 56, 3) := by decide +kernel
theorem dX6_left_81 : decode cX6_left 81 = .ok (.iload 8, 2) := by decide +kernel
theorem dX6_left_83 : decode cX6_left 83 = .ok (.isub, 1) := by decide +kernel
theorem dX6_left_84 : decode cX6_left 84 = .ok (.bipush 62, 2) := by decide +kernel
theorem dX6_left_86 : decode cX6_left 86 = .ok (.if_icmp .le 5, 3) := by decide +kernel
theorem dX6_left_89 : decode cX6_left 89 = .ok (.lload_n 0, 1) := by decide +kernel
theorem dX6_left_90 : decode cX6_left 90 = .ok (.lreturn, 1) := by decide +kernel
theorem dX6_left_91 : decode cX6_left 91 = .ok (.lload_n 0, 1) := by decide +kernel
theorem dX6_left_92 : decode cX6_left 92 = .ok (.lconst 0, 1) := by decide +kernel
theorem dX6_left_93 : decode cX6_left 93 = .ok (.lcmp, 1) := by decide +kernel
theorem dX6_left_94 : decode cX6_left 94 = .ok (.ifCond .ge 7, 3) := by decide +kernel
theorem dX6_left_97 : decode cX6_left 97 = .ok (.iconst 1, 1) := by decide +kernel
theorem dX6_left_98 : decode cX6_left 98 = .ok (.goto 4, 3) := by decide +kernel
theorem dX6_left_101 : decode cX6_left 101 = .ok (.iconst 0, 1) := by decide +kernel
theorem dX6_left_102 : decode cX6_left 102 = .ok (.lload 4, 2) := by decide +kernel
theorem dX6_left_104 : decode cX6_left 104 = .ok (.lload 6, 2) := by decide +kernel
theorem dX6_left_106 : decode cX6_left 106 = .ok (.iload 8, 2) := by decide +kernel
theorem dX6_left_108 : decode cX6_left 108 = .ok (.ineg, 1) := by decide +kernel
theorem dX6_left_109 : decode cX6_left 109 = .ok (.lshl, 1) := by decide +kernel
theorem dX6_left_110 : decode cX6_left 110 = .ok (.lrem, 1) := by decide +kernel
theorem dX6_left_111 : decode cX6_left 111 = .ok (.lload_n 0, 1) := by decide +kernel
theorem dX6_left_112 : decode cX6_left 112 = .ok (.invokestatic 87, 3) := by decide +kernel
theorem dX6_left_115 : decode cX6_left 115 = .ok (.invokestatic 70, 3) := by decide +kernel
theorem dX6_left_118 : decode cX6_left 118 = .ok (.lreturn, 1) := by decide +kernel
theorem dX6_left_119 : decode cX6_left 119 = .ok (.lload 4, 2) := by decide +kernel
theorem dX6_left_121 : decode cX6_left 121 = .ok (.lload 6, 2) := by decide +kernel
theorem dX6_left_123 : decode cX6_left 123 = .ok (.lrem, 1) := by decide +kernel
theorem dX6_left_124 : decode cX6_left 124 = .ok (.lstore 9, 2) := by decide +kernel
theorem dX6_left_126 : decode cX6_left 126 = .ok (.iconst 0, 1) := by decide +kernel
theorem dX6_left_127 : decode cX6_left 127 = .ok (.istore 11, 2) := by decide +kernel
theorem dX6_left_129 : decode cX6_left 129 = .ok (.iload 11, 2) := by decide +kernel
theorem dX6_left_131 : decode cX6_left 131 = .ok (.iload 8, 2) := by decide +kernel
theorem dX6_left_133 : decode cX6_left 133 = .ok (.if_icmp .ge 20, 3) := by decide +kernel
theorem dX6_left_136 : decode cX6_left 136 = .ok (.lload 9, 2) := by decide +kernel
theorem dX6_left_138 : decode cX6_left 138 = .ok (.ldc2_w 115, 3) := by decide +kernel
theorem dX6_left_141 : decode cX6_left 141 = .ok (.lmul, 1) := by decide +kernel
theorem dX6_left_142 : decode cX6_left 142 = .ok (.lload 6, 2) := by decide +kernel
theorem dX6_left_144 : decode cX6_left 144 = .ok (.lrem, 1) := by decide +kernel
theorem dX6_left_145 : decode cX6_left 145 = .ok (.lstore 9, 2) := by decide +kernel
theorem dX6_left_147 : decode cX6_left 147 = .ok (.iinc 11 1, 3) := by decide +kernel
theorem dX6_left_150 : decode cX6_left 150 = .ok (.goto (-21), 3) := by decide +kernel
theorem dX6_left_153 : decode cX6_left 153 = .ok (.lload_n 0, 1) := by decide +kernel
theorem dX6_left_154 : decode cX6_left 154 = .ok (.lconst 0, 1) := by decide +kernel
theorem dX6_left_155 : decode cX6_left 155 = .ok (.lcmp, 1) := by decide +kernel
theorem dX6_left_156 : decode cX6_left 156 = .ok (.ifCond .ge 7, 3) := by decide +kernel
theorem dX6_left_159 : decode cX6_left 159 = .ok (.iconst 1, 1) := by decide +kernel
theorem dX6_left_160 : decode cX6_left 160 = .ok (.goto 4, 3) := by decide +kernel
theorem dX6_left_163 : decode cX6_left 163 = .ok (.iconst 0, 1) := by decide +kernel
theorem dX6_left_164 : decode cX6_left 164 = .ok (.lload 9, 2) := by decide +kernel
theorem dX6_left_166 : decode cX6_left 166 = .ok (.lload_n 2, 1) := by decide +kernel
theorem dX6_left_167 : decode cX6_left 167 = .ok (.invokestatic 87, 3) := by decide +kernel
theorem dX6_left_170 : decode cX6_left 170 = .ok (.invokestatic 70, 3) := by decide +kernel
theorem dX6_left_173 : decode cX6_left 173 = .ok (.lreturn, 1) := by decide +kernel
theorem dX6_cut_0 : decode cX6_cut 0 = .ok (.lload_n 0, 1) := by decide +kernel
theorem dX6_cut_1 : decode cX6_cut 1 = .ok (.invokestatic 74, 3) := by decide +kernel
theorem dX6_cut_4 : decode cX6_cut 4 = .ok (.ifCond .ne 24, 3) := by decide +kernel
theorem dX6_cut_7 : decode cX6_cut 7 = .ok (.lload_n 0, 1) := by decide +kernel
theorem dX6_cut_8 : decode cX6_cut 8 = .ok (.invokestatic 80, 3) := by decide +kernel
theorem dX6_cut_11 : decode cX6_cut 11 = .ok (.ifCond .ne 17, 3) := by decide +kernel
theorem dX6_cut_14 : decode cX6_cut 14 = .ok (.lload_n 0, 1) := by decide +kernel
theorem dX6_cut_15 : decode cX6_cut 15 = .ok (.invokestatic 102, 3) := by decide +kernel
theorem dX6_cut_18 : decode cX6_cut 18 = .ok (.ifCond .ne 10, 3) := by decide +kernel
theorem dX6_cut_21 : decode cX6_cut 21 = .ok (.lload_n 0, 1) := by decide +kernel
theorem dX6_cut_22 : decode cX6_cut 22 = .ok (.invokestatic 87, 3) := by decide +kernel
theorem dX6_cut_25 : decode cX6_cut 25 = .ok (.ifCond .lt 18, 3) := by decide +kernel
theorem dX6_cut_28 : decode cX6_cut 28 = .ok (.lload_n 0, 1) := by decide +kernel
theorem dX6_cut_29 : decode cX6_cut 29 = .ok (.invokestatic 74, 3) := by decide +kernel
theorem dX6_cut_32 : decode cX6_cut 32 = .ok (.ifCond .eq 9, 3) := by decide +kernel
theorem dX6_cut_35 : decode cX6_cut 35 = .ok (.ldc2_w 78, 3) := by decide +kernel
theorem dX6_cut_38 : decode cX6_cut 38 = .ok (.goto 4, 3) := by decide +kernel
theorem dX6_cut_41 : decode cX6_cut 41 = .ok (.lload_n 0, 1) := by decide +kernel
theorem dX6_cut_42 : decode cX6_cut 42 = .ok (.lreturn, 1) := by decide +kernel
theorem dX6_cut_43 : decode cX6_cut 43 = .ok (.lload_n 0, 1) := by decide +kernel
theorem dX6_cut_44 : decode cX6_cut 44 = .ok (.invokestatic 83, 3) := by decide +kernel
theorem dX6_cut_47 : decode cX6_cut 47 = .ok (.lstore_n 3, 1) := by decide +kernel
theorem dX6_cut_48 : decode cX6_cut 48 = .ok (.lload_n 0, 1) := by decide +kernel
theorem dX6_cut_49 : decode cX6_cut 49 = .ok (.invokestatic 87, 3) := by decide +kernel
theorem dX6_cut_52 : decode cX6_cut 52 = .ok (.ineg, 1) := by decide +kernel
theorem dX6_cut_53 : decode cX6_cut 53 = .ok (.istore 5, 2) := by decide +kernel
theorem dX6_cut_55 : decode cX6_cut 55 = .ok (.iload 5, 2) := by decide +kernel
theorem dX6_cut_57 : decode cX6_cut 57 = .ok (.bipush 62, 2) := by decide +kernel
theorem dX6_cut_59 : decode cX6_cut 59 = .ok (.if_icmp .le 7, 3) := by decide +kernel
theorem dX6_cut_62 : decode cX6_cut 62 = .ok (.lconst 0, 1) := by decide +kernel
theorem dX6_cut_63 : decode cX6_cut 63 = .ok (.goto 7, 3) := by decide +kernel
theorem dX6_cut_66 : decode cX6_cut 66 = .ok (.lload_n 3, 1) := by decide +kernel
theorem dX6_cut_67 : decode cX6_cut 67 = .ok (.iload 5, 2) := by decide +kernel
theorem dX6_cut_69 : decode cX6_cut 69 = .ok (.lshr, 1) := by decide +kernel
theorem dX6_cut_70 : decode cX6_cut 70 = .ok (.lstore 6, 2) := by decide +kernel
theorem dX6_cut_72 : decode cX6_cut 72 = .ok (.iload 5, 2) := by decide +kernel
theorem dX6_cut_74 : decode cX6_cut 74 = .ok (.bipush 62, 2) := by decide +kernel
theorem dX6_cut_76 : decode cX6_cut 76 = .ok (.if_icmp .le 7, 3) := by decide +kernel
theorem dX6_cut_79 : decode cX6_cut 79 = .ok (.lload_n 3, 1) := by decide +kernel
theorem dX6_cut_80 : decode cX6_cut 80 = .ok (.goto 11, 3) := by decide +kernel
theorem dX6_cut_83 : decode cX6_cut 83 = .ok (.lload_n 3, 1) := by decide +kernel
theorem dX6_cut_84 : decode cX6_cut 84 = .ok (.lconst 1, 1) := by decide +kernel
theorem dX6_cut_85 : decode cX6_cut 85 = .ok (.iload 5, 2) := by decide +kernel
theorem dX6_cut_87 : decode cX6_cut 87 = .ok (.lshl, 1) := by decide +kernel
theorem dX6_cut_88 : decode cX6_cut 88 = .ok (.lconst 1, 1) := by decide +kernel
theorem dX6_cut_89 : decode cX6_cut 89 = .ok (.lsub, 1) := by decide +kernel
theorem dX6_cut_90 : decode cX6_cut 90 = .ok (.land, 1) := by decide +kernel
theorem dX6_cut_91 : decode cX6_cut 91 = .ok (.lstore 8, 2) := by decide +kernel
theorem dX6_cut_93 : decode cX6_cut 93 = .ok (.iconst 0, 1) := by decide +kernel
theorem dX6_cut_94 : decode cX6_cut 94 = .ok (.istore 10, 2) := by decide +kernel
theorem dX6_cut_96 : decode cX6_cut 96 = .ok (.iload_n 2, 1) := by decide +kernel
theorem dX6_cut_97 : decode cX6_cut 97 = .ok (.iconst 2, 1) := by decide +kernel
theorem dX6_cut_98 : decode cX6_cut 98 = .ok (.if_icmp .ge 43, 3) := by decide +kernel
theorem dX6_cut_101 : decode cX6_cut 101 = .ok (.lload 8, 2) := by decide +kernel
theorem dX6_cut_103 : decode cX6_cut 103 = .ok (.lconst 0, 1) := by decide +kernel
theorem dX6_cut_104 : decode cX6_cut 104 = .ok (.lcmp, 1) := by decide +kernel
theorem dX6_cut_105 : decode cX6_cut 105 = .ok (.ifCond .eq 30, 3) := by decide +kernel
theorem dX6_cut_108 : decode cX6_cut 108 = .ok (.lload_n 0, 1) := by decide +kernel
theorem dX6_cut_109 : decode cX6_cut 109 = .ok (.lconst 0, 1) := by decide +kernel
theorem dX6_cut_110 : decode cX6_cut 110 = .ok (.lcmp, 1) := by decide +kernel
theorem dX6_cut_111 : decode cX6_cut 111 = .ok (.ifCond .ge 7, 3) := by decide +kernel
theorem dX6_cut_114 : decode cX6_cut 114 = .ok (.iconst 1, 1) := by decide +kernel
theorem dX6_cut_115 : decode cX6_cut 115 = .ok (.goto 4, 3) := by decide +kernel
theorem dX6_cut_118 : decode cX6_cut 118 = .ok (.iconst 0, 1) := by decide +kernel
theorem dX6_cut_119 : decode cX6_cut 119 = .ok (.iload_n 2, 1) := by decide +kernel
theorem dX6_cut_120 : decode cX6_cut 120 = .ok (.ifCond .ne 7, 3) := by decide +kernel
theorem dX6_cut_123 : decode cX6_cut 123 = .ok (.iconst 1, 1) := by decide +kernel
theorem dX6_cut_124 : decode cX6_cut 124 = .ok (.goto 4, 3) := by decide +kernel
theorem dX6_cut_127 : decode cX6_cut 127 = .ok (.iconst 0, 1) := by decide +kernel
theorem dX6_cut_128 : decode cX6_cut 128 = .ok (.if_icmp .ne 7, 3) := by decide +kernel
theorem dX6_cut_131 : decode cX6_cut 131 = .ok (.iconst 1, 1) := by decide +kernel
theorem dX6_cut_132 : decode cX6_cut 132 = .ok (.goto 4, 3) := by decide +kernel
theorem dX6_cut_135 : decode cX6_cut 135 = .ok (.iconst 0, 1) := by decide +kernel
theorem dX6_cut_136 : decode cX6_cut 136 = .ok (.istore 10, 2) := by decide +kernel
theorem dX6_cut_138 : decode cX6_cut 138 = .ok (.goto 55, 3) := by decide +kernel
theorem dX6_cut_141 : decode cX6_cut 141 = .ok (.iload_n 2, 1) := by decide +kernel
theorem dX6_cut_142 : decode cX6_cut 142 = .ok (.iconst 2, 1) := by decide +kernel
theorem dX6_cut_143 : decode cX6_cut 143 = .ok (.if_icmp .ne 50, 3) := by decide +kernel
theorem dX6_cut_146 : decode cX6_cut 146 = .ok (.iload 5, 2) := by decide +kernel
theorem dX6_cut_148 : decode cX6_cut 148 = .ok (.bipush 62, 2) := by decide +kernel
theorem dX6_cut_150 : decode cX6_cut 150 = .ok (.if_icmp .gt 43, 3) := by decide +kernel
theorem dX6_cut_153 : decode cX6_cut 153 = .ok (.lconst 1, 1) := by decide +kernel
theorem dX6_cut_154 : decode cX6_cut 154 = .ok (.iload 5, 2) := by decide +kernel
theorem dX6_cut_156 : decode cX6_cut 156 = .ok (.iconst 1, 1) := by decide +kernel
theorem dX6_cut_157 : decode cX6_cut 157 = .ok (.isub, 1) := by decide +kernel
theorem dX6_cut_158 : decode cX6_cut 158 = .ok (.lshl, 1) := by decide +kernel
theorem dX6_cut_159 : decode cX6_cut 159 = .ok (.lstore 11, 2) := by decide +kernel
theorem dX6_cut_161 : decode cX6_cut 161 = .ok (.lload 8, 2) := by decide +kernel
theorem dX6_cut_163 : decode cX6_cut 163 = .ok (.lload 11, 2) := by decide +kernel
theorem dX6_cut_165 : decode cX6_cut 165 = .ok (.lcmp, 1) := by decide +kernel
theorem dX6_cut_166 : decode cX6_cut 166 = .ok (.ifCond .gt 20, 3) := by decide +kernel
theorem dX6_cut_169 : decode cX6_cut 169 = .ok (.lload 8, 2) := by decide +kernel
theorem dX6_cut_171 : decode cX6_cut 171 = .ok (.lload 11, 2) := by decide +kernel
theorem dX6_cut_173 : decode cX6_cut 173 = .ok (.lcmp, 1) := by decide +kernel
theorem dX6_cut_174 : decode cX6_cut 174 = .ok (.ifCond .ne 16, 3) := by decide +kernel
theorem dX6_cut_177 : decode cX6_cut 177 = .ok (.lload 6, 2) := by decide +kernel
theorem dX6_cut_179 : decode cX6_cut 179 = .ok (.lconst 1, 1) := by decide +kernel
theorem dX6_cut_180 : decode cX6_cut 180 = .ok (.land, 1) := by decide +kernel
theorem dX6_cut_181 : decode cX6_cut 181 = .ok (.lconst 1, 1) := by decide +kernel
theorem dX6_cut_182 : decode cX6_cut 182 = .ok (.lcmp, 1) := by decide +kernel
theorem dX6_cut_183 : decode cX6_cut 183 = .ok (.ifCond .ne 7, 3) := by decide +kernel
theorem dX6_cut_186 : decode cX6_cut 186 = .ok (.iconst 1, 1) := by decide +kernel
theorem dX6_cut_187 : decode cX6_cut 187 = .ok (.goto 4, 3) := by decide +kernel
theorem dX6_cut_190 : decode cX6_cut 190 = .ok (.iconst 0, 1) := by decide +kernel
theorem dX6_cut_191 : decode cX6_cut 191 = .ok (.istore 10, 2) := by decide +kernel
theorem dX6_cut_193 : decode cX6_cut 193 = .ok (.lload_n 0, 1) := by decide +kernel
theorem dX6_cut_194 : decode cX6_cut 194 = .ok (.lconst 0, 1) := by decide +kernel
theorem dX6_cut_195 : decode cX6_cut 195 = .ok (.lcmp, 1) := by decide +kernel
theorem dX6_cut_196 : decode cX6_cut 196 = .ok (.ifCond .ge 7, 3) := by decide +kernel
theorem dX6_cut_199 : decode cX6_cut 199 = .ok (.iconst 1, 1) := by decide +kernel
theorem dX6_cut_200 : decode cX6_cut 200 = .ok (.goto 4, 3) := by decide +kernel
theorem dX6_cut_203 : decode cX6_cut 203 = .ok (.iconst 0, 1) := by decide +kernel
theorem dX6_cut_204 : decode cX6_cut 204 = .ok (.iload 10, 2) := by decide +kernel
theorem dX6_cut_206 : decode cX6_cut 206 = .ok (.ifCond .eq 10, 3) := by decide +kernel
theorem dX6_cut_209 : decode cX6_cut 209 = .ok (.lload 6, 2) := by decide +kernel
theorem dX6_cut_211 : decode cX6_cut 211 = .ok (.lconst 1, 1) := by decide +kernel
theorem dX6_cut_212 : decode cX6_cut 212 = .ok (.ladd, 1) := by decide +kernel
theorem dX6_cut_213 : decode cX6_cut 213 = .ok (.goto 5, 3) := by decide +kernel
theorem dX6_cut_216 : decode cX6_cut 216 = .ok (.lload 6, 2) := by decide +kernel
theorem dX6_cut_218 : decode cX6_cut 218 = .ok (.iconst 0, 1) := by decide +kernel
theorem dX6_cut_219 : decode cX6_cut 219 = .ok (.invokestatic 70, 3) := by decide +kernel
theorem dX6_cut_222 : decode cX6_cut 222 = .ok (.lreturn, 1) := by decide +kernel
theorem dX6_rank_0 : decode cX6_rank 0 = .ok (.lload_n 0, 1) := by decide +kernel
theorem dX6_rank_1 : decode cX6_rank 1 = .ok (.lconst 0, 1) := by decide +kernel
theorem dX6_rank_2 : decode cX6_rank 2 = .ok (.lcmp, 1) := by decide +kernel
theorem dX6_rank_3 : decode cX6_rank 3 = .ok (.ifCond .ge 15, 3) := by decide +kernel
theorem dX6_rank_6 : decode cX6_rank 6 = .ok (.ldc2_w 117, 3) := by decide +kernel
theorem dX6_rank_9 : decode cX6_rank 9 = .ok (.lload_n 0, 1) := by decide +kernel
theorem dX6_rank_10 : decode cX6_rank 10 = .ok (.ldc2_w 40, 3) := by decide +kernel
theorem dX6_rank_13 : decode cX6_rank 13 = .ok (.land, 1) := by decide +kernel
theorem dX6_rank_14 : decode cX6_rank 14 = .ok (.lsub, 1) := by decide +kernel
theorem dX6_rank_15 : decode cX6_rank 15 = .ok (.goto 4, 3) := by decide +kernel
theorem dX6_rank_18 : decode cX6_rank 18 = .ok (.lload_n 0, 1) := by decide +kernel
theorem dX6_rank_19 : decode cX6_rank 19 = .ok (.lreturn, 1) := by decide +kernel
theorem dX6_number_0 : decode cX6_number 0 = .ok (.lload_n 0, 1) := by decide +kernel
theorem dX6_number_1 : decode cX6_number 1 = .ok (.invokestatic 74, 3) := by decide +kernel
theorem dX6_number_4 : decode cX6_number 4 = .ok (.ifCond .eq 5, 3) := by decide +kernel
theorem dX6_number_7 : decode cX6_number 7 = .ok (.lconst 0, 1) := by decide +kernel
theorem dX6_number_8 : decode cX6_number 8 = .ok (.lreturn, 1) := by decide +kernel
theorem dX6_number_9 : decode cX6_number 9 = .ok (.lload_n 0, 1) := by decide +kernel
theorem dX6_number_10 : decode cX6_number 10 = .ok (.lconst 0, 1) := by decide +kernel
theorem dX6_number_11 : decode cX6_number 11 = .ok (.lcmp, 1) := by decide +kernel
theorem dX6_number_12 : decode cX6_number 12 = .ok (.ifCond .ge 7, 3) := by decide +kernel
theorem dX6_number_15 : decode cX6_number 15 = .ok (.iconst 1, 1) := by decide +kernel
theorem dX6_number_16 : decode cX6_number 16 = .ok (.goto 4, 3) := by decide +kernel
theorem dX6_number_19 : decode cX6_number 19 = .ok (.iconst 0, 1) := by decide +kernel
theorem dX6_number_20 : decode cX6_number 20 = .ok (.istore 6, 2) := by decide +kernel
theorem dX6_number_22 : decode cX6_number 22 = .ok (.lload_n 0, 1) := by decide +kernel
theorem dX6_number_23 : decode cX6_number 23 = .ok (.invokestatic 83, 3) := by decide +kernel
theorem dX6_number_26 : decode cX6_number 26 = .ok (.invokestatic 56, 3) := by decide +kernel
theorem dX6_number_29 : decode cX6_number 29 = .ok (.lload_n 0, 1) := by decide +kernel
theorem dX6_number_30 : decode cX6_number 30 = .ok (.invokestatic 87, 3) := by decide +kernel
theorem dX6_number_33 : decode cX6_number 33 = .ok (.iadd, 1) := by decide +kernel
theorem dX6_number_34 : decode cX6_number 34 = .ok (.iconst 1, 1) := by decide +kernel
theorem dX6_number_35 : decode cX6_number 35 = .ok (.isub, 1) := by decide +kernel
theorem dX6_number_36 : decode cX6_number 36 = .ok (.istore 7, 2) := by decide +kernel
theorem dX6_number_38 : decode cX6_number 38 = .ok (.lload_n 0, 1) := by decide +kernel
theorem dX6_number_39 : decode cX6_number 39 = .ok (.invokestatic 80, 3) := by decide +kernel
theorem dX6_number_42 : decode cX6_number 42 = .ok (.ifCond .ne 17, 3) := by decide +kernel
theorem dX6_number_45 : decode cX6_number 45 = .ok (.lload_n 0, 1) := by decide +kernel
theorem dX6_number_46 : decode cX6_number 46 = .ok (.invokestatic 102, 3) := by decide +kernel
theorem dX6_number_49 : decode cX6_number 49 = .ok (.ifCond .ne 22, 3) := by decide +kernel
theorem dX6_number_52 : decode cX6_number 52 = .ok (.iload 7, 2) := by decide +kernel
theorem dX6_number_54 : decode cX6_number 54 = .ok (.bipush 62, 2) := by decide +kernel
theorem dX6_number_56 : decode cX6_number 56 = .ok (.if_icmp .le 15, 3) := by decide +kernel
theorem dX6_number_59 : decode cX6_number 59 = .ok (.iload 6, 2) := by decide +kernel
theorem dX6_number_61 : decode cX6_number 61 = .ok (.ifCond .eq 7, 3) := by decide +kernel
theorem dX6_number_64 : decode cX6_number 64 = .ok (.lload_n 2, 1) := by decide +kernel
theorem dX6_number_65 : decode cX6_number 65 = .ok (.goto 5, 3) := by decide +kernel
theorem dX6_number_68 : decode cX6_number 68 = .ok (.lload 4, 2) := by decide +kernel
theorem dX6_number_70 : decode cX6_number 70 = .ok (.lreturn, 1) := by decide +kernel
theorem dX6_number_71 : decode cX6_number 71 = .ok (.lload_n 0, 1) := by decide +kernel
theorem dX6_number_72 : decode cX6_number 72 = .ok (.invokestatic 87, 3) := by decide +kernel
theorem dX6_number_75 : decode cX6_number 75 = .ok (.istore 8, 2) := by decide +kernel
theorem dX6_number_77 : decode cX6_number 77 = .ok (.iload 8, 2) := by decide +kernel
theorem dX6_number_79 : decode cX6_number 79 = .ok (.ifCond .lt 13, 3) := by decide +kernel
theorem dX6_number_82 : decode cX6_number 82 = .ok (.lload_n 0, 1) := by decide +kernel
theorem dX6_number_83 : decode cX6_number 83 = .ok (.invokestatic 83, 3) := by decide +kernel
theorem dX6_number_86 : decode cX6_number 86 = .ok (.iload 8, 2) := by decide +kernel
theorem dX6_number_88 : decode cX6_number 88 = .ok (.lshl, 1) := by decide +kernel
theorem dX6_number_89 : decode cX6_number 89 = .ok (.goto 23, 3) := by decide +kernel
theorem dX6_number_92 : decode cX6_number 92 = .ok (.iload 8, 2) := by decide +kernel
theorem dX6_number_94 : decode cX6_number 94 = .ok (.ineg, 1) := by decide +kernel
theorem dX6_number_95 : decode cX6_number 95 = .ok (.bipush 62, 2) := by decide +kernel
theorem dX6_number_97 : decode cX6_number 97 = .ok (.if_icmp .le 7, 3) := by decide +kernel
theorem dX6_number_100 : decode cX6_number 100 = .ok (.lconst 0, 1) := by decide +kernel
theorem dX6_number_101 : decode cX6_number 101 = .ok (.goto 11, 3) := by decide +kernel
theorem dX6_number_104 : decode cX6_number 104 = .ok (.lload_n 0, 1) := by decide +kernel
theorem dX6_number_105 : decode cX6_number 105 = .ok (.invokestatic 83, 3) := by decide +kernel
theorem dX6_number_108 : decode cX6_number 108 = .ok (.iload 8, 2) := by decide +kernel
theorem dX6_number_110 : decode cX6_number 110 = .ok (.ineg, 1) := by decide +kernel
theorem dX6_number_111 : decode cX6_number 111 = .ok (.lshr, 1) := by decide +kernel
theorem dX6_number_112 : decode cX6_number 112 = .ok (.lstore 9, 2) := by decide +kernel
theorem dX6_number_114 : decode cX6_number 114 = .ok (.iload 6, 2) := by decide +kernel
theorem dX6_number_116 : decode cX6_number 116 = .ok (.ifCond .eq 9, 3) := by decide +kernel
theorem dX6_number_119 : decode cX6_number 119 = .ok (.lload 9, 2) := by decide +kernel
theorem dX6_number_121 : decode cX6_number 121 = .ok (.lneg, 1) := by decide +kernel
theorem dX6_number_122 : decode cX6_number 122 = .ok (.goto 5, 3) := by decide +kernel
theorem dX6_number_125 : decode cX6_number 125 = .ok (.lload 9, 2) := by decide +kernel
theorem dX6_number_127 : decode cX6_number 127 = .ok (.lstore 9, 2) := by decide +kernel
theorem dX6_number_129 : decode cX6_number 129 = .ok (.lload 9, 2) := by decide +kernel
theorem dX6_number_131 : decode cX6_number 131 = .ok (.lload_n 2, 1) := by decide +kernel
theorem dX6_number_132 : decode cX6_number 132 = .ok (.lcmp, 1) := by decide +kernel
theorem dX6_number_133 : decode cX6_number 133 = .ok (.ifCond .ge 7, 3) := by decide +kernel
theorem dX6_number_136 : decode cX6_number 136 = .ok (.lload_n 2, 1) := by decide +kernel
theorem dX6_number_137 : decode cX6_number 137 = .ok (.goto 18, 3) := by decide +kernel
theorem dX6_number_140 : decode cX6_number 140 = .ok (.lload 9, 2) := by decide +kernel
theorem dX6_number_142 : decode cX6_number 142 = .ok (.lload 4, 2) := by decide +kernel
theorem dX6_number_144 : decode cX6_number 144 = .ok (.lcmp, 1) := by decide +kernel
theorem dX6_number_145 : decode cX6_number 145 = .ok (.ifCond .le 8, 3) := by decide +kernel
theorem dX6_number_148 : decode cX6_number 148 = .ok (.lload 4, 2) := by decide +kernel
theorem dX6_number_150 : decode cX6_number 150 = .ok (.goto 5, 3) := by decide +kernel
theorem dX6_number_153 : decode cX6_number 153 = .ok (.lload 9, 2) := by decide +kernel
theorem dX6_number_155 : decode cX6_number 155 = .ok (.lreturn, 1) := by decide +kernel
theorem dX6_kept_0 : decode cX6_kept 0 = .ok (.iload_n 2, 1) := by decide +kernel
theorem dX6_kept_1 : decode cX6_kept 1 = .ok (.tableswitch 71 0 4 #[35, 39, 44, 48, 50], 35) := by decide +kernel
theorem dX6_kept_36 : decode cX6_kept 36 = .ok (.lload_n 0, 1) := by decide +kernel
theorem dX6_kept_37 : decode cX6_kept 37 = .ok (.lconst 1, 1) := by decide +kernel
theorem dX6_kept_38 : decode cX6_kept 38 = .ok (.land, 1) := by decide +kernel
theorem dX6_kept_39 : decode cX6_kept 39 = .ok (.lreturn, 1) := by decide +kernel
theorem dX6_kept_40 : decode cX6_kept 40 = .ok (.lload_n 0, 1) := by decide +kernel
theorem dX6_kept_41 : decode cX6_kept 41 = .ok (.l2i, 1) := by decide +kernel
theorem dX6_kept_42 : decode cX6_kept 42 = .ok (.i2b, 1) := by decide +kernel
theorem dX6_kept_43 : decode cX6_kept 43 = .ok (.i2l, 1) := by decide +kernel
theorem dX6_kept_44 : decode cX6_kept 44 = .ok (.lreturn, 1) := by decide +kernel
theorem dX6_kept_45 : decode cX6_kept 45 = .ok (.lload_n 0, 1) := by decide +kernel
theorem dX6_kept_46 : decode cX6_kept 46 = .ok (.l2i, 1) := by decide +kernel
theorem dX6_kept_47 : decode cX6_kept 47 = .ok (.i2l, 1) := by decide +kernel
theorem dX6_kept_48 : decode cX6_kept 48 = .ok (.lreturn, 1) := by decide +kernel
theorem dX6_kept_49 : decode cX6_kept 49 = .ok (.lload_n 0, 1) := by decide +kernel
theorem dX6_kept_50 : decode cX6_kept 50 = .ok (.lreturn, 1) := by decide +kernel
theorem dX6_kept_51 : decode cX6_kept 51 = .ok (.lload_n 0, 1) := by decide +kernel
theorem dX6_kept_52 : decode cX6_kept 52 = .ok (.l2i, 1) := by decide +kernel
theorem dX6_kept_53 : decode cX6_kept 53 = .ok (.istore_n 3, 1) := by decide +kernel
theorem dX6_kept_54 : decode cX6_kept 54 = .ok (.iload_n 3, 1) := by decide +kernel
theorem dX6_kept_55 : decode cX6_kept 55 = .ok (.ldc 119, 2) := by decide +kernel
theorem dX6_kept_57 : decode cX6_kept 57 = .ok (.iand, 1) := by decide +kernel
theorem dX6_kept_58 : decode cX6_kept 58 = .ok (.ldc 120, 2) := by decide +kernel
theorem dX6_kept_60 : decode cX6_kept 60 = .ok (.if_icmp .le 9, 3) := by decide +kernel
theorem dX6_kept_63 : decode cX6_kept 63 = .ok (.ldc2_w 96, 3) := by decide +kernel
theorem dX6_kept_66 : decode cX6_kept 66 = .ok (.goto 5, 3) := by decide +kernel
theorem dX6_kept_69 : decode cX6_kept 69 = .ok (.iload_n 3, 1) := by decide +kernel
theorem dX6_kept_70 : decode cX6_kept 70 = .ok (.i2l, 1) := by decide +kernel
theorem dX6_kept_71 : decode cX6_kept 71 = .ok (.lreturn, 1) := by decide +kernel
theorem dX6_kept_72 : decode cX6_kept 72 = .ok (.lload_n 0, 1) := by decide +kernel
theorem dX6_kept_73 : decode cX6_kept 73 = .ok (.invokestatic 74, 3) := by decide +kernel
theorem dX6_kept_76 : decode cX6_kept 76 = .ok (.ifCond .eq 9, 3) := by decide +kernel
theorem dX6_kept_79 : decode cX6_kept 79 = .ok (.ldc2_w 78, 3) := by decide +kernel
theorem dX6_kept_82 : decode cX6_kept 82 = .ok (.goto 4, 3) := by decide +kernel
theorem dX6_kept_85 : decode cX6_kept 85 = .ok (.lload_n 0, 1) := by decide +kernel
theorem dX6_kept_86 : decode cX6_kept 86 = .ok (.lreturn, 1) := by decide +kernel
theorem dX6_to_0 : decode cX6_to 0 = .ok (.iload_n 2, 1) := by decide +kernel
theorem dX6_to_1 : decode cX6_to 1 = .ok (.iload_n 3, 1) := by decide +kernel
theorem dX6_to_2 : decode cX6_to 2 = .ok (.if_icmp .ne 5, 3) := by decide +kernel
theorem dX6_to_5 : decode cX6_to 5 = .ok (.lload_n 0, 1) := by decide +kernel
theorem dX6_to_6 : decode cX6_to 6 = .ok (.lreturn, 1) := by decide +kernel
theorem dX6_to_7 : decode cX6_to 7 = .ok (.iload_n 2, 1) := by decide +kernel
theorem dX6_to_8 : decode cX6_to 8 = .ok (.iconst 4, 1) := by decide +kernel
theorem dX6_to_9 : decode cX6_to 9 = .ok (.if_icmp .ge 53, 3) := by decide +kernel
theorem dX6_to_12 : decode cX6_to 12 = .ok (.iload_n 3, 1) := by decide +kernel
theorem dX6_to_13 : decode cX6_to 13 = .ok (.ifCond .ne 15, 3) := by decide +kernel
theorem dX6_to_16 : decode cX6_to 16 = .ok (.lload_n 0, 1) := by decide +kernel
theorem dX6_to_17 : decode cX6_to 17 = .ok (.lconst 0, 1) := by decide +kernel
theorem dX6_to_18 : decode cX6_to 18 = .ok (.lcmp, 1) := by decide +kernel
theorem dX6_to_19 : decode cX6_to 19 = .ok (.ifCond .eq 7, 3) := by decide +kernel
theorem dX6_to_22 : decode cX6_to 22 = .ok (.lconst 1, 1) := by decide +kernel
theorem dX6_to_23 : decode cX6_to 23 = .ok (.goto 4, 3) := by decide +kernel
theorem dX6_to_26 : decode cX6_to 26 = .ok (.lconst 0, 1) := by decide +kernel
theorem dX6_to_27 : decode cX6_to 27 = .ok (.lreturn, 1) := by decide +kernel
theorem dX6_to_28 : decode cX6_to 28 = .ok (.iload_n 3, 1) := by decide +kernel
theorem dX6_to_29 : decode cX6_to 29 = .ok (.iconst 4, 1) := by decide +kernel
theorem dX6_to_30 : decode cX6_to 30 = .ok (.if_icmp .ge 9, 3) := by decide +kernel
theorem dX6_to_33 : decode cX6_to 33 = .ok (.lload_n 0, 1) := by decide +kernel
theorem dX6_to_34 : decode cX6_to 34 = .ok (.iload_n 3, 1) := by decide +kernel
theorem dX6_to_35 : decode cX6_to 35 = .ok (.invokestatic 121, 3) := by decide +kernel
theorem dX6_to_38 : decode cX6_to 38 = .ok (.lreturn, 1) := by decide +kernel
theorem dX6_to_39 : decode cX6_to 39 = .ok (.lload_n 0, 1) := by decide +kernel
theorem dX6_to_40 : decode cX6_to 40 = .ok (.iload_n 3, 1) := by decide +kernel
theorem dX6_to_41 : decode cX6_to 41 = .ok (.invokestatic 125, 3) := by decide +kernel
theorem dX6_to_44 : decode cX6_to 44 = .ok (.lstore 4, 2) := by decide +kernel
theorem dX6_to_46 : decode cX6_to 46 = .ok (.iload_n 3, 1) := by decide +kernel
theorem dX6_to_47 : decode cX6_to 47 = .ok (.iconst 4, 1) := by decide +kernel
theorem dX6_to_48 : decode cX6_to 48 = .ok (.if_icmp .ne 11, 3) := by decide +kernel
theorem dX6_to_51 : decode cX6_to 51 = .ok (.lload 4, 2) := by decide +kernel
theorem dX6_to_53 : decode cX6_to 53 = .ok (.invokestatic 128, 3) := by decide +kernel
theorem dX6_to_56 : decode cX6_to 56 = .ok (.goto 5, 3) := by decide +kernel
theorem dX6_to_59 : decode cX6_to 59 = .ok (.lload 4, 2) := by decide +kernel
theorem dX6_to_61 : decode cX6_to 61 = .ok (.lreturn, 1) := by decide +kernel
theorem dX6_to_62 : decode cX6_to 62 = .ok (.iload_n 2, 1) := by decide +kernel
theorem dX6_to_63 : decode cX6_to 63 = .ok (.iconst 4, 1) := by decide +kernel
theorem dX6_to_64 : decode cX6_to 64 = .ok (.if_icmp .ne 10, 3) := by decide +kernel
theorem dX6_to_67 : decode cX6_to 67 = .ok (.lload_n 0, 1) := by decide +kernel
theorem dX6_to_68 : decode cX6_to 68 = .ok (.invokestatic 131, 3) := by decide +kernel
theorem dX6_to_71 : decode cX6_to 71 = .ok (.goto 4, 3) := by decide +kernel
theorem dX6_to_74 : decode cX6_to 74 = .ok (.lload_n 0, 1) := by decide +kernel
theorem dX6_to_75 : decode cX6_to 75 = .ok (.lstore 4, 2) := by decide +kernel
theorem dX6_to_77 : decode cX6_to 77 = .ok (.iload_n 3, 1) := by decide +kernel
theorem dX6_to_78 : decode cX6_to 78 = .ok (.ifCond .ne 17, 3) := by decide +kernel
theorem dX6_to_81 : decode cX6_to 81 = .ok (.lload 4, 2) := by decide +kernel
theorem dX6_to_83 : decode cX6_to 83 = .ok (.invokestatic 102, 3) := by decide +kernel
theorem dX6_to_86 : decode cX6_to 86 = .ok (.ifCond .eq 7, 3) := by decide +kernel
theorem dX6_to_89 : decode cX6_to 89 = .ok (.lconst 0, 1) := by decide +kernel
theorem dX6_to_90 : decode cX6_to 90 = .ok (.goto 4, 3) := by decide +kernel
theorem dX6_to_93 : decode cX6_to 93 = .ok (.lconst 1, 1) := by decide +kernel
theorem dX6_to_94 : decode cX6_to 94 = .ok (.lreturn, 1) := by decide +kernel
theorem dX6_to_95 : decode cX6_to 95 = .ok (.iload_n 3, 1) := by decide +kernel
theorem dX6_to_96 : decode cX6_to 96 = .ok (.iconst 3, 1) := by decide +kernel
theorem dX6_to_97 : decode cX6_to 97 = .ok (.if_icmp .ne 15, 3) := by decide +kernel
theorem dX6_to_100 : decode cX6_to 100 = .ok (.lload 4, 2) := by decide +kernel
theorem dX6_to_102 : decode cX6_to 102 = .ok (.ldc2_w 50, 3) := by decide +kernel
theorem dX6_to_105 : decode cX6_to 105 = .ok (.ldc2_w 40, 3) := by decide +kernel
theorem dX6_to_108 : decode cX6_to 108 = .ok (.invokestatic 134, 3) := by decide +kernel
theorem dX6_to_111 : decode cX6_to 111 = .ok (.lreturn, 1) := by decide +kernel
theorem dX6_to_112 : decode cX6_to 112 = .ok (.iload_n 3, 1) := by decide +kernel
theorem dX6_to_113 : decode cX6_to 113 = .ok (.iconst 3, 1) := by decide +kernel
theorem dX6_to_114 : decode cX6_to 114 = .ok (.if_icmp .ge 19, 3) := by decide +kernel
theorem dX6_to_117 : decode cX6_to 117 = .ok (.lload 4, 2) := by decide +kernel
theorem dX6_to_119 : decode cX6_to 119 = .ok (.ldc2_w 98, 3) := by decide +kernel
theorem dX6_to_122 : decode cX6_to 122 = .ok (.ldc2_w 138, 3) := by decide +kernel
theorem dX6_to_125 : decode cX6_to 125 = .ok (.invokestatic 134, 3) := by decide +kernel
theorem dX6_to_128 : decode cX6_to 128 = .ok (.iload_n 3, 1) := by decide +kernel
theorem dX6_to_129 : decode cX6_to 129 = .ok (.invokestatic 121, 3) := by decide +kernel
theorem dX6_to_132 : decode cX6_to 132 = .ok (.lreturn, 1) := by decide +kernel
theorem dX6_to_133 : decode cX6_to 133 = .ok (.iload_n 3, 1) := by decide +kernel
theorem dX6_to_134 : decode cX6_to 134 = .ok (.iconst 4, 1) := by decide +kernel
theorem dX6_to_135 : decode cX6_to 135 = .ok (.if_icmp .ne 15, 3) := by decide +kernel
theorem dX6_to_138 : decode cX6_to 138 = .ok (.lload 4, 2) := by decide +kernel
theorem dX6_to_140 : decode cX6_to 140 = .ok (.iconst 4, 1) := by decide +kernel
theorem dX6_to_141 : decode cX6_to 141 = .ok (.invokestatic 140, 3) := by decide +kernel
theorem dX6_to_144 : decode cX6_to 144 = .ok (.invokestatic 128, 3) := by decide +kernel
theorem dX6_to_147 : decode cX6_to 147 = .ok (.goto 5, 3) := by decide +kernel
theorem dX6_to_150 : decode cX6_to 150 = .ok (.lload 4, 2) := by decide +kernel
theorem dX6_to_152 : decode cX6_to 152 = .ok (.lreturn, 1) := by decide +kernel
theorem dX6_joined_0 : decode cX6_joined 0 = .ok (.iload_n 0, 1) := by decide +kernel
theorem dX6_joined_1 : decode cX6_joined 1 = .ok (.iload_n 1, 1) := by decide +kernel
theorem dX6_joined_2 : decode cX6_joined 2 = .ok (.if_icmp .le 7, 3) := by decide +kernel
theorem dX6_joined_5 : decode cX6_joined 5 = .ok (.iload_n 0, 1) := by decide +kernel
theorem dX6_joined_6 : decode cX6_joined 6 = .ok (.goto 4, 3) := by decide +kernel
theorem dX6_joined_9 : decode cX6_joined 9 = .ok (.iload_n 1, 1) := by decide +kernel
theorem dX6_joined_10 : decode cX6_joined 10 = .ok (.istore_n 2, 1) := by decide +kernel
theorem dX6_joined_11 : decode cX6_joined 11 = .ok (.iload_n 0, 1) := by decide +kernel
theorem dX6_joined_12 : decode cX6_joined 12 = .ok (.iload_n 1, 1) := by decide +kernel
theorem dX6_joined_13 : decode cX6_joined 13 = .ok (.if_icmp .le 7, 3) := by decide +kernel
theorem dX6_joined_16 : decode cX6_joined 16 = .ok (.iload_n 1, 1) := by decide +kernel
theorem dX6_joined_17 : decode cX6_joined 17 = .ok (.goto 4, 3) := by decide +kernel
theorem dX6_joined_20 : decode cX6_joined 20 = .ok (.iload_n 0, 1) := by decide +kernel
theorem dX6_joined_21 : decode cX6_joined 21 = .ok (.istore_n 3, 1) := by decide +kernel
theorem dX6_joined_22 : decode cX6_joined 22 = .ok (.iload_n 2, 1) := by decide +kernel
theorem dX6_joined_23 : decode cX6_joined 23 = .ok (.iconst 4, 1) := by decide +kernel
theorem dX6_joined_24 : decode cX6_joined 24 = .ok (.if_icmp .ne 17, 3) := by decide +kernel
theorem dX6_joined_27 : decode cX6_joined 27 = .ok (.iload_n 3, 1) := by decide +kernel
theorem dX6_joined_28 : decode cX6_joined 28 = .ok (.iconst 2, 1) := by decide +kernel
theorem dX6_joined_29 : decode cX6_joined 29 = .ok (.if_icmp .eq 8, 3) := by decide +kernel
theorem dX6_joined_32 : decode cX6_joined 32 = .ok (.iload_n 3, 1) := by decide +kernel
theorem dX6_joined_33 : decode cX6_joined 33 = .ok (.iconst 3, 1) := by decide +kernel
theorem dX6_joined_34 : decode cX6_joined 34 = .ok (.if_icmp .ne 7, 3) := by decide +kernel
theorem dX6_joined_37 : decode cX6_joined 37 = .ok (.iconst 5, 1) := by decide +kernel
theorem dX6_joined_38 : decode cX6_joined 38 = .ok (.goto 4, 3) := by decide +kernel
theorem dX6_joined_41 : decode cX6_joined 41 = .ok (.iload_n 2, 1) := by decide +kernel
theorem dX6_joined_42 : decode cX6_joined 42 = .ok (.ireturn, 1) := by decide +kernel
theorem dX6_fails_0 : decode cX6_fails 0 = .ok (.aload_n 0, 1) := by decide +kernel
theorem dX6_fails_1 : decode cX6_fails 1 = .ok (.dup, 1) := by decide +kernel
theorem dX6_fails_2 : decode cX6_fails 2 = .ok (.getfield 143, 3) := by decide +kernel
theorem dX6_fails_5 : decode cX6_fails 5 = .ok (.iconst 1, 1) := by decide +kernel
theorem dX6_fails_6 : decode cX6_fails 6 = .ok (.iadd, 1) := by decide +kernel
theorem dX6_fails_7 : decode cX6_fails 7 = .ok (.putfield 143, 3) := by decide +kernel
theorem dX6_fails_10 : decode cX6_fails 10 = .ok (.aload_n 0, 1) := by decide +kernel
theorem dX6_fails_11 : decode cX6_fails 11 = .ok (.iload_n 2, 1) := by decide +kernel
theorem dX6_fails_12 : decode cX6_fails 12 = .ok (.putfield 33, 3) := by decide +kernel
theorem dX6_fails_15 : decode cX6_fails 15 = .ok (.bipush (-10), 2) := by decide +kernel
theorem dX6_fails_17 : decode cX6_fails 17 = .ok (.iload_n 1, 1) := by decide +kernel
theorem dX6_fails_18 : decode cX6_fails 18 = .ok (.isub, 1) := by decide +kernel
theorem dX6_fails_19 : decode cX6_fails 19 = .ok (.ireturn, 1) := by decide +kernel
theorem dX6_isTensor_0 : decode cX6_isTensor 0 = .ok (.iload_n 1, 1) := by decide +kernel
theorem dX6_isTensor_1 : decode cX6_isTensor 1 = .ok (.i2l, 1) := by decide +kernel
theorem dX6_isTensor_2 : decode cX6_isTensor 2 = .ok (.lconst 0, 1) := by decide +kernel
theorem dX6_isTensor_3 : decode cX6_isTensor 3 = .ok (.aload_n 0, 1) := by decide +kernel
theorem dX6_isTensor_4 : decode cX6_isTensor 4 = .ok (.getfield 146, 3) := by decide +kernel
theorem dX6_isTensor_7 : decode cX6_isTensor 7 = .ok (.iconst 1, 1) := by decide +kernel
theorem dX6_isTensor_8 : decode cX6_isTensor 8 = .ok (.isub, 1) := by decide +kernel
theorem dX6_isTensor_9 : decode cX6_isTensor 9 = .ok (.i2l, 1) := by decide +kernel
theorem dX6_isTensor_10 : decode cX6_isTensor 10 = .ok (.invokestatic 149, 3) := by decide +kernel
theorem dX6_isTensor_13 : decode cX6_isTensor 13 = .ok (.ireturn, 1) := by decide +kernel
theorem dX6_extent_0 : decode cX6_extent 0 = .ok (.iload_n 2, 1) := by decide +kernel
theorem dX6_extent_1 : decode cX6_extent 1 = .ok (.aload_n 0, 1) := by decide +kernel
theorem dX6_extent_2 : decode cX6_extent 2 = .ok (.getfield 13, 3) := by decide +kernel
theorem dX6_extent_5 : decode cX6_extent 5 = .ok (.iload_n 1, 1) := by decide +kernel
theorem dX6_extent_6 : decode cX6_extent 6 = .ok (.iaload, 1) := by decide +kernel
theorem dX6_extent_7 : decode cX6_extent 7 = .ok (.if_icmp .ge 25, 3) := by decide +kernel
theorem dX6_extent_10 : decode cX6_extent 10 = .ok (.aload_n 0, 1) := by decide +kernel
theorem dX6_extent_11 : decode cX6_extent 11 = .ok (.getfield 16, 3) := by decide +kernel
theorem dX6_extent_14 : decode cX6_extent 14 = .ok (.iconst 3, 1) := by decide +kernel
theorem dX6_extent_15 : decode cX6_extent 15 = .ok (.iload_n 1, 1) := by decide +kernel
theorem dX6_extent_16 : decode cX6_extent 16 = .ok (.imul, 1) := by decide +kernel
theorem dX6_extent_17 : decode cX6_extent 17 = .ok (.aload_n 0, 1) := by decide +kernel
theorem dX6_extent_18 : decode cX6_extent 18 = .ok (.getfield 13, 3) := by decide +kernel
theorem dX6_extent_21 : decode cX6_extent 21 = .ok (.iload_n 1, 1) := by decide +kernel
theorem dX6_extent_22 : decode cX6_extent 22 = .ok (.iaload, 1) := by decide +kernel
theorem dX6_extent_23 : decode cX6_extent 23 = .ok (.iadd, 1) := by decide +kernel
theorem dX6_extent_24 : decode cX6_extent 24 = .ok (.iconst 1, 1) := by decide +kernel
theorem dX6_extent_25 : decode cX6_extent 25 = .ok (.isub, 1) := by decide +kernel
theorem dX6_extent_26 : decode cX6_extent 26 = .ok (.iload_n 2, 1) := by decide +kernel
theorem dX6_extent_27 : decode cX6_extent 27 = .ok (.isub, 1) := by decide +kernel
theorem dX6_extent_28 : decode cX6_extent 28 = .ok (.iaload, 1) := by decide +kernel
theorem dX6_extent_29 : decode cX6_extent 29 = .ok (.goto 4, 3) := by decide +kernel
theorem dX6_extent_32 : decode cX6_extent 32 = .ok (.iconst 1, 1) := by decide +kernel
theorem dX6_extent_33 : decode cX6_extent 33 = .ok (.ireturn, 1) := by decide +kernel
theorem dX6_begin_0 : decode cX6_begin 0 = .ok (.aload_n 0, 1) := by decide +kernel
theorem dX6_begin_1 : decode cX6_begin 1 = .ok (.aload_n 0, 1) := by decide +kernel
theorem dX6_begin_2 : decode cX6_begin 2 = .ok (.getfield 13, 3) := by decide +kernel
theorem dX6_begin_5 : decode cX6_begin 5 = .ok (.iload_n 1, 1) := by decide +kernel
theorem dX6_begin_6 : decode cX6_begin 6 = .ok (.iaload, 1) := by decide +kernel
theorem dX6_begin_7 : decode cX6_begin 7 = .ok (.putfield 153, 3) := by decide +kernel
theorem dX6_begin_10 : decode cX6_begin 10 = .ok (.iconst 0, 1) := by decide +kernel
theorem dX6_begin_11 : decode cX6_begin 11 = .ok (.istore_n 2, 1) := by decide +kernel
theorem dX6_begin_12 : decode cX6_begin 12 = .ok (.iload_n 2, 1) := by decide +kernel
theorem dX6_begin_13 : decode cX6_begin 13 = .ok (.iconst 3, 1) := by decide +kernel
theorem dX6_begin_14 : decode cX6_begin 14 = .ok (.if_icmp .ge 21, 3) := by decide +kernel
theorem dX6_begin_17 : decode cX6_begin 17 = .ok (.aload_n 0, 1) := by decide +kernel
theorem dX6_begin_18 : decode cX6_begin 18 = .ok (.getfield 37, 3) := by decide +kernel
theorem dX6_begin_21 : decode cX6_begin 21 = .ok (.iload_n 2, 1) := by decide +kernel
theorem dX6_begin_22 : decode cX6_begin 22 = .ok (.aload_n 0, 1) := by decide +kernel
theorem dX6_begin_23 : decode cX6_begin 23 = .ok (.iload_n 1, 1) := by decide +kernel
theorem dX6_begin_24 : decode cX6_begin 24 = .ok (.iload_n 2, 1) := by decide +kernel
theorem dX6_begin_25 : decode cX6_begin 25 = .ok (.invokevirtual 156, 3) := by decide +kernel
theorem dX6_begin_28 : decode cX6_begin 28 = .ok (.iastore, 1) := by decide +kernel
theorem dX6_begin_29 : decode cX6_begin 29 = .ok (.iinc 2 1, 3) := by decide +kernel
theorem dX6_begin_32 : decode cX6_begin 32 = .ok (.goto (-20), 3) := by decide +kernel
theorem dX6_begin_35 : decode cX6_begin 35 = .ok (.aload_n 0, 1) := by decide +kernel
theorem dX6_begin_36 : decode cX6_begin 36 = .ok (.aload_n 0, 1) := by decide +kernel
theorem dX6_begin_37 : decode cX6_begin 37 = .ok (.getfield 19, 3) := by decide +kernel
theorem dX6_begin_40 : decode cX6_begin 40 = .ok (.iload_n 1, 1) := by decide +kernel
theorem dX6_begin_41 : decode cX6_begin 41 = .ok (.iaload, 1) := by decide +kernel
theorem dX6_begin_42 : decode cX6_begin 42 = .ok (.putfield 160, 3) := by decide +kernel
theorem dX6_begin_45 : decode cX6_begin 45 = .ok (.return_, 1) := by decide +kernel
theorem dX6_spreadWith_0 : decode cX6_spreadWith 0 = .ok (.aload_n 0, 1) := by decide +kernel
theorem dX6_spreadWith_1 : decode cX6_spreadWith 1 = .ok (.getfield 153, 3) := by decide +kernel
theorem dX6_spreadWith_4 : decode cX6_spreadWith 4 = .ok (.aload_n 0, 1) := by decide +kernel
theorem dX6_spreadWith_5 : decode cX6_spreadWith 5 = .ok (.getfield 13, 3) := by decide +kernel
theorem dX6_spreadWith_8 : decode cX6_spreadWith 8 = .ok (.iload_n 1, 1) := by decide +kernel
theorem dX6_spreadWith_9 : decode cX6_spreadWith 9 = .ok (.iaload, 1) := by decide +kernel
theorem dX6_spreadWith_10 : decode cX6_spreadWith 10 = .ok (.if_icmp .le 10, 3) := by decide +kernel
theorem dX6_spreadWith_13 : decode cX6_spreadWith 13 = .ok (.aload_n 0, 1) := by decide +kernel
theorem dX6_spreadWith_14 : decode cX6_spreadWith 14 = .ok (.getfield 153, 3) := by decide +kernel
theorem dX6_spreadWith_17 : decode cX6_spreadWith 17 = .ok (.goto 9, 3) := by decide +kernel
theorem dX6_spreadWith_20 : decode cX6_spreadWith 20 = .ok (.aload_n 0, 1) := by decide +kernel
theorem dX6_spreadWith_21 : decode cX6_spreadWith 21 = .ok (.getfield 13, 3) := by decide +kernel
theorem dX6_spreadWith_24 : decode cX6_spreadWith 24 = .ok (.iload_n 1, 1) := by decide +kernel
theorem dX6_spreadWith_25 : decode cX6_spreadWith 25 = .ok (.iaload, 1) := by decide +kernel
theorem dX6_spreadWith_26 : decode cX6_spreadWith 26 = .ok (.istore_n 2, 1) := by decide +kernel
theorem dX6_spreadWith_27 : decode cX6_spreadWith 27 = .ok (.iconst 0, 1) := by decide +kernel
theorem dX6_spreadWith_28 : decode cX6_spreadWith 28 = .ok (.istore_n 3, 1) := by decide +kernel
theorem dX6_spreadWith_29 : decode cX6_spreadWith 29 = .ok (.iload_n 3, 1) := by decide +kernel
theorem dX6_spreadWith_30 : decode cX6_spreadWith 30 = .ok (.iload_n 2, 1) := by decide +kernel
theorem dX6_spreadWith_31 : decode cX6_spreadWith 31 = .ok (.if_icmp .ge 46, 3) := by decide +kernel
theorem dX6_spreadWith_34 : decode cX6_spreadWith 34 = .ok (.aload_n 0, 1) := by decide +kernel
theorem dX6_spreadWith_35 : decode cX6_spreadWith 35 = .ok (.iload_n 1, 1) := by decide +kernel
theorem dX6_spreadWith_36 : decode cX6_spreadWith 36 = .ok (.iload_n 3, 1) := by decide +kernel
theorem dX6_spreadWith_37 : decode cX6_spreadWith 37 = .ok (.invokevirtual 156, 3) := by decide +kernel
theorem dX6_spreadWith_40 : decode cX6_spreadWith 40 = .ok (.istore 4, 2) := by decide +kernel
theorem dX6_spreadWith_42 : decode cX6_spreadWith 42 = .ok (.aload_n 0, 1) := by decide +kernel
theorem dX6_spreadWith_43 : decode cX6_spreadWith 43 = .ok (.getfield 37, 3) := by decide +kernel
theorem dX6_spreadWith_46 : decode cX6_spreadWith 46 = .ok (.iload_n 3, 1) := by decide +kernel
theorem dX6_spreadWith_47 : decode cX6_spreadWith 47 = .ok (.iaload, 1) := by decide +kernel
theorem dX6_spreadWith_48 : decode cX6_spreadWith 48 = .ok (.iload 4, 2) := by decide +kernel
theorem dX6_spreadWith_50 : decode cX6_spreadWith 50 = .ok (.if_icmp .eq 21, 3) := by decide +kernel
theorem dX6_spreadWith_53 : decode cX6_spreadWith 53 = .ok (.aload_n 0, 1) := by decide +kernel
theorem dX6_spreadWith_54 : decode cX6_spreadWith 54 = .ok (.getfield 37, 3) := by decide +kernel
theorem dX6_spreadWith_57 : decode cX6_spreadWith 57 = .ok (.iload_n 3, 1) := by decide +kernel
theorem dX6_spreadWith_58 : decode cX6_spreadWith 58 = .ok (.iaload, 1) := by decide +kernel
theorem dX6_spreadWith_59 : decode cX6_spreadWith 59 = .ok (.iconst 1, 1) := by decide +kernel
theorem dX6_spreadWith_60 : decode cX6_spreadWith 60 = .ok (.if_icmp .eq 11, 3) := by decide +kernel
theorem dX6_spreadWith_63 : decode cX6_spreadWith 63 = .ok (.iload 4, 2) := by decide +kernel
theorem dX6_spreadWith_65 : decode cX6_spreadWith 65 = .ok (.iconst 1, 1) := by decide +kernel
theorem dX6_spreadWith_66 : decode cX6_spreadWith 66 = .ok (.if_icmp .eq 5, 3) := by decide +kernel
theorem dX6_spreadWith_69 : decode cX6_spreadWith 69 = .ok (.iload_n 3, 1) := by decide +kernel
theorem dX6_spreadWith_70 : decode cX6_spreadWith 70 = .ok (.ireturn, 1) := by decide +kernel
theorem dX6_spreadWith_71 : decode cX6_spreadWith 71 = .ok (.iinc 3 1, 3) := by decide +kernel
theorem dX6_spreadWith_74 : decode cX6_spreadWith 74 = .ok (.goto (-45), 3) := by decide +kernel
theorem dX6_spreadWith_77 : decode cX6_spreadWith 77 = .ok (.aload_n 0, 1) := by decide +kernel
theorem dX6_spreadWith_78 : decode cX6_spreadWith 78 = .ok (.iload_n 2, 1) := by decide +kernel
theorem dX6_spreadWith_79 : decode cX6_spreadWith 79 = .ok (.putfield 153, 3) := by decide +kernel
theorem dX6_spreadWith_82 : decode cX6_spreadWith 82 = .ok (.aload_n 0, 1) := by decide +kernel
theorem dX6_spreadWith_83 : decode cX6_spreadWith 83 = .ok (.iconst 1, 1) := by decide +kernel
theorem dX6_spreadWith_84 : decode cX6_spreadWith 84 = .ok (.putfield 160, 3) := by decide +kernel
theorem dX6_spreadWith_87 : decode cX6_spreadWith 87 = .ok (.iconst 0, 1) := by decide +kernel
theorem dX6_spreadWith_88 : decode cX6_spreadWith 88 = .ok (.istore_n 3, 1) := by decide +kernel
theorem dX6_spreadWith_89 : decode cX6_spreadWith 89 = .ok (.iload_n 3, 1) := by decide +kernel
theorem dX6_spreadWith_90 : decode cX6_spreadWith 90 = .ok (.iload_n 2, 1) := by decide +kernel
theorem dX6_spreadWith_91 : decode cX6_spreadWith 91 = .ok (.if_icmp .ge 55, 3) := by decide +kernel
theorem dX6_spreadWith_94 : decode cX6_spreadWith 94 = .ok (.aload_n 0, 1) := by decide +kernel
theorem dX6_spreadWith_95 : decode cX6_spreadWith 95 = .ok (.getfield 37, 3) := by decide +kernel
theorem dX6_spreadWith_98 : decode cX6_spreadWith 98 = .ok (.iload_n 3, 1) := by decide +kernel
theorem dX6_spreadWith_99 : decode cX6_spreadWith 99 = .ok (.aload_n 0, 1) := by decide +kernel
theorem dX6_spreadWith_100 : decode cX6_spreadWith 100 = .ok (.getfield 37, 3) := by decide +kernel
theorem dX6_spreadWith_103 : decode cX6_spreadWith 103 = .ok (.iload_n 3, 1) := by decide +kernel
theorem dX6_spreadWith_104 : decode cX6_spreadWith 104 = .ok (.iaload, 1) := by decide +kernel
theorem dX6_spreadWith_105 : decode cX6_spreadWith 105 = .ok (.iconst 1, 1) := by decide +kernel
theorem dX6_spreadWith_106 : decode cX6_spreadWith 106 = .ok (.if_icmp .ne 12, 3) := by decide +kernel
theorem dX6_spreadWith_109 : decode cX6_spreadWith 109 = .ok (.aload_n 0, 1) := by decide +kernel
theorem dX6_spreadWith_110 : decode cX6_spreadWith 110 = .ok (.iload_n 1, 1) := by decide +kernel
theorem dX6_spreadWith_111 : decode cX6_spreadWith 111 = .ok (.iload_n 3, 1) := by decide +kernel
theorem dX6_spreadWith_112 : decode cX6_spreadWith 112 = .ok (.invokevirtual 156, 3) := by decide +kernel
theorem dX6_spreadWith_115 : decode cX6_spreadWith 115 = .ok (.goto 9, 3) := by decide +kernel
theorem dX6_spreadWith_118 : decode cX6_spreadWith 118 = .ok (.aload_n 0, 1) := by decide +kernel
theorem dX6_spreadWith_119 : decode cX6_spreadWith 119 = .ok (.getfield 37, 3) := by decide +kernel
theorem dX6_spreadWith_122 : decode cX6_spreadWith 122 = .ok (.iload_n 3, 1) := by decide +kernel
theorem dX6_spreadWith_123 : decode cX6_spreadWith 123 = .ok (.iaload, 1) := by decide +kernel
theorem dX6_spreadWith_124 : decode cX6_spreadWith 124 = .ok (.iastore, 1) := by decide +kernel
theorem dX6_spreadWith_125 : decode cX6_spreadWith 125 = .ok (.aload_n 0, 1) := by decide +kernel
theorem dX6_spreadWith_126 : decode cX6_spreadWith 126 = .ok (.dup, 1) := by decide +kernel
theorem dX6_spreadWith_127 : decode cX6_spreadWith 127 = .ok (.getfield 160, 3) := by decide +kernel
theorem dX6_spreadWith_130 : decode cX6_spreadWith 130 = .ok (.aload_n 0, 1) := by decide +kernel
theorem dX6_spreadWith_131 : decode cX6_spreadWith 131 = .ok (.getfield 37, 3) := by decide +kernel
theorem dX6_spreadWith_134 : decode cX6_spreadWith 134 = .ok (.iload_n 3, 1) := by decide +kernel
theorem dX6_spreadWith_135 : decode cX6_spreadWith 135 = .ok (.iaload, 1) := by decide +kernel
theorem dX6_spreadWith_136 : decode cX6_spreadWith 136 = .ok (.imul, 1) := by decide +kernel
theorem dX6_spreadWith_137 : decode cX6_spreadWith 137 = .ok (.putfield 160, 3) := by decide +kernel
theorem dX6_spreadWith_140 : decode cX6_spreadWith 140 = .ok (.iinc 3 1, 3) := by decide +kernel
theorem dX6_spreadWith_143 : decode cX6_spreadWith 143 = .ok (.goto (-54), 3) := by decide +kernel
theorem dX6_spreadWith_146 : decode cX6_spreadWith 146 = .ok (.iconst (-1), 1) := by decide +kernel
theorem dX6_spreadWith_147 : decode cX6_spreadWith 147 = .ok (.ireturn, 1) := by decide +kernel
theorem dX6_at_0 : decode cX6_at 0 = .ok (.iload_n 2, 1) := by decide +kernel
theorem dX6_at_1 : decode cX6_at 1 = .ok (.istore_n 3, 1) := by decide +kernel
theorem dX6_at_2 : decode cX6_at 2 = .ok (.iconst 1, 1) := by decide +kernel
theorem dX6_at_3 : decode cX6_at 3 = .ok (.istore 4, 2) := by decide +kernel
theorem dX6_at_5 : decode cX6_at 5 = .ok (.iconst 0, 1) := by decide +kernel
theorem dX6_at_6 : decode cX6_at 6 = .ok (.istore 5, 2) := by decide +kernel
theorem dX6_at_8 : decode cX6_at 8 = .ok (.iconst 0, 1) := by decide +kernel
theorem dX6_at_9 : decode cX6_at 9 = .ok (.istore 6, 2) := by decide +kernel
theorem dX6_at_11 : decode cX6_at 11 = .ok (.iload 6, 2) := by decide +kernel
theorem dX6_at_13 : decode cX6_at 13 = .ok (.aload_n 0, 1) := by decide +kernel
theorem dX6_at_14 : decode cX6_at 14 = .ok (.getfield 13, 3) := by decide +kernel
theorem dX6_at_17 : decode cX6_at 17 = .ok (.iload_n 1, 1) := by decide +kernel
theorem dX6_at_18 : decode cX6_at 18 = .ok (.iaload, 1) := by decide +kernel
theorem dX6_at_19 : decode cX6_at 19 = .ok (.if_icmp .ge 66, 3) := by decide +kernel
theorem dX6_at_22 : decode cX6_at 22 = .ok (.aload_n 0, 1) := by decide +kernel
theorem dX6_at_23 : decode cX6_at 23 = .ok (.iload_n 1, 1) := by decide +kernel
theorem dX6_at_24 : decode cX6_at 24 = .ok (.iload 6, 2) := by decide +kernel
theorem dX6_at_26 : decode cX6_at 26 = .ok (.invokevirtual 156, 3) := by decide +kernel
theorem dX6_at_29 : decode cX6_at 29 = .ok (.istore 7, 2) := by decide +kernel
theorem dX6_at_31 : decode cX6_at 31 = .ok (.iload_n 3, 1) := by decide +kernel
theorem dX6_at_32 : decode cX6_at 32 = .ok (.aload_n 0, 1) := by decide +kernel
theorem dX6_at_33 : decode cX6_at 33 = .ok (.getfield 37, 3) := by decide +kernel
theorem dX6_at_36 : decode cX6_at 36 = .ok (.iload 6, 2) := by decide +kernel
theorem dX6_at_38 : decode cX6_at 38 = .ok (.iaload, 1) := by decide +kernel
theorem dX6_at_39 : decode cX6_at 39 = .ok (.irem, 1) := by decide +kernel
theorem dX6_at_40 : decode cX6_at 40 = .ok (.istore 8, 2) := by decide +kernel
theorem dX6_at_42 : decode cX6_at 42 = .ok (.iload 5, 2) := by decide +kernel
theorem dX6_at_44 : decode cX6_at 44 = .ok (.iload 7, 2) := by decide +kernel
theorem dX6_at_46 : decode cX6_at 46 = .ok (.iconst 1, 1) := by decide +kernel
theorem dX6_at_47 : decode cX6_at 47 = .ok (.if_icmp .ne 7, 3) := by decide +kernel
theorem dX6_at_50 : decode cX6_at 50 = .ok (.iconst 0, 1) := by decide +kernel
theorem dX6_at_51 : decode cX6_at 51 = .ok (.goto 8, 3) := by decide +kernel
theorem dX6_at_54 : decode cX6_at 54 = .ok (.iload 8, 2) := by decide +kernel
theorem dX6_at_56 : decode cX6_at 56 = .ok (.iload 4, 2) := by decide +kernel
theorem dX6_at_58 : decode cX6_at 58 = .ok (.imul, 1) := by decide +kernel
theorem dX6_at_59 : decode cX6_at 59 = .ok (.iadd, 1) := by decide +kernel
theorem dX6_at_60 : decode cX6_at 60 = .ok (.istore 5, 2) := by decide +kernel
theorem dX6_at_62 : decode cX6_at 62 = .ok (.iload 4, 2) := by decide +kernel
theorem dX6_at_64 : decode cX6_at 64 = .ok (.iload 7, 2) := by decide +kernel
theorem dX6_at_66 : decode cX6_at 66 = .ok (.imul, 1) := by decide +kernel
theorem dX6_at_67 : decode cX6_at 67 = .ok (.istore 4, 2) := by decide +kernel
theorem dX6_at_69 : decode cX6_at 69 = .ok (.iload_n 3, 1) := by decide +kernel
theorem dX6_at_70 : decode cX6_at 70 = .ok (.aload_n 0, 1) := by decide +kernel
theorem dX6_at_71 : decode cX6_at 71 = .ok (.getfield 37, 3) := by decide +kernel
theorem dX6_at_74 : decode cX6_at 74 = .ok (.iload 6, 2) := by decide +kernel
theorem dX6_at_76 : decode cX6_at 76 = .ok (.iaload, 1) := by decide +kernel
theorem dX6_at_77 : decode cX6_at 77 = .ok (.idiv, 1) := by decide +kernel
theorem dX6_at_78 : decode cX6_at 78 = .ok (.istore_n 3, 1) := by decide +kernel
theorem dX6_at_79 : decode cX6_at 79 = .ok (.iinc 6 1, 3) := by decide +kernel
theorem dX6_at_82 : decode cX6_at 82 = .ok (.goto (-71), 3) := by decide +kernel
theorem dX6_at_85 : decode cX6_at 85 = .ok (.aload_n 0, 1) := by decide +kernel
theorem dX6_at_86 : decode cX6_at 86 = .ok (.getfield 26, 3) := by decide +kernel
theorem dX6_at_89 : decode cX6_at 89 = .ok (.sipush 240, 3) := by decide +kernel
theorem dX6_at_92 : decode cX6_at 92 = .ok (.iload_n 1, 1) := by decide +kernel
theorem dX6_at_93 : decode cX6_at 93 = .ok (.imul, 1) := by decide +kernel
theorem dX6_at_94 : decode cX6_at 94 = .ok (.iload 5, 2) := by decide +kernel
theorem dX6_at_96 : decode cX6_at 96 = .ok (.iadd, 1) := by decide +kernel
theorem dX6_at_97 : decode cX6_at 97 = .ok (.laload, 1) := by decide +kernel
theorem dX6_at_98 : decode cX6_at 98 = .ok (.lreturn, 1) := by decide +kernel
theorem dX6_made_0 : decode cX6_made 0 = .ok (.aload_n 0, 1) := by decide +kernel
theorem dX6_made_1 : decode cX6_made 1 = .ok (.getfield 146, 3) := by decide +kernel
theorem dX6_made_4 : decode cX6_made 4 = .ok (.istore_n 2, 1) := by decide +kernel
theorem dX6_made_5 : decode cX6_made 5 = .ok (.aload_n 0, 1) := by decide +kernel
theorem dX6_made_6 : decode cX6_made 6 = .ok (.getfield 7, 3) := by decide +kernel
theorem dX6_made_9 : decode cX6_made 9 = .ok (.iload_n 2, 1) := by decide +kernel
theorem dX6_made_10 : decode cX6_made 10 = .ok (.iload_n 1, 1) := by decide +kernel
theorem dX6_made_11 : decode cX6_made 11 = .ok (.iastore, 1) := by decide +kernel
theorem dX6_made_12 : decode cX6_made 12 = .ok (.aload_n 0, 1) := by decide +kernel
theorem dX6_made_13 : decode cX6_made 13 = .ok (.getfield 13, 3) := by decide +kernel
theorem dX6_made_16 : decode cX6_made 16 = .ok (.iload_n 2, 1) := by decide +kernel
theorem dX6_made_17 : decode cX6_made 17 = .ok (.aload_n 0, 1) := by decide +kernel
theorem dX6_made_18 : decode cX6_made 18 = .ok (.getfield 153, 3) := by decide +kernel
theorem dX6_made_21 : decode cX6_made 21 = .ok (.iastore, 1) := by decide +kernel
theorem dX6_made_22 : decode cX6_made 22 = .ok (.iconst 0, 1) := by decide +kernel
theorem dX6_made_23 : decode cX6_made 23 = .ok (.istore_n 3, 1) := by decide +kernel
theorem dX6_made_24 : decode cX6_made 24 = .ok (.iload_n 3, 1) := by decide +kernel
theorem dX6_made_25 : decode cX6_made 25 = .ok (.aload_n 0, 1) := by decide +kernel
theorem dX6_made_26 : decode cX6_made 26 = .ok (.getfield 153, 3) := by decide +kernel
theorem dX6_made_29 : decode cX6_made 29 = .ok (.if_icmp .ge 32, 3) := by decide +kernel
theorem dX6_made_32 : decode cX6_made 32 = .ok (.aload_n 0, 1) := by decide +kernel
theorem dX6_made_33 : decode cX6_made 33 = .ok (.getfield 16, 3) := by decide +kernel
theorem dX6_made_36 : decode cX6_made 36 = .ok (.iconst 3, 1) := by decide +kernel
theorem dX6_made_37 : decode cX6_made 37 = .ok (.iload_n 2, 1) := by decide +kernel
theorem dX6_made_38 : decode cX6_made 38 = .ok (.imul, 1) := by decide +kernel
theorem dX6_made_39 : decode cX6_made 39 = .ok (.aload_n 0, 1) := by decide +kernel
theorem dX6_made_40 : decode cX6_made 40 = .ok (.getfield 153, 3) := by decide +kernel
theorem dX6_made_43 : decode cX6_made 43 = .ok (.iadd, 1) := by decide +kernel
theorem dX6_made_44 : decode cX6_made 44 = .ok (.iconst 1, 1) := by decide +kernel
theorem dX6_made_45 : decode cX6_made 45 = .ok (.isub, 1) := by decide +kernel
theorem dX6_made_46 : decode cX6_made 46 = .ok (.iload_n 3, 1) := by decide +kernel
theorem dX6_made_47 : decode cX6_made 47 = .ok (.isub, 1) := by decide +kernel
theorem dX6_made_48 : decode cX6_made 48 = .ok (.aload_n 0, 1) := by decide +kernel
theorem dX6_made_49 : decode cX6_made 49 = .ok (.getfield 37, 3) := by decide +kernel
theorem dX6_made_52 : decode cX6_made 52 = .ok (.iload_n 3, 1) := by decide +kernel
theorem dX6_made_53 : decode cX6_made 53 = .ok (.iaload, 1) := by decide +kernel
theorem dX6_made_54 : decode cX6_made 54 = .ok (.iastore, 1) := by decide +kernel
theorem dX6_made_55 : decode cX6_made 55 = .ok (.iinc 3 1, 3) := by decide +kernel
theorem dX6_made_58 : decode cX6_made 58 = .ok (.goto (-34), 3) := by decide +kernel
theorem dX6_made_61 : decode cX6_made 61 = .ok (.aload_n 0, 1) := by decide +kernel
theorem dX6_made_62 : decode cX6_made 62 = .ok (.getfield 19, 3) := by decide +kernel
theorem dX6_made_65 : decode cX6_made 65 = .ok (.iload_n 2, 1) := by decide +kernel
theorem dX6_made_66 : decode cX6_made 66 = .ok (.aload_n 0, 1) := by decide +kernel
theorem dX6_made_67 : decode cX6_made 67 = .ok (.getfield 160, 3) := by decide +kernel
theorem dX6_made_70 : decode cX6_made 70 = .ok (.iastore, 1) := by decide +kernel
theorem dX6_made_71 : decode cX6_made 71 = .ok (.iconst 0, 1) := by decide +kernel
theorem dX6_made_72 : decode cX6_made 72 = .ok (.istore_n 3, 1) := by decide +kernel
theorem dX6_made_73 : decode cX6_made 73 = .ok (.iload_n 3, 1) := by decide +kernel
theorem dX6_made_74 : decode cX6_made 74 = .ok (.aload_n 0, 1) := by decide +kernel
theorem dX6_made_75 : decode cX6_made 75 = .ok (.getfield 160, 3) := by decide +kernel
theorem dX6_made_78 : decode cX6_made 78 = .ok (.if_icmp .ge 27, 3) := by decide +kernel
theorem dX6_made_81 : decode cX6_made 81 = .ok (.aload_n 0, 1) := by decide +kernel
theorem dX6_made_82 : decode cX6_made 82 = .ok (.getfield 26, 3) := by decide +kernel
theorem dX6_made_85 : decode cX6_made 85 = .ok (.sipush 240, 3) := by decide +kernel
theorem dX6_made_88 : decode cX6_made 88 = .ok (.iload_n 2, 1) := by decide +kernel
theorem dX6_made_89 : decode cX6_made 89 = .ok (.imul, 1) := by decide +kernel
theorem dX6_made_90 : decode cX6_made 90 = .ok (.iload_n 3, 1) := by decide +kernel
theorem dX6_made_91 : decode cX6_made 91 = .ok (.iadd, 1) := by decide +kernel
theorem dX6_made_92 : decode cX6_made 92 = .ok (.aload_n 0, 1) := by decide +kernel
theorem dX6_made_93 : decode cX6_made 93 = .ok (.getfield 30, 3) := by decide +kernel
theorem dX6_made_96 : decode cX6_made 96 = .ok (.iload_n 3, 1) := by decide +kernel
theorem dX6_made_97 : decode cX6_made 97 = .ok (.laload, 1) := by decide +kernel
theorem dX6_made_98 : decode cX6_made 98 = .ok (.lastore, 1) := by decide +kernel
theorem dX6_made_99 : decode cX6_made 99 = .ok (.iinc 3 1, 3) := by decide +kernel
theorem dX6_made_102 : decode cX6_made 102 = .ok (.goto (-29), 3) := by decide +kernel
theorem dX6_made_105 : decode cX6_made 105 = .ok (.aload_n 0, 1) := by decide +kernel
theorem dX6_made_106 : decode cX6_made 106 = .ok (.dup, 1) := by decide +kernel
theorem dX6_made_107 : decode cX6_made 107 = .ok (.getfield 146, 3) := by decide +kernel
theorem dX6_made_110 : decode cX6_made 110 = .ok (.iconst 1, 1) := by decide +kernel
theorem dX6_made_111 : decode cX6_made 111 = .ok (.iadd, 1) := by decide +kernel
theorem dX6_made_112 : decode cX6_made 112 = .ok (.putfield 146, 3) := by decide +kernel
theorem dX6_made_115 : decode cX6_made 115 = .ok (.iload_n 2, 1) := by decide +kernel
theorem dX6_made_116 : decode cX6_made 116 = .ok (.ireturn, 1) := by decide +kernel
theorem dX6_tensor_0 : decode cX6_tensor 0 = .ok (.iload_n 1, 1) := by decide +kernel
theorem dX6_tensor_1 : decode cX6_tensor 1 = .ok (.i2l, 1) := by decide +kernel
theorem dX6_tensor_2 : decode cX6_tensor 2 = .ok (.lconst 0, 1) := by decide +kernel
theorem dX6_tensor_3 : decode cX6_tensor 3 = .ok (.ldc2_w 163, 3) := by decide +kernel
theorem dX6_tensor_6 : decode cX6_tensor 6 = .ok (.invokestatic 149, 3) := by decide +kernel
theorem dX6_tensor_9 : decode cX6_tensor 9 = .ok (.ifCond .ne 5, 3) := by decide +kernel
theorem dX6_tensor_12 : decode cX6_tensor 12 = .ok (.iconst (-1), 1) := by decide +kernel
theorem dX6_tensor_13 : decode cX6_tensor 13 = .ok (.ireturn, 1) := by decide +kernel
theorem dX6_tensor_14 : decode cX6_tensor 14 = .ok (.aload_n 0, 1) := by decide +kernel
theorem dX6_tensor_15 : decode cX6_tensor 15 = .ok (.getfield 146, 3) := by decide +kernel
theorem dX6_tensor_18 : decode cX6_tensor 18 = .ok (.bipush 16, 2) := by decide +kernel
theorem dX6_tensor_20 : decode cX6_tensor 20 = .ok (.if_icmp .ne 6, 3) := by decide +kernel
theorem dX6_tensor_23 : decode cX6_tensor 23 = .ok (.bipush (-2), 2) := by decide +kernel
theorem dX6_tensor_25 : decode cX6_tensor 25 = .ok (.ireturn, 1) := by decide +kernel
theorem dX6_tensor_26 : decode cX6_tensor 26 = .ok (.aload_n 0, 1) := by decide +kernel
theorem dX6_tensor_27 : decode cX6_tensor 27 = .ok (.iconst 0, 1) := by decide +kernel
theorem dX6_tensor_28 : decode cX6_tensor 28 = .ok (.putfield 153, 3) := by decide +kernel
theorem dX6_tensor_31 : decode cX6_tensor 31 = .ok (.aload_n 0, 1) := by decide +kernel
theorem dX6_tensor_32 : decode cX6_tensor 32 = .ok (.iconst 1, 1) := by decide +kernel
theorem dX6_tensor_33 : decode cX6_tensor 33 = .ok (.putfield 160, 3) := by decide +kernel
theorem dX6_tensor_36 : decode cX6_tensor 36 = .ok (.aload_n 0, 1) := by decide +kernel
theorem dX6_tensor_37 : decode cX6_tensor 37 = .ok (.getfield 30, 3) := by decide +kernel
theorem dX6_tensor_40 : decode cX6_tensor 40 = .ok (.iconst 0, 1) := by decide +kernel
theorem dX6_tensor_41 : decode cX6_tensor 41 = .ok (.lconst 0, 1) := by decide +kernel
theorem dX6_tensor_42 : decode cX6_tensor 42 = .ok (.lastore, 1) := by decide +kernel
theorem dX6_tensor_43 : decode cX6_tensor 43 = .ok (.aload_n 0, 1) := by decide +kernel
theorem dX6_tensor_44 : decode cX6_tensor 44 = .ok (.iload_n 1, 1) := by decide +kernel
theorem dX6_tensor_45 : decode cX6_tensor 45 = .ok (.invokevirtual 165, 3) := by decide +kernel
theorem dX6_tensor_48 : decode cX6_tensor 48 = .ok (.ireturn, 1) := by decide +kernel
theorem dX6_shaped_0 : decode cX6_shaped 0 = .ok (.iload_n 1, 1) := by decide +kernel
theorem dX6_shaped_1 : decode cX6_shaped 1 = .ok (.i2l, 1) := by decide +kernel
theorem dX6_shaped_2 : decode cX6_shaped 2 = .ok (.lconst 0, 1) := by decide +kernel
theorem dX6_shaped_3 : decode cX6_shaped 3 = .ok (.ldc2_w 163, 3) := by decide +kernel
theorem dX6_shaped_6 : decode cX6_shaped 6 = .ok (.invokestatic 149, 3) := by decide +kernel
theorem dX6_shaped_9 : decode cX6_shaped 9 = .ok (.ifCond .eq 35, 3) := by decide +kernel
theorem dX6_shaped_12 : decode cX6_shaped 12 = .ok (.iload_n 2, 1) := by decide +kernel
theorem dX6_shaped_13 : decode cX6_shaped 13 = .ok (.bipush 60, 2) := by decide +kernel
theorem dX6_shaped_15 : decode cX6_shaped 15 = .ok (.if_icmp .gt 29, 3) := by decide +kernel
theorem dX6_shaped_18 : decode cX6_shaped 18 = .ok (.iload_n 3, 1) := by decide +kernel
theorem dX6_shaped_19 : decode cX6_shaped 19 = .ok (.bipush 60, 2) := by decide +kernel
theorem dX6_shaped_21 : decode cX6_shaped 21 = .ok (.if_icmp .gt 23, 3) := by decide +kernel
theorem dX6_shaped_24 : decode cX6_shaped 24 = .ok (.iload 4, 2) := by decide +kernel
theorem dX6_shaped_26 : decode cX6_shaped 26 = .ok (.bipush 60, 2) := by decide +kernel
theorem dX6_shaped_28 : decode cX6_shaped 28 = .ok (.if_icmp .gt 16, 3) := by decide +kernel
theorem dX6_shaped_31 : decode cX6_shaped 31 = .ok (.iload_n 3, 1) := by decide +kernel
theorem dX6_shaped_32 : decode cX6_shaped 32 = .ok (.bipush (-3), 2) := by decide +kernel
theorem dX6_shaped_34 : decode cX6_shaped 34 = .ok (.if_icmp .ne 12, 3) := by decide +kernel
theorem dX6_shaped_37 : decode cX6_shaped 37 = .ok (.iload 4, 2) := by decide +kernel
theorem dX6_shaped_39 : decode cX6_shaped 39 = .ok (.bipush (-3), 2) := by decide +kernel
theorem dX6_shaped_41 : decode cX6_shaped 41 = .ok (.if_icmp .eq 5, 3) := by decide +kernel
theorem dX6_shaped_44 : decode cX6_shaped 44 = .ok (.iconst (-1), 1) := by decide +kernel
theorem dX6_shaped_45 : decode cX6_shaped 45 = .ok (.ireturn, 1) := by decide +kernel
theorem dX6_shaped_46 : decode cX6_shaped 46 = .ok (.aload_n 0, 1) := by decide +kernel
theorem dX6_shaped_47 : decode cX6_shaped 47 = .ok (.getfield 146, 3) := by decide +kernel
theorem dX6_shaped_50 : decode cX6_shaped 50 = .ok (.bipush 16, 2) := by decide +kernel
theorem dX6_shaped_52 : decode cX6_shaped 52 = .ok (.if_icmp .ne 6, 3) := by decide +kernel
theorem dX6_shaped_55 : decode cX6_shaped 55 = .ok (.bipush (-2), 2) := by decide +kernel
theorem dX6_shaped_57 : decode cX6_shaped 57 = .ok (.ireturn, 1) := by decide +kernel
theorem dX6_shaped_58 : decode cX6_shaped 58 = .ok (.iload_n 2, 1) := by decide +kernel
theorem dX6_shaped_59 : decode cX6_shaped 59 = .ok (.ifCond .lt 25, 3) := by decide +kernel
theorem dX6_shaped_62 : decode cX6_shaped 62 = .ok (.iload_n 3, 1) := by decide +kernel
theorem dX6_shaped_63 : decode cX6_shaped 63 = .ok (.ifCond .ge 9, 3) := by decide +kernel
theorem dX6_shaped_66 : decode cX6_shaped 66 = .ok (.iload_n 3, 1) := by decide +kernel
theorem dX6_shaped_67 : decode cX6_shaped 67 = .ok (.bipush (-3), 2) := by decide +kernel
theorem dX6_shaped_69 : decode cX6_shaped 69 = .ok (.if_icmp .ne 15, 3) := by decide +kernel
theorem dX6_shaped_72 : decode cX6_shaped 72 = .ok (.iload 4, 2) := by decide +kernel
theorem dX6_shaped_74 : decode cX6_shaped 74 = .ok (.ifCond .ge 18, 3) := by decide +kernel
theorem dX6_shaped_77 : decode cX6_shaped 77 = .ok (.iload 4, 2) := by decide +kernel
theorem dX6_shaped_79 : decode cX6_shaped 79 = .ok (.bipush (-3), 2) := by decide +kernel
theorem dX6_shaped_81 : decode cX6_shaped 81 = .ok (.if_icmp .eq 11, 3) := by decide +kernel
theorem dX6_shaped_84 : decode cX6_shaped 84 = .ok (.aload_n 0, 1) := by decide +kernel
theorem dX6_shaped_85 : decode cX6_shaped 85 = .ok (.iconst 3, 1) := by decide +kernel
theorem dX6_shaped_86 : decode cX6_shaped 86 = .ok (.bipush (-3), 2) := by decide +kernel
theorem dX6_shaped_88 : decode cX6_shaped 88 = .ok (.invokevirtual 168, 3) := by decide +kernel
theorem dX6_shaped_91 : decode cX6_shaped 91 = .ok (.ireturn, 1) := by decide +kernel
theorem dX6_shaped_92 : decode cX6_shaped 92 = .ok (.iload_n 3, 1) := by decide +kernel
theorem dX6_shaped_93 : decode cX6_shaped 93 = .ok (.bipush (-3), 2) := by decide +kernel
theorem dX6_shaped_95 : decode cX6_shaped 95 = .ok (.if_icmp .ne 7, 3) := by decide +kernel
theorem dX6_shaped_98 : decode cX6_shaped 98 = .ok (.iconst 1, 1) := by decide +kernel
theorem dX6_shaped_99 : decode cX6_shaped 99 = .ok (.goto 15, 3) := by decide +kernel
theorem dX6_shaped_102 : decode cX6_shaped 102 = .ok (.iload 4, 2) := by decide +kernel
theorem dX6_shaped_104 : decode cX6_shaped 104 = .ok (.bipush (-3), 2) := by decide +kernel
theorem dX6_shaped_106 : decode cX6_shaped 106 = .ok (.if_icmp .ne 7, 3) := by decide +kernel
theorem dX6_shaped_109 : decode cX6_shaped 109 = .ok (.iconst 2, 1) := by decide +kernel
theorem dX6_shaped_110 : decode cX6_shaped 110 = .ok (.goto 4, 3) := by decide +kernel
theorem dX6_shaped_113 : decode cX6_shaped 113 = .ok (.iconst 3, 1) := by decide +kernel
theorem dX6_shaped_114 : decode cX6_shaped 114 = .ok (.istore 5, 2) := by decide +kernel
theorem dX6_shaped_116 : decode cX6_shaped 116 = .ok (.iload_n 2, 1) := by decide +kernel
theorem dX6_shaped_117 : decode cX6_shaped 117 = .ok (.iload 5, 2) := by decide +kernel
theorem dX6_shaped_119 : decode cX6_shaped 119 = .ok (.iconst 1, 1) := by decide +kernel
theorem dX6_shaped_120 : decode cX6_shaped 120 = .ok (.if_icmp .le 7, 3) := by decide +kernel
theorem dX6_shaped_123 : decode cX6_shaped 123 = .ok (.iload_n 3, 1) := by decide +kernel
theorem dX6_shaped_124 : decode cX6_shaped 124 = .ok (.goto 4, 3) := by decide +kernel
theorem dX6_shaped_127 : decode cX6_shaped 127 = .ok (.iconst 1, 1) := by decide +kernel
theorem dX6_shaped_128 : decode cX6_shaped 128 = .ok (.imul, 1) := by decide +kernel
theorem dX6_shaped_129 : decode cX6_shaped 129 = .ok (.iload 5, 2) := by decide +kernel
theorem dX6_shaped_131 : decode cX6_shaped 131 = .ok (.iconst 2, 1) := by decide +kernel
theorem dX6_shaped_132 : decode cX6_shaped 132 = .ok (.if_icmp .le 8, 3) := by decide +kernel
theorem dX6_shaped_135 : decode cX6_shaped 135 = .ok (.iload 4, 2) := by decide +kernel
theorem dX6_shaped_137 : decode cX6_shaped 137 = .ok (.goto 4, 3) := by decide +kernel
theorem dX6_shaped_140 : decode cX6_shaped 140 = .ok (.iconst 1, 1) := by decide +kernel
theorem dX6_shaped_141 : decode cX6_shaped 141 = .ok (.imul, 1) := by decide +kernel
theorem dX6_shaped_142 : decode cX6_shaped 142 = .ok (.istore 6, 2) := by decide +kernel
theorem dX6_shaped_144 : decode cX6_shaped 144 = .ok (.iload 6, 2) := by decide +kernel
theorem dX6_shaped_146 : decode cX6_shaped 146 = .ok (.sipush 240, 3) := by decide +kernel
theorem dX6_shaped_149 : decode cX6_shaped 149 = .ok (.if_icmp .le 12, 3) := by decide +kernel
theorem dX6_shaped_152 : decode cX6_shaped 152 = .ok (.aload_n 0, 1) := by decide +kernel
theorem dX6_shaped_153 : decode cX6_shaped 153 = .ok (.bipush 6, 2) := by decide +kernel
theorem dX6_shaped_155 : decode cX6_shaped 155 = .ok (.bipush (-3), 2) := by decide +kernel
theorem dX6_shaped_157 : decode cX6_shaped 157 = .ok (.invokevirtual 168, 3) := by decide +kernel
theorem dX6_shaped_160 : decode cX6_shaped 160 = .ok (.ireturn, 1) := by decide +kernel
theorem dX6_shaped_161 : decode cX6_shaped 161 = .ok (.aload_n 0, 1) := by decide +kernel
theorem dX6_shaped_162 : decode cX6_shaped 162 = .ok (.iload 5, 2) := by decide +kernel
theorem dX6_shaped_164 : decode cX6_shaped 164 = .ok (.putfield 153, 3) := by decide +kernel
theorem dX6_shaped_167 : decode cX6_shaped 167 = .ok (.aload_n 0, 1) := by decide +kernel
theorem dX6_shaped_168 : decode cX6_shaped 168 = .ok (.getfield 37, 3) := by decide +kernel
theorem dX6_shaped_171 : decode cX6_shaped 171 = .ok (.iload 5, 2) := by decide +kernel
theorem dX6_shaped_173 : decode cX6_shaped 173 = .ok (.iconst 1, 1) := by decide +kernel
theorem dX6_shaped_174 : decode cX6_shaped 174 = .ok (.isub, 1) := by decide +kernel
theorem dX6_shaped_175 : decode cX6_shaped 175 = .ok (.iload_n 2, 1) := by decide +kernel
theorem dX6_shaped_176 : decode cX6_shaped 176 = .ok (.iastore, 1) := by decide +kernel
theorem dX6_shaped_177 : decode cX6_shaped 177 = .ok (.iload 5, 2) := by decide +kernel
theorem dX6_shaped_179 : decode cX6_shaped 179 = .ok (.iconst 1, 1) := by decide +kernel
theorem dX6_shaped_180 : decode cX6_shaped 180 = .ok (.if_icmp .le 13, 3) := by decide +kernel
theorem dX6_shaped_183 : decode cX6_shaped 183 = .ok (.aload_n 0, 1) := by decide +kernel
theorem dX6_shaped_184 : decode cX6_shaped 184 = .ok (.getfield 37, 3) := by decide +kernel
theorem dX6_shaped_187 : decode cX6_shaped 187 = .ok (.iload 5, 2) := by decide +kernel
theorem dX6_shaped_189 : decode cX6_shaped 189 = .ok (.iconst 2, 1) := by decide +kernel
theorem dX6_shaped_190 : decode cX6_shaped 190 = .ok (.isub, 1) := by decide +kernel
theorem dX6_shaped_191 : decode cX6_shaped 191 = .ok (.iload_n 3, 1) := by decide +kernel
theorem dX6_shaped_192 : decode cX6_shaped 192 = .ok (.iastore, 1) := by decide +kernel
theorem dX6_shaped_193 : decode cX6_shaped 193 = .ok (.iload 5, 2) := by decide +kernel
theorem dX6_shaped_195 : decode cX6_shaped 195 = .ok (.iconst 2, 1) := by decide +kernel
theorem dX6_shaped_196 : decode cX6_shaped 196 = .ok (.if_icmp .le 11, 3) := by decide +kernel
theorem dX6_shaped_199 : decode cX6_shaped 199 = .ok (.aload_n 0, 1) := by decide +kernel
theorem dX6_shaped_200 : decode cX6_shaped 200 = .ok (.getfield 37, 3) := by decide +kernel
theorem dX6_shaped_203 : decode cX6_shaped 203 = .ok (.iconst 0, 1) := by decide +kernel
theorem dX6_shaped_204 : decode cX6_shaped 204 = .ok (.iload 4, 2) := by decide +kernel
theorem dX6_shaped_206 : decode cX6_shaped 206 = .ok (.iastore, 1) := by decide +kernel
theorem dX6_shaped_207 : decode cX6_shaped 207 = .ok (.aload_n 0, 1) := by decide +kernel
theorem dX6_shaped_208 : decode cX6_shaped 208 = .ok (.iload 6, 2) := by decide +kernel
theorem dX6_shaped_210 : decode cX6_shaped 210 = .ok (.putfield 160, 3) := by decide +kernel
theorem dX6_shaped_213 : decode cX6_shaped 213 = .ok (.iconst 0, 1) := by decide +kernel
theorem dX6_shaped_214 : decode cX6_shaped 214 = .ok (.istore 7, 2) := by decide +kernel
theorem dX6_shaped_216 : decode cX6_shaped 216 = .ok (.iload 7, 2) := by decide +kernel
theorem dX6_shaped_218 : decode cX6_shaped 218 = .ok (.iload 6, 2) := by decide +kernel
theorem dX6_shaped_220 : decode cX6_shaped 220 = .ok (.if_icmp .ge 17, 3) := by decide +kernel
theorem dX6_shaped_223 : decode cX6_shaped 223 = .ok (.aload_n 0, 1) := by decide +kernel
theorem dX6_shaped_224 : decode cX6_shaped 224 = .ok (.getfield 30, 3) := by decide +kernel
theorem dX6_shaped_227 : decode cX6_shaped 227 = .ok (.iload 7, 2) := by decide +kernel
theorem dX6_shaped_229 : decode cX6_shaped 229 = .ok (.lconst 0, 1) := by decide +kernel
theorem dX6_shaped_230 : decode cX6_shaped 230 = .ok (.lastore, 1) := by decide +kernel
theorem dX6_shaped_231 : decode cX6_shaped 231 = .ok (.iinc 7 1, 3) := by decide +kernel
theorem dX6_shaped_234 : decode cX6_shaped 234 = .ok (.goto (-18), 3) := by decide +kernel
theorem dX6_shaped_237 : decode cX6_shaped 237 = .ok (.aload_n 0, 1) := by decide +kernel
theorem dX6_shaped_238 : decode cX6_shaped 238 = .ok (.iload_n 1, 1) := by decide +kernel
theorem dX6_shaped_239 : decode cX6_shaped 239 = .ok (.invokevirtual 165, 3) := by decide +kernel
theorem dX6_shaped_242 : decode cX6_shaped 242 = .ok (.ireturn, 1) := by decide +kernel
theorem dX6_free_0 : decode cX6_free 0 = .ok (.aload_n 0, 1) := by decide +kernel
theorem dX6_free_1 : decode cX6_free 1 = .ok (.iload_n 1, 1) := by decide +kernel
theorem dX6_free_2 : decode cX6_free 2 = .ok (.invokevirtual 171, 3) := by decide +kernel
theorem dX6_free_5 : decode cX6_free 5 = .ok (.ifCond .ne 5, 3) := by decide +kernel
theorem dX6_free_8 : decode cX6_free 8 = .ok (.iconst (-1), 1) := by decide +kernel
theorem dX6_free_9 : decode cX6_free 9 = .ok (.ireturn, 1) := by decide +kernel
theorem dX6_free_10 : decode cX6_free 10 = .ok (.aload_n 0, 1) := by decide +kernel
theorem dX6_free_11 : decode cX6_free 11 = .ok (.getfield 22, 3) := by decide +kernel
theorem dX6_free_14 : decode cX6_free 14 = .ok (.iload_n 1, 1) := by decide +kernel
theorem dX6_free_15 : decode cX6_free 15 = .ok (.baload, 1) := by decide +kernel
theorem dX6_free_16 : decode cX6_free 16 = .ok (.ifCond .eq 11, 3) := by decide +kernel
theorem dX6_free_19 : decode cX6_free 19 = .ok (.aload_n 0, 1) := by decide +kernel
theorem dX6_free_20 : decode cX6_free 20 = .ok (.iconst 1, 1) := by decide +kernel
theorem dX6_free_21 : decode cX6_free 21 = .ok (.bipush (-3), 2) := by decide +kernel
theorem dX6_free_23 : decode cX6_free 23 = .ok (.invokevirtual 168, 3) := by decide +kernel
theorem dX6_free_26 : decode cX6_free 26 = .ok (.ireturn, 1) := by decide +kernel
theorem dX6_free_27 : decode cX6_free 27 = .ok (.aload_n 0, 1) := by decide +kernel
theorem dX6_free_28 : decode cX6_free 28 = .ok (.getfield 22, 3) := by decide +kernel
theorem dX6_free_31 : decode cX6_free 31 = .ok (.iload_n 1, 1) := by decide +kernel
theorem dX6_free_32 : decode cX6_free 32 = .ok (.iconst 1, 1) := by decide +kernel
theorem dX6_free_33 : decode cX6_free 33 = .ok (.bastore, 1) := by decide +kernel
theorem dX6_free_34 : decode cX6_free 34 = .ok (.iconst 1, 1) := by decide +kernel
theorem dX6_free_35 : decode cX6_free 35 = .ok (.ireturn, 1) := by decide +kernel
theorem dX6_setting_0 : decode cX6_setting 0 = .ok (.iload_n 1, 1) := by decide +kernel
theorem dX6_setting_1 : decode cX6_setting 1 = .ok (.i2l, 1) := by decide +kernel
theorem dX6_setting_2 : decode cX6_setting 2 = .ok (.lconst 0, 1) := by decide +kernel
theorem dX6_setting_3 : decode cX6_setting 3 = .ok (.lconst 1, 1) := by decide +kernel
theorem dX6_setting_4 : decode cX6_setting 4 = .ok (.invokestatic 149, 3) := by decide +kernel
theorem dX6_setting_7 : decode cX6_setting 7 = .ok (.ifCond .ne 5, 3) := by decide +kernel
theorem dX6_setting_10 : decode cX6_setting 10 = .ok (.iconst (-1), 1) := by decide +kernel
theorem dX6_setting_11 : decode cX6_setting 11 = .ok (.ireturn, 1) := by decide +kernel
theorem dX6_setting_12 : decode cX6_setting 12 = .ok (.aload_n 0, 1) := by decide +kernel
theorem dX6_setting_13 : decode cX6_setting 13 = .ok (.getfield 175, 3) := by decide +kernel
theorem dX6_setting_16 : decode cX6_setting 16 = .ok (.istore_n 2, 1) := by decide +kernel
theorem dX6_setting_17 : decode cX6_setting 17 = .ok (.aload_n 0, 1) := by decide +kernel
theorem dX6_setting_18 : decode cX6_setting 18 = .ok (.iload_n 1, 1) := by decide +kernel
theorem dX6_setting_19 : decode cX6_setting 19 = .ok (.putfield 175, 3) := by decide +kernel
theorem dX6_setting_22 : decode cX6_setting 22 = .ok (.iload_n 2, 1) := by decide +kernel
theorem dX6_setting_23 : decode cX6_setting 23 = .ok (.ireturn, 1) := by decide +kernel
theorem dX6_item_0 : decode cX6_item 0 = .ok (.aload_n 0, 1) := by decide +kernel
theorem dX6_item_1 : decode cX6_item 1 = .ok (.iload_n 1, 1) := by decide +kernel
theorem dX6_item_2 : decode cX6_item 2 = .ok (.invokevirtual 171, 3) := by decide +kernel
theorem dX6_item_5 : decode cX6_item 5 = .ok (.ifCond .ne 5, 3) := by decide +kernel
theorem dX6_item_8 : decode cX6_item 8 = .ok (.iconst (-1), 1) := by decide +kernel
theorem dX6_item_9 : decode cX6_item 9 = .ok (.ireturn, 1) := by decide +kernel
theorem dX6_item_10 : decode cX6_item 10 = .ok (.aload_n 0, 1) := by decide +kernel
theorem dX6_item_11 : decode cX6_item 11 = .ok (.getfield 22, 3) := by decide +kernel
theorem dX6_item_14 : decode cX6_item 14 = .ok (.iload_n 1, 1) := by decide +kernel
theorem dX6_item_15 : decode cX6_item 15 = .ok (.baload, 1) := by decide +kernel
theorem dX6_item_16 : decode cX6_item 16 = .ok (.ifCond .eq 11, 3) := by decide +kernel
theorem dX6_item_19 : decode cX6_item 19 = .ok (.aload_n 0, 1) := by decide +kernel
theorem dX6_item_20 : decode cX6_item 20 = .ok (.iconst 1, 1) := by decide +kernel
theorem dX6_item_21 : decode cX6_item 21 = .ok (.bipush (-3), 2) := by decide +kernel
theorem dX6_item_23 : decode cX6_item 23 = .ok (.invokevirtual 168, 3) := by decide +kernel
theorem dX6_item_26 : decode cX6_item 26 = .ok (.ireturn, 1) := by decide +kernel
theorem dX6_item_27 : decode cX6_item 27 = .ok (.iload_n 2, 1) := by decide +kernel
theorem dX6_item_28 : decode cX6_item 28 = .ok (.i2l, 1) := by decide +kernel
theorem dX6_item_29 : decode cX6_item 29 = .ok (.lconst 0, 1) := by decide +kernel
theorem dX6_item_30 : decode cX6_item 30 = .ok (.aload_n 0, 1) := by decide +kernel
theorem dX6_item_31 : decode cX6_item 31 = .ok (.getfield 19, 3) := by decide +kernel
theorem dX6_item_34 : decode cX6_item 34 = .ok (.iload_n 1, 1) := by decide +kernel
theorem dX6_item_35 : decode cX6_item 35 = .ok (.iaload, 1) := by decide +kernel
theorem dX6_item_36 : decode cX6_item 36 = .ok (.iconst 1, 1) := by decide +kernel
theorem dX6_item_37 : decode cX6_item 37 = .ok (.isub, 1) := by decide +kernel
theorem dX6_item_38 : decode cX6_item 38 = .ok (.i2l, 1) := by decide +kernel
theorem dX6_item_39 : decode cX6_item 39 = .ok (.invokestatic 149, 3) := by decide +kernel
theorem dX6_item_42 : decode cX6_item 42 = .ok (.ifCond .ne 11, 3) := by decide +kernel
theorem dX6_item_45 : decode cX6_item 45 = .ok (.aload_n 0, 1) := by decide +kernel
theorem dX6_item_46 : decode cX6_item 46 = .ok (.iconst 2, 1) := by decide +kernel
theorem dX6_item_47 : decode cX6_item 47 = .ok (.bipush (-3), 2) := by decide +kernel
theorem dX6_item_49 : decode cX6_item 49 = .ok (.invokevirtual 168, 3) := by decide +kernel
theorem dX6_item_52 : decode cX6_item 52 = .ok (.ireturn, 1) := by decide +kernel
theorem dX6_item_53 : decode cX6_item 53 = .ok (.aload_n 0, 1) := by decide +kernel
theorem dX6_item_54 : decode cX6_item 54 = .ok (.getfield 26, 3) := by decide +kernel
theorem dX6_item_57 : decode cX6_item 57 = .ok (.sipush 240, 3) := by decide +kernel
theorem dX6_item_60 : decode cX6_item 60 = .ok (.iload_n 1, 1) := by decide +kernel
theorem dX6_item_61 : decode cX6_item 61 = .ok (.imul, 1) := by decide +kernel
theorem dX6_item_62 : decode cX6_item 62 = .ok (.iload_n 2, 1) := by decide +kernel
theorem dX6_item_63 : decode cX6_item 63 = .ok (.iadd, 1) := by decide +kernel
theorem dX6_item_64 : decode cX6_item 64 = .ok (.lload_n 3, 1) := by decide +kernel
theorem dX6_item_65 : decode cX6_item 65 = .ok (.aload_n 0, 1) := by decide +kernel
theorem dX6_item_66 : decode cX6_item 66 = .ok (.getfield 7, 3) := by decide +kernel
theorem dX6_item_69 : decode cX6_item 69 = .ok (.iload_n 1, 1) := by decide +kernel
theorem dX6_item_70 : decode cX6_item 70 = .ok (.iaload, 1) := by decide +kernel
theorem dX6_item_71 : decode cX6_item 71 = .ok (.invokestatic 121, 3) := by decide +kernel
theorem dX6_item_74 : decode cX6_item 74 = .ok (.lastore, 1) := by decide +kernel
theorem dX6_item_75 : decode cX6_item 75 = .ok (.iconst 1, 1) := by decide +kernel
theorem dX6_item_76 : decode cX6_item 76 = .ok (.ireturn, 1) := by decide +kernel
theorem dX6_bits_0 : decode cX6_bits 0 = .ok (.aload_n 0, 1) := by decide +kernel
theorem dX6_bits_1 : decode cX6_bits 1 = .ok (.iload_n 1, 1) := by decide +kernel
theorem dX6_bits_2 : decode cX6_bits 2 = .ok (.invokevirtual 171, 3) := by decide +kernel
theorem dX6_bits_5 : decode cX6_bits 5 = .ok (.ifCond .eq 15, 3) := by decide +kernel
theorem dX6_bits_8 : decode cX6_bits 8 = .ok (.iload_n 3, 1) := by decide +kernel
theorem dX6_bits_9 : decode cX6_bits 9 = .ok (.i2l, 1) := by decide +kernel
theorem dX6_bits_10 : decode cX6_bits 10 = .ok (.lconst 0, 1) := by decide +kernel
theorem dX6_bits_11 : decode cX6_bits 11 = .ok (.ldc2_w 163, 3) := by decide +kernel
theorem dX6_bits_14 : decode cX6_bits 14 = .ok (.invokestatic 149, 3) := by decide +kernel
theorem dX6_bits_17 : decode cX6_bits 17 = .ok (.ifCond .ne 7, 3) := by decide +kernel
theorem dX6_bits_20 : decode cX6_bits 20 = .ok (.ldc2_w 117, 3) := by decide +kernel
theorem dX6_bits_23 : decode cX6_bits 23 = .ok (.lreturn, 1) := by decide +kernel
theorem dX6_bits_24 : decode cX6_bits 24 = .ok (.aload_n 0, 1) := by decide +kernel
theorem dX6_bits_25 : decode cX6_bits 25 = .ok (.getfield 22, 3) := by decide +kernel
theorem dX6_bits_28 : decode cX6_bits 28 = .ok (.iload_n 1, 1) := by decide +kernel
theorem dX6_bits_29 : decode cX6_bits 29 = .ok (.baload, 1) := by decide +kernel
theorem dX6_bits_30 : decode cX6_bits 30 = .ok (.ifCond .eq 12, 3) := by decide +kernel
theorem dX6_bits_33 : decode cX6_bits 33 = .ok (.aload_n 0, 1) := by decide +kernel
theorem dX6_bits_34 : decode cX6_bits 34 = .ok (.iconst 1, 1) := by decide +kernel
theorem dX6_bits_35 : decode cX6_bits 35 = .ok (.bipush (-3), 2) := by decide +kernel
theorem dX6_bits_37 : decode cX6_bits 37 = .ok (.invokevirtual 168, 3) := by decide +kernel
theorem dX6_bits_40 : decode cX6_bits 40 = .ok (.i2l, 1) := by decide +kernel
theorem dX6_bits_41 : decode cX6_bits 41 = .ok (.lreturn, 1) := by decide +kernel
theorem dX6_bits_42 : decode cX6_bits 42 = .ok (.aload_n 0, 1) := by decide +kernel
theorem dX6_bits_43 : decode cX6_bits 43 = .ok (.getfield 7, 3) := by decide +kernel
theorem dX6_bits_46 : decode cX6_bits 46 = .ok (.iload_n 1, 1) := by decide +kernel
theorem dX6_bits_47 : decode cX6_bits 47 = .ok (.iaload, 1) := by decide +kernel
theorem dX6_bits_48 : decode cX6_bits 48 = .ok (.iload_n 3, 1) := by decide +kernel
theorem dX6_bits_49 : decode cX6_bits 49 = .ok (.if_icmp .eq 12, 3) := by decide +kernel
theorem dX6_bits_52 : decode cX6_bits 52 = .ok (.aload_n 0, 1) := by decide +kernel
theorem dX6_bits_53 : decode cX6_bits 53 = .ok (.iconst 4, 1) := by decide +kernel
theorem dX6_bits_54 : decode cX6_bits 54 = .ok (.bipush (-3), 2) := by decide +kernel
theorem dX6_bits_56 : decode cX6_bits 56 = .ok (.invokevirtual 168, 3) := by decide +kernel
theorem dX6_bits_59 : decode cX6_bits 59 = .ok (.i2l, 1) := by decide +kernel
theorem dX6_bits_60 : decode cX6_bits 60 = .ok (.lreturn, 1) := by decide +kernel
theorem dX6_bits_61 : decode cX6_bits 61 = .ok (.iload_n 2, 1) := by decide +kernel
theorem dX6_bits_62 : decode cX6_bits 62 = .ok (.i2l, 1) := by decide +kernel
theorem dX6_bits_63 : decode cX6_bits 63 = .ok (.lconst 0, 1) := by decide +kernel
theorem dX6_bits_64 : decode cX6_bits 64 = .ok (.aload_n 0, 1) := by decide +kernel
theorem dX6_bits_65 : decode cX6_bits 65 = .ok (.getfield 19, 3) := by decide +kernel
theorem dX6_bits_68 : decode cX6_bits 68 = .ok (.iload_n 1, 1) := by decide +kernel
theorem dX6_bits_69 : decode cX6_bits 69 = .ok (.iaload, 1) := by decide +kernel
theorem dX6_bits_70 : decode cX6_bits 70 = .ok (.iconst 1, 1) := by decide +kernel
theorem dX6_bits_71 : decode cX6_bits 71 = .ok (.isub, 1) := by decide +kernel
theorem dX6_bits_72 : decode cX6_bits 72 = .ok (.i2l, 1) := by decide +kernel
theorem dX6_bits_73 : decode cX6_bits 73 = .ok (.invokestatic 149, 3) := by decide +kernel
theorem dX6_bits_76 : decode cX6_bits 76 = .ok (.ifCond .eq 18, 3) := by decide +kernel
theorem dX6_bits_79 : decode cX6_bits 79 = .ok (.aload_n 0, 1) := by decide +kernel
theorem dX6_bits_80 : decode cX6_bits 80 = .ok (.getfield 26, 3) := by decide +kernel
theorem dX6_bits_83 : decode cX6_bits 83 = .ok (.sipush 240, 3) := by decide +kernel
theorem dX6_bits_86 : decode cX6_bits 86 = .ok (.iload_n 1, 1) := by decide +kernel
theorem dX6_bits_87 : decode cX6_bits 87 = .ok (.imul, 1) := by decide +kernel
theorem dX6_bits_88 : decode cX6_bits 88 = .ok (.iload_n 2, 1) := by decide +kernel
theorem dX6_bits_89 : decode cX6_bits 89 = .ok (.iadd, 1) := by decide +kernel
theorem dX6_bits_90 : decode cX6_bits 90 = .ok (.laload, 1) := by decide +kernel
theorem dX6_bits_91 : decode cX6_bits 91 = .ok (.goto 11, 3) := by decide +kernel
theorem dX6_bits_94 : decode cX6_bits 94 = .ok (.aload_n 0, 1) := by decide +kernel
theorem dX6_bits_95 : decode cX6_bits 95 = .ok (.iconst 2, 1) := by decide +kernel
theorem dX6_bits_96 : decode cX6_bits 96 = .ok (.bipush (-3), 2) := by decide +kernel
theorem dX6_bits_98 : decode cX6_bits 98 = .ok (.invokevirtual 168, 3) := by decide +kernel
theorem dX6_bits_101 : decode cX6_bits 101 = .ok (.i2l, 1) := by decide +kernel
theorem dX6_bits_102 : decode cX6_bits 102 = .ok (.lreturn, 1) := by decide +kernel
theorem dX6_index_0 : decode cX6_index 0 = .ok (.aload_n 0, 1) := by decide +kernel
theorem dX6_index_1 : decode cX6_index 1 = .ok (.iload_n 1, 1) := by decide +kernel
theorem dX6_index_2 : decode cX6_index 2 = .ok (.invokevirtual 171, 3) := by decide +kernel
theorem dX6_index_5 : decode cX6_index 5 = .ok (.ifCond .ne 5, 3) := by decide +kernel
theorem dX6_index_8 : decode cX6_index 8 = .ok (.iconst (-1), 1) := by decide +kernel
theorem dX6_index_9 : decode cX6_index 9 = .ok (.ireturn, 1) := by decide +kernel
theorem dX6_index_10 : decode cX6_index 10 = .ok (.aload_n 0, 1) := by decide +kernel
theorem dX6_index_11 : decode cX6_index 11 = .ok (.getfield 22, 3) := by decide +kernel
theorem dX6_index_14 : decode cX6_index 14 = .ok (.iload_n 1, 1) := by decide +kernel
theorem dX6_index_15 : decode cX6_index 15 = .ok (.baload, 1) := by decide +kernel
theorem dX6_index_16 : decode cX6_index 16 = .ok (.ifCond .eq 11, 3) := by decide +kernel
theorem dX6_index_19 : decode cX6_index 19 = .ok (.aload_n 0, 1) := by decide +kernel
theorem dX6_index_20 : decode cX6_index 20 = .ok (.iconst 1, 1) := by decide +kernel
theorem dX6_index_21 : decode cX6_index 21 = .ok (.bipush (-3), 2) := by decide +kernel
theorem dX6_index_23 : decode cX6_index 23 = .ok (.invokevirtual 168, 3) := by decide +kernel
theorem dX6_index_26 : decode cX6_index 26 = .ok (.ireturn, 1) := by decide +kernel
theorem dX6_index_27 : decode cX6_index 27 = .ok (.iconst 0, 1) := by decide +kernel
theorem dX6_index_28 : decode cX6_index 28 = .ok (.istore 5, 2) := by decide +kernel
theorem dX6_index_30 : decode cX6_index 30 = .ok (.iconst 0, 1) := by decide +kernel
theorem dX6_index_31 : decode cX6_index 31 = .ok (.istore 6, 2) := by decide +kernel
theorem dX6_index_33 : decode cX6_index 33 = .ok (.iload 6, 2) := by decide +kernel
theorem dX6_index_35 : decode cX6_index 35 = .ok (.aload_n 0, 1) := by decide +kernel
theorem dX6_index_36 : decode cX6_index 36 = .ok (.getfield 13, 3) := by decide +kernel
theorem dX6_index_39 : decode cX6_index 39 = .ok (.iload_n 1, 1) := by decide +kernel
theorem dX6_index_40 : decode cX6_index 40 = .ok (.iaload, 1) := by decide +kernel
theorem dX6_index_41 : decode cX6_index 41 = .ok (.if_icmp .ge 78, 3) := by decide +kernel
theorem dX6_index_44 : decode cX6_index 44 = .ok (.iload 6, 2) := by decide +kernel
theorem dX6_index_46 : decode cX6_index 46 = .ok (.ifCond .ne 7, 3) := by decide +kernel
theorem dX6_index_49 : decode cX6_index 49 = .ok (.iload_n 2, 1) := by decide +kernel
theorem dX6_index_50 : decode cX6_index 50 = .ok (.goto 15, 3) := by decide +kernel
theorem dX6_index_53 : decode cX6_index 53 = .ok (.iload 6, 2) := by decide +kernel
theorem dX6_index_55 : decode cX6_index 55 = .ok (.iconst 1, 1) := by decide +kernel
theorem dX6_index_56 : decode cX6_index 56 = .ok (.if_icmp .ne 7, 3) := by decide +kernel
theorem dX6_index_59 : decode cX6_index 59 = .ok (.iload_n 3, 1) := by decide +kernel
theorem dX6_index_60 : decode cX6_index 60 = .ok (.goto 5, 3) := by decide +kernel
theorem dX6_index_63 : decode cX6_index 63 = .ok (.iload 4, 2) := by decide +kernel
theorem dX6_index_65 : decode cX6_index 65 = .ok (.istore 7, 2) := by decide +kernel
theorem dX6_index_67 : decode cX6_index 67 = .ok (.aload_n 0, 1) := by decide +kernel
theorem dX6_index_68 : decode cX6_index 68 = .ok (.getfield 16, 3) := by decide +kernel
theorem dX6_index_71 : decode cX6_index 71 = .ok (.iconst 3, 1) := by decide +kernel
theorem dX6_index_72 : decode cX6_index 72 = .ok (.iload_n 1, 1) := by decide +kernel
theorem dX6_index_73 : decode cX6_index 73 = .ok (.imul, 1) := by decide +kernel
theorem dX6_index_74 : decode cX6_index 74 = .ok (.iload 6, 2) := by decide +kernel
theorem dX6_index_76 : decode cX6_index 76 = .ok (.iadd, 1) := by decide +kernel
theorem dX6_index_77 : decode cX6_index 77 = .ok (.iaload, 1) := by decide +kernel
theorem dX6_index_78 : decode cX6_index 78 = .ok (.istore 8, 2) := by decide +kernel
theorem dX6_index_80 : decode cX6_index 80 = .ok (.iload 7, 2) := by decide +kernel
theorem dX6_index_82 : decode cX6_index 82 = .ok (.i2l, 1) := by decide +kernel
theorem dX6_index_83 : decode cX6_index 83 = .ok (.lconst 0, 1) := by decide +kernel
theorem dX6_index_84 : decode cX6_index 84 = .ok (.iload 8, 2) := by decide +kernel
theorem dX6_index_86 : decode cX6_index 86 = .ok (.iconst 1, 1) := by decide +kernel
theorem dX6_index_87 : decode cX6_index 87 = .ok (.isub, 1) := by decide +kernel
theorem dX6_index_88 : decode cX6_index 88 = .ok (.i2l, 1) := by decide +kernel
theorem dX6_index_89 : decode cX6_index 89 = .ok (.invokestatic 149, 3) := by decide +kernel
theorem dX6_index_92 : decode cX6_index 92 = .ok (.ifCond .ne 11, 3) := by decide +kernel
theorem dX6_index_95 : decode cX6_index 95 = .ok (.aload_n 0, 1) := by decide +kernel
theorem dX6_index_96 : decode cX6_index 96 = .ok (.iconst 2, 1) := by decide +kernel
theorem dX6_index_97 : decode cX6_index 97 = .ok (.bipush (-3), 2) := by decide +kernel
theorem dX6_index_99 : decode cX6_index 99 = .ok (.invokevirtual 168, 3) := by decide +kernel
theorem dX6_index_102 : decode cX6_index 102 = .ok (.ireturn, 1) := by decide +kernel
theorem dX6_index_103 : decode cX6_index 103 = .ok (.iload 5, 2) := by decide +kernel
theorem dX6_index_105 : decode cX6_index 105 = .ok (.iload 8, 2) := by decide +kernel
theorem dX6_index_107 : decode cX6_index 107 = .ok (.imul, 1) := by decide +kernel
theorem dX6_index_108 : decode cX6_index 108 = .ok (.iload 7, 2) := by decide +kernel
theorem dX6_index_110 : decode cX6_index 110 = .ok (.iadd, 1) := by decide +kernel
theorem dX6_index_111 : decode cX6_index 111 = .ok (.istore 5, 2) := by decide +kernel
theorem dX6_index_113 : decode cX6_index 113 = .ok (.iinc 6 1, 3) := by decide +kernel
theorem dX6_index_116 : decode cX6_index 116 = .ok (.goto (-83), 3) := by decide +kernel
theorem dX6_index_119 : decode cX6_index 119 = .ok (.iload 5, 2) := by decide +kernel
theorem dX6_index_121 : decode cX6_index 121 = .ok (.ireturn, 1) := by decide +kernel
theorem dX6_of_0 : decode cX6_of 0 = .ok (.aload_n 0, 1) := by decide +kernel
theorem dX6_of_1 : decode cX6_of 1 = .ok (.iload_n 1, 1) := by decide +kernel
theorem dX6_of_2 : decode cX6_of 2 = .ok (.invokevirtual 171, 3) := by decide +kernel
theorem dX6_of_5 : decode cX6_of 5 = .ok (.ifCond .eq 15, 3) := by decide +kernel
theorem dX6_of_8 : decode cX6_of 8 = .ok (.iload_n 2, 1) := by decide +kernel
theorem dX6_of_9 : decode cX6_of 9 = .ok (.i2l, 1) := by decide +kernel
theorem dX6_of_10 : decode cX6_of 10 = .ok (.lconst 0, 1) := by decide +kernel
theorem dX6_of_11 : decode cX6_of 11 = .ok (.ldc2_w 163, 3) := by decide +kernel
theorem dX6_of_14 : decode cX6_of 14 = .ok (.invokestatic 149, 3) := by decide +kernel
theorem dX6_of_17 : decode cX6_of 17 = .ok (.ifCond .ne 5, 3) := by decide +kernel
theorem dX6_of_20 : decode cX6_of 20 = .ok (.iconst (-1), 1) := by decide +kernel
theorem dX6_of_21 : decode cX6_of 21 = .ok (.ireturn, 1) := by decide +kernel
theorem dX6_of_22 : decode cX6_of 22 = .ok (.aload_n 0, 1) := by decide +kernel
theorem dX6_of_23 : decode cX6_of 23 = .ok (.getfield 22, 3) := by decide +kernel
theorem dX6_of_26 : decode cX6_of 26 = .ok (.iload_n 1, 1) := by decide +kernel
theorem dX6_of_27 : decode cX6_of 27 = .ok (.baload, 1) := by decide +kernel
theorem dX6_of_28 : decode cX6_of 28 = .ok (.ifCond .eq 11, 3) := by decide +kernel
theorem dX6_of_31 : decode cX6_of 31 = .ok (.aload_n 0, 1) := by decide +kernel
theorem dX6_of_32 : decode cX6_of 32 = .ok (.iconst 1, 1) := by decide +kernel
theorem dX6_of_33 : decode cX6_of 33 = .ok (.bipush (-3), 2) := by decide +kernel
theorem dX6_of_35 : decode cX6_of 35 = .ok (.invokevirtual 168, 3) := by decide +kernel
theorem dX6_of_38 : decode cX6_of 38 = .ok (.ireturn, 1) := by decide +kernel
theorem dX6_of_39 : decode cX6_of 39 = .ok (.iload_n 2, 1) := by decide +kernel
theorem dX6_of_40 : decode cX6_of 40 = .ok (.ifCond .ne 12, 3) := by decide +kernel
theorem dX6_of_43 : decode cX6_of 43 = .ok (.aload_n 0, 1) := by decide +kernel
theorem dX6_of_44 : decode cX6_of 44 = .ok (.getfield 7, 3) := by decide +kernel
theorem dX6_of_47 : decode cX6_of 47 = .ok (.iload_n 1, 1) := by decide +kernel
theorem dX6_of_48 : decode cX6_of 48 = .ok (.iaload, 1) := by decide +kernel
theorem dX6_of_49 : decode cX6_of 49 = .ok (.goto 60, 3) := by decide +kernel
theorem dX6_of_52 : decode cX6_of 52 = .ok (.iload_n 2, 1) := by decide +kernel
theorem dX6_of_53 : decode cX6_of 53 = .ok (.iconst 1, 1) := by decide +kernel
theorem dX6_of_54 : decode cX6_of 54 = .ok (.if_icmp .ne 12, 3) := by decide +kernel
theorem dX6_of_57 : decode cX6_of 57 = .ok (.aload_n 0, 1) := by decide +kernel
theorem dX6_of_58 : decode cX6_of 58 = .ok (.getfield 13, 3) := by decide +kernel
theorem dX6_of_61 : decode cX6_of 61 = .ok (.iload_n 1, 1) := by decide +kernel
theorem dX6_of_62 : decode cX6_of 62 = .ok (.iaload, 1) := by decide +kernel
theorem dX6_of_63 : decode cX6_of 63 = .ok (.goto 46, 3) := by decide +kernel
theorem dX6_of_66 : decode cX6_of 66 = .ok (.iload_n 2, 1) := by decide +kernel
theorem dX6_of_67 : decode cX6_of 67 = .ok (.iconst 2, 1) := by decide +kernel
theorem dX6_of_68 : decode cX6_of 68 = .ok (.if_icmp .ne 12, 3) := by decide +kernel
theorem dX6_of_71 : decode cX6_of 71 = .ok (.aload_n 0, 1) := by decide +kernel
theorem dX6_of_72 : decode cX6_of 72 = .ok (.getfield 19, 3) := by decide +kernel
theorem dX6_of_75 : decode cX6_of 75 = .ok (.iload_n 1, 1) := by decide +kernel
theorem dX6_of_76 : decode cX6_of 76 = .ok (.iaload, 1) := by decide +kernel
theorem dX6_of_77 : decode cX6_of 77 = .ok (.goto 32, 3) := by decide +kernel
theorem dX6_of_80 : decode cX6_of 80 = .ok (.iload_n 2, 1) := by decide +kernel
theorem dX6_of_81 : decode cX6_of 81 = .ok (.iconst 3, 1) := by decide +kernel
theorem dX6_of_82 : decode cX6_of 82 = .ok (.isub, 1) := by decide +kernel
theorem dX6_of_83 : decode cX6_of 83 = .ok (.aload_n 0, 1) := by decide +kernel
theorem dX6_of_84 : decode cX6_of 84 = .ok (.getfield 13, 3) := by decide +kernel
theorem dX6_of_87 : decode cX6_of 87 = .ok (.iload_n 1, 1) := by decide +kernel
theorem dX6_of_88 : decode cX6_of 88 = .ok (.iaload, 1) := by decide +kernel
theorem dX6_of_89 : decode cX6_of 89 = .ok (.if_icmp .ge 18, 3) := by decide +kernel
theorem dX6_of_92 : decode cX6_of 92 = .ok (.aload_n 0, 1) := by decide +kernel
theorem dX6_of_93 : decode cX6_of 93 = .ok (.getfield 16, 3) := by decide +kernel
theorem dX6_of_96 : decode cX6_of 96 = .ok (.iconst 3, 1) := by decide +kernel
theorem dX6_of_97 : decode cX6_of 97 = .ok (.iload_n 1, 1) := by decide +kernel
theorem dX6_of_98 : decode cX6_of 98 = .ok (.imul, 1) := by decide +kernel
theorem dX6_of_99 : decode cX6_of 99 = .ok (.iload_n 2, 1) := by decide +kernel
theorem dX6_of_100 : decode cX6_of 100 = .ok (.iadd, 1) := by decide +kernel
theorem dX6_of_101 : decode cX6_of 101 = .ok (.iconst 3, 1) := by decide +kernel
theorem dX6_of_102 : decode cX6_of 102 = .ok (.isub, 1) := by decide +kernel
theorem dX6_of_103 : decode cX6_of 103 = .ok (.iaload, 1) := by decide +kernel
theorem dX6_of_104 : decode cX6_of 104 = .ok (.goto 5, 3) := by decide +kernel
theorem dX6_of_107 : decode cX6_of 107 = .ok (.bipush (-3), 2) := by decide +kernel
theorem dX6_of_109 : decode cX6_of 109 = .ok (.ireturn, 1) := by decide +kernel
theorem dX6_laneOf_0 : decode cX6_laneOf 0 = .ok (.iload_n 0, 1) := by decide +kernel
theorem dX6_laneOf_1 : decode cX6_laneOf 1 = .ok (.iconst 3, 1) := by decide +kernel
theorem dX6_laneOf_2 : decode cX6_laneOf 2 = .ok (.if_icmp .ne 14, 3) := by decide +kernel
theorem dX6_laneOf_5 : decode cX6_laneOf 5 = .ok (.iload_n 1, 1) := by decide +kernel
theorem dX6_laneOf_6 : decode cX6_laneOf 6 = .ok (.iconst 4, 1) := by decide +kernel
theorem dX6_laneOf_7 : decode cX6_laneOf 7 = .ok (.if_icmp .ge 7, 3) := by decide +kernel
theorem dX6_laneOf_10 : decode cX6_laneOf 10 = .ok (.iconst 5, 1) := by decide +kernel
theorem dX6_laneOf_11 : decode cX6_laneOf 11 = .ok (.goto 4, 3) := by decide +kernel
theorem dX6_laneOf_14 : decode cX6_laneOf 14 = .ok (.iload_n 1, 1) := by decide +kernel
theorem dX6_laneOf_15 : decode cX6_laneOf 15 = .ok (.ireturn, 1) := by decide +kernel
theorem dX6_laneOf_16 : decode cX6_laneOf 16 = .ok (.iload_n 0, 1) := by decide +kernel
theorem dX6_laneOf_17 : decode cX6_laneOf 17 = .ok (.bipush 12, 2) := by decide +kernel
theorem dX6_laneOf_19 : decode cX6_laneOf 19 = .ok (.if_icmp .lt 16, 3) := by decide +kernel
theorem dX6_laneOf_22 : decode cX6_laneOf 22 = .ok (.iload_n 0, 1) := by decide +kernel
theorem dX6_laneOf_23 : decode cX6_laneOf 23 = .ok (.bipush 17, 2) := by decide +kernel
theorem dX6_laneOf_25 : decode cX6_laneOf 25 = .ok (.if_icmp .gt 10, 3) := by decide +kernel
theorem dX6_laneOf_28 : decode cX6_laneOf 28 = .ok (.iload_n 1, 1) := by decide +kernel
theorem dX6_laneOf_29 : decode cX6_laneOf 29 = .ok (.iconst 3, 1) := by decide +kernel
theorem dX6_laneOf_30 : decode cX6_laneOf 30 = .ok (.if_icmp .le 5, 3) := by decide +kernel
theorem dX6_laneOf_33 : decode cX6_laneOf 33 = .ok (.iconst (-1), 1) := by decide +kernel
theorem dX6_laneOf_34 : decode cX6_laneOf 34 = .ok (.ireturn, 1) := by decide +kernel
theorem dX6_laneOf_35 : decode cX6_laneOf 35 = .ok (.iload_n 0, 1) := by decide +kernel
theorem dX6_laneOf_36 : decode cX6_laneOf 36 = .ok (.bipush 8, 2) := by decide +kernel
theorem dX6_laneOf_38 : decode cX6_laneOf 38 = .ok (.if_icmp .lt 21, 3) := by decide +kernel
theorem dX6_laneOf_41 : decode cX6_laneOf 41 = .ok (.iload_n 0, 1) := by decide +kernel
theorem dX6_laneOf_42 : decode cX6_laneOf 42 = .ok (.bipush 15, 2) := by decide +kernel
theorem dX6_laneOf_44 : decode cX6_laneOf 44 = .ok (.if_icmp .lt 9, 3) := by decide +kernel
theorem dX6_laneOf_47 : decode cX6_laneOf 47 = .ok (.iload_n 0, 1) := by decide +kernel
theorem dX6_laneOf_48 : decode cX6_laneOf 48 = .ok (.bipush 17, 2) := by decide +kernel
theorem dX6_laneOf_50 : decode cX6_laneOf 50 = .ok (.if_icmp .le 9, 3) := by decide +kernel
theorem dX6_laneOf_53 : decode cX6_laneOf 53 = .ok (.iload_n 0, 1) := by decide +kernel
theorem dX6_laneOf_54 : decode cX6_laneOf 54 = .ok (.bipush 22, 2) := by decide +kernel
theorem dX6_laneOf_56 : decode cX6_laneOf 56 = .ok (.if_icmp .ne 7, 3) := by decide +kernel
theorem dX6_laneOf_59 : decode cX6_laneOf 59 = .ok (.iconst 1, 1) := by decide +kernel
theorem dX6_laneOf_60 : decode cX6_laneOf 60 = .ok (.goto 4, 3) := by decide +kernel
theorem dX6_laneOf_63 : decode cX6_laneOf 63 = .ok (.iconst 0, 1) := by decide +kernel
theorem dX6_laneOf_64 : decode cX6_laneOf 64 = .ok (.istore_n 2, 1) := by decide +kernel
theorem dX6_laneOf_65 : decode cX6_laneOf 65 = .ok (.iload_n 2, 1) := by decide +kernel
theorem dX6_laneOf_66 : decode cX6_laneOf 66 = .ok (.ifCond .eq 11, 3) := by decide +kernel
theorem dX6_laneOf_69 : decode cX6_laneOf 69 = .ok (.iload_n 1, 1) := by decide +kernel
theorem dX6_laneOf_70 : decode cX6_laneOf 70 = .ok (.ifCond .ne 7, 3) := by decide +kernel
theorem dX6_laneOf_73 : decode cX6_laneOf 73 = .ok (.iconst 2, 1) := by decide +kernel
theorem dX6_laneOf_74 : decode cX6_laneOf 74 = .ok (.goto 4, 3) := by decide +kernel
theorem dX6_laneOf_77 : decode cX6_laneOf 77 = .ok (.iload_n 1, 1) := by decide +kernel
theorem dX6_laneOf_78 : decode cX6_laneOf 78 = .ok (.ireturn, 1) := by decide +kernel
theorem dX6_reckoned_0 : decode cX6_reckoned 0 = .ok (.iload_n 0, 1) := by decide +kernel
theorem dX6_reckoned_1 : decode cX6_reckoned 1 = .ok (.tableswitch 275 0 22 #[107, 115, 126, 134, 142, 154, 166, 172, 275, 275, 275, 275, 275, 275, 275, 275, 275, 275, 275, 275, 275, 275, 235], 107) := by decide +kernel
theorem dX6_reckoned_108 : decode cX6_reckoned 108 = .ok (.lload_n 1, 1) := by decide +kernel
theorem dX6_reckoned_109 : decode cX6_reckoned 109 = .ok (.lload_n 3, 1) := by decide +kernel
theorem dX6_reckoned_110 : decode cX6_reckoned 110 = .ok (.iload 5, 2) := by decide +kernel
theorem dX6_reckoned_112 : decode cX6_reckoned 112 = .ok (.invokestatic 178, 3) := by decide +kernel
theorem dX6_reckoned_115 : decode cX6_reckoned 115 = .ok (.lreturn, 1) := by decide +kernel
theorem dX6_reckoned_116 : decode cX6_reckoned 116 = .ok (.lload_n 1, 1) := by decide +kernel
theorem dX6_reckoned_117 : decode cX6_reckoned 117 = .ok (.lload_n 3, 1) := by decide +kernel
theorem dX6_reckoned_118 : decode cX6_reckoned 118 = .ok (.invokestatic 182, 3) := by decide +kernel
theorem dX6_reckoned_121 : decode cX6_reckoned 121 = .ok (.iload 5, 2) := by decide +kernel
theorem dX6_reckoned_123 : decode cX6_reckoned 123 = .ok (.invokestatic 178, 3) := by decide +kernel
theorem dX6_reckoned_126 : decode cX6_reckoned 126 = .ok (.lreturn, 1) := by decide +kernel
theorem dX6_reckoned_127 : decode cX6_reckoned 127 = .ok (.lload_n 1, 1) := by decide +kernel
theorem dX6_reckoned_128 : decode cX6_reckoned 128 = .ok (.lload_n 3, 1) := by decide +kernel
theorem dX6_reckoned_129 : decode cX6_reckoned 129 = .ok (.iload 5, 2) := by decide +kernel
theorem dX6_reckoned_131 : decode cX6_reckoned 131 = .ok (.invokestatic 185, 3) := by decide +kernel
theorem dX6_reckoned_134 : decode cX6_reckoned 134 = .ok (.lreturn, 1) := by decide +kernel
theorem dX6_reckoned_135 : decode cX6_reckoned 135 = .ok (.lload_n 1, 1) := by decide +kernel
theorem dX6_reckoned_136 : decode cX6_reckoned 136 = .ok (.lload_n 3, 1) := by decide +kernel
theorem dX6_reckoned_137 : decode cX6_reckoned 137 = .ok (.iload 5, 2) := by decide +kernel
theorem dX6_reckoned_139 : decode cX6_reckoned 139 = .ok (.invokestatic 188, 3) := by decide +kernel
theorem dX6_reckoned_142 : decode cX6_reckoned 142 = .ok (.lreturn, 1) := by decide +kernel
theorem dX6_reckoned_143 : decode cX6_reckoned 143 = .ok (.lload_n 1, 1) := by decide +kernel
theorem dX6_reckoned_144 : decode cX6_reckoned 144 = .ok (.lload_n 3, 1) := by decide +kernel
theorem dX6_reckoned_145 : decode cX6_reckoned 145 = .ok (.iload 5, 2) := by decide +kernel
theorem dX6_reckoned_147 : decode cX6_reckoned 147 = .ok (.invokestatic 188, 3) := by decide +kernel
theorem dX6_reckoned_150 : decode cX6_reckoned 150 = .ok (.iconst 3, 1) := by decide +kernel
theorem dX6_reckoned_151 : decode cX6_reckoned 151 = .ok (.invokestatic 191, 3) := by decide +kernel
theorem dX6_reckoned_154 : decode cX6_reckoned 154 = .ok (.lreturn, 1) := by decide +kernel
theorem dX6_reckoned_155 : decode cX6_reckoned 155 = .ok (.lload_n 1, 1) := by decide +kernel
theorem dX6_reckoned_156 : decode cX6_reckoned 156 = .ok (.lload_n 3, 1) := by decide +kernel
theorem dX6_reckoned_157 : decode cX6_reckoned 157 = .ok (.iload 5, 2) := by decide +kernel
theorem dX6_reckoned_159 : decode cX6_reckoned 159 = .ok (.invokestatic 188, 3) := by decide +kernel
theorem dX6_reckoned_162 : decode cX6_reckoned 162 = .ok (.iconst 0, 1) := by decide +kernel
theorem dX6_reckoned_163 : decode cX6_reckoned 163 = .ok (.invokestatic 191, 3) := by decide +kernel
theorem dX6_reckoned_166 : decode cX6_reckoned 166 = .ok (.lreturn, 1) := by decide +kernel
theorem dX6_reckoned_167 : decode cX6_reckoned 167 = .ok (.lload_n 1, 1) := by decide +kernel
theorem dX6_reckoned_168 : decode cX6_reckoned 168 = .ok (.lload_n 3, 1) := by decide +kernel
theorem dX6_reckoned_169 : decode cX6_reckoned 169 = .ok (.invokestatic 194, 3) := by decide +kernel
theorem dX6_reckoned_172 : decode cX6_reckoned 172 = .ok (.lreturn, 1) := by decide +kernel
theorem dX6_reckoned_173 : decode cX6_reckoned 173 = .ok (.lload_n 1, 1) := by decide +kernel
theorem dX6_reckoned_174 : decode cX6_reckoned 174 = .ok (.lload_n 3, 1) := by decide +kernel
theorem dX6_reckoned_175 : decode cX6_reckoned 175 = .ok (.invokestatic 194, 3) := by decide +kernel
theorem dX6_reckoned_178 : decode cX6_reckoned 178 = .ok (.lstore 6, 2) := by decide +kernel
theorem dX6_reckoned_180 : decode cX6_reckoned 180 = .ok (.lload 6, 2) := by decide +kernel
theorem dX6_reckoned_182 : decode cX6_reckoned 182 = .ok (.invokestatic 74, 3) := by decide +kernel
theorem dX6_reckoned_185 : decode cX6_reckoned 185 = .ok (.ifCond .ne 48, 3) := by decide +kernel
theorem dX6_reckoned_188 : decode cX6_reckoned 188 = .ok (.lload 6, 2) := by decide +kernel
theorem dX6_reckoned_190 : decode cX6_reckoned 190 = .ok (.invokestatic 102, 3) := by decide +kernel
theorem dX6_reckoned_193 : decode cX6_reckoned 193 = .ok (.ifCond .ne 40, 3) := by decide +kernel
theorem dX6_reckoned_196 : decode cX6_reckoned 196 = .ok (.lload 6, 2) := by decide +kernel
theorem dX6_reckoned_198 : decode cX6_reckoned 198 = .ok (.lconst 0, 1) := by decide +kernel
theorem dX6_reckoned_199 : decode cX6_reckoned 199 = .ok (.lcmp, 1) := by decide +kernel
theorem dX6_reckoned_200 : decode cX6_reckoned 200 = .ok (.ifCond .ge 7, 3) := by decide +kernel
theorem dX6_reckoned_203 : decode cX6_reckoned 203 = .ok (.iconst 1, 1) := by decide +kernel
theorem dX6_reckoned_204 : decode cX6_reckoned 204 = .ok (.goto 4, 3) := by decide +kernel
theorem dX6_reckoned_207 : decode cX6_reckoned 207 = .ok (.iconst 0, 1) := by decide +kernel
theorem dX6_reckoned_208 : decode cX6_reckoned 208 = .ok (.lload_n 3, 1) := by decide +kernel
theorem dX6_reckoned_209 : decode cX6_reckoned 209 = .ok (.lconst 0, 1) := by decide +kernel
theorem dX6_reckoned_210 : decode cX6_reckoned 210 = .ok (.lcmp, 1) := by decide +kernel
theorem dX6_reckoned_211 : decode cX6_reckoned 211 = .ok (.ifCond .ge 7, 3) := by decide +kernel
theorem dX6_reckoned_214 : decode cX6_reckoned 214 = .ok (.iconst 1, 1) := by decide +kernel
theorem dX6_reckoned_215 : decode cX6_reckoned 215 = .ok (.goto 4, 3) := by decide +kernel
theorem dX6_reckoned_218 : decode cX6_reckoned 218 = .ok (.iconst 0, 1) := by decide +kernel
theorem dX6_reckoned_219 : decode cX6_reckoned 219 = .ok (.if_icmp .eq 14, 3) := by decide +kernel
theorem dX6_reckoned_222 : decode cX6_reckoned 222 = .ok (.lload 6, 2) := by decide +kernel
theorem dX6_reckoned_224 : decode cX6_reckoned 224 = .ok (.lload_n 3, 1) := by decide +kernel
theorem dX6_reckoned_225 : decode cX6_reckoned 225 = .ok (.iload 5, 2) := by decide +kernel
theorem dX6_reckoned_227 : decode cX6_reckoned 227 = .ok (.invokestatic 178, 3) := by decide +kernel
theorem dX6_reckoned_230 : decode cX6_reckoned 230 = .ok (.goto 5, 3) := by decide +kernel
theorem dX6_reckoned_233 : decode cX6_reckoned 233 = .ok (.lload 6, 2) := by decide +kernel
theorem dX6_reckoned_235 : decode cX6_reckoned 235 = .ok (.lreturn, 1) := by decide +kernel
theorem dX6_reckoned_236 : decode cX6_reckoned 236 = .ok (.lload_n 1, 1) := by decide +kernel
theorem dX6_reckoned_237 : decode cX6_reckoned 237 = .ok (.invokestatic 74, 3) := by decide +kernel
theorem dX6_reckoned_240 : decode cX6_reckoned 240 = .ok (.ifCond .eq 9, 3) := by decide +kernel
theorem dX6_reckoned_243 : decode cX6_reckoned 243 = .ok (.ldc2_w 78, 3) := by decide +kernel
theorem dX6_reckoned_246 : decode cX6_reckoned 246 = .ok (.goto 29, 3) := by decide +kernel
theorem dX6_reckoned_249 : decode cX6_reckoned 249 = .ok (.lload_n 3, 1) := by decide +kernel
theorem dX6_reckoned_250 : decode cX6_reckoned 250 = .ok (.invokestatic 74, 3) := by decide +kernel
theorem dX6_reckoned_253 : decode cX6_reckoned 253 = .ok (.ifCond .ne 13, 3) := by decide +kernel
theorem dX6_reckoned_256 : decode cX6_reckoned 256 = .ok (.lload_n 3, 1) := by decide +kernel
theorem dX6_reckoned_257 : decode cX6_reckoned 257 = .ok (.lconst 0, 1) := by decide +kernel
theorem dX6_reckoned_258 : decode cX6_reckoned 258 = .ok (.lcmp, 1) := by decide +kernel
theorem dX6_reckoned_259 : decode cX6_reckoned 259 = .ok (.ifCond .ge 7, 3) := by decide +kernel
theorem dX6_reckoned_262 : decode cX6_reckoned 262 = .ok (.iconst 1, 1) := by decide +kernel
theorem dX6_reckoned_263 : decode cX6_reckoned 263 = .ok (.goto 4, 3) := by decide +kernel
theorem dX6_reckoned_266 : decode cX6_reckoned 266 = .ok (.iconst 0, 1) := by decide +kernel
theorem dX6_reckoned_267 : decode cX6_reckoned 267 = .ok (.lload_n 1, 1) := by decide +kernel
theorem dX6_reckoned_268 : decode cX6_reckoned 268 = .ok (.ldc2_w 40, 3) := by decide +kernel
theorem dX6_reckoned_271 : decode cX6_reckoned 271 = .ok (.land, 1) := by decide +kernel
theorem dX6_reckoned_272 : decode cX6_reckoned 272 = .ok (.invokestatic 52, 3) := by decide +kernel
theorem dX6_reckoned_275 : decode cX6_reckoned 275 = .ok (.lreturn, 1) := by decide +kernel
theorem dX6_reckoned_276 : decode cX6_reckoned 276 = .ok (.iload_n 0, 1) := by decide +kernel
theorem dX6_reckoned_277 : decode cX6_reckoned 277 = .ok (.lload_n 1, 1) := by decide +kernel
theorem dX6_reckoned_278 : decode cX6_reckoned 278 = .ok (.lload_n 3, 1) := by decide +kernel
theorem dX6_reckoned_279 : decode cX6_reckoned 279 = .ok (.invokestatic 198, 3) := by decide +kernel
theorem dX6_reckoned_282 : decode cX6_reckoned 282 = .ok (.lreturn, 1) := by decide +kernel
theorem dX6_extreme_0 : decode cX6_extreme 0 = .ok (.lload_n 1, 1) := by decide +kernel
theorem dX6_extreme_1 : decode cX6_extreme 1 = .ok (.invokestatic 74, 3) := by decide +kernel
theorem dX6_extreme_4 : decode cX6_extreme 4 = .ok (.ifCond .ne 10, 3) := by decide +kernel
theorem dX6_extreme_7 : decode cX6_extreme 7 = .ok (.lload_n 3, 1) := by decide +kernel
theorem dX6_extreme_8 : decode cX6_extreme 8 = .ok (.invokestatic 74, 3) := by decide +kernel
theorem dX6_extreme_11 : decode cX6_extreme 11 = .ok (.ifCond .eq 28, 3) := by decide +kernel
theorem dX6_extreme_14 : decode cX6_extreme 14 = .ok (.iload_n 0, 1) := by decide +kernel
theorem dX6_extreme_15 : decode cX6_extreme 15 = .ok (.bipush 10, 2) := by decide +kernel
theorem dX6_extreme_17 : decode cX6_extreme 17 = .ok (.if_icmp .ge 9, 3) := by decide +kernel
theorem dX6_extreme_20 : decode cX6_extreme 20 = .ok (.ldc2_w 78, 3) := by decide +kernel
theorem dX6_extreme_23 : decode cX6_extreme 23 = .ok (.goto 15, 3) := by decide +kernel
theorem dX6_extreme_26 : decode cX6_extreme 26 = .ok (.lload_n 1, 1) := by decide +kernel
theorem dX6_extreme_27 : decode cX6_extreme 27 = .ok (.invokestatic 74, 3) := by decide +kernel
theorem dX6_extreme_30 : decode cX6_extreme 30 = .ok (.ifCond .eq 7, 3) := by decide +kernel
theorem dX6_extreme_33 : decode cX6_extreme 33 = .ok (.lload_n 3, 1) := by decide +kernel
theorem dX6_extreme_34 : decode cX6_extreme 34 = .ok (.goto 4, 3) := by decide +kernel
theorem dX6_extreme_37 : decode cX6_extreme 37 = .ok (.lload_n 1, 1) := by decide +kernel
theorem dX6_extreme_38 : decode cX6_extreme 38 = .ok (.lreturn, 1) := by decide +kernel
theorem dX6_extreme_39 : decode cX6_extreme 39 = .ok (.lload_n 1, 1) := by decide +kernel
theorem dX6_extreme_40 : decode cX6_extreme 40 = .ok (.invokestatic 202, 3) := by decide +kernel
theorem dX6_extreme_43 : decode cX6_extreme 43 = .ok (.lload_n 3, 1) := by decide +kernel
theorem dX6_extreme_44 : decode cX6_extreme 44 = .ok (.invokestatic 202, 3) := by decide +kernel
theorem dX6_extreme_47 : decode cX6_extreme 47 = .ok (.lcmp, 1) := by decide +kernel
theorem dX6_extreme_48 : decode cX6_extreme 48 = .ok (.ifCond .ge 7, 3) := by decide +kernel
theorem dX6_extreme_51 : decode cX6_extreme 51 = .ok (.iconst 1, 1) := by decide +kernel
theorem dX6_extreme_52 : decode cX6_extreme 52 = .ok (.goto 4, 3) := by decide +kernel
theorem dX6_extreme_55 : decode cX6_extreme 55 = .ok (.iconst 0, 1) := by decide +kernel
theorem dX6_extreme_56 : decode cX6_extreme 56 = .ok (.istore 5, 2) := by decide +kernel
theorem dX6_extreme_58 : decode cX6_extreme 58 = .ok (.iload 5, 2) := by decide +kernel
theorem dX6_extreme_60 : decode cX6_extreme 60 = .ok (.iload_n 0, 1) := by decide +kernel
theorem dX6_extreme_61 : decode cX6_extreme 61 = .ok (.iconst 2, 1) := by decide +kernel
theorem dX6_extreme_62 : decode cX6_extreme 62 = .ok (.irem, 1) := by decide +kernel
theorem dX6_extreme_63 : decode cX6_extreme 63 = .ok (.ifCond .ne 7, 3) := by decide +kernel
theorem dX6_extreme_66 : decode cX6_extreme 66 = .ok (.iconst 1, 1) := by decide +kernel
theorem dX6_extreme_67 : decode cX6_extreme 67 = .ok (.goto 4, 3) := by decide +kernel
theorem dX6_extreme_70 : decode cX6_extreme 70 = .ok (.iconst 0, 1) := by decide +kernel
theorem dX6_extreme_71 : decode cX6_extreme 71 = .ok (.if_icmp .ne 7, 3) := by decide +kernel
theorem dX6_extreme_74 : decode cX6_extreme 74 = .ok (.lload_n 1, 1) := by decide +kernel
theorem dX6_extreme_75 : decode cX6_extreme 75 = .ok (.goto 4, 3) := by decide +kernel
theorem dX6_extreme_78 : decode cX6_extreme 78 = .ok (.lload_n 3, 1) := by decide +kernel
theorem dX6_extreme_79 : decode cX6_extreme 79 = .ok (.lreturn, 1) := by decide +kernel
theorem dX6_holds_0 : decode cX6_holds 0 = .ok (.iload 5, 2) := by decide +kernel
theorem dX6_holds_2 : decode cX6_holds 2 = .ok (.iconst 4, 1) := by decide +kernel
theorem dX6_holds_3 : decode cX6_holds 3 = .ok (.if_icmp .ge 29, 3) := by decide +kernel
theorem dX6_holds_6 : decode cX6_holds 6 = .ok (.lload_n 1, 1) := by decide +kernel
theorem dX6_holds_7 : decode cX6_holds 7 = .ok (.lload_n 3, 1) := by decide +kernel
theorem dX6_holds_8 : decode cX6_holds 8 = .ok (.lcmp, 1) := by decide +kernel
theorem dX6_holds_9 : decode cX6_holds 9 = .ok (.ifCond .ge 7, 3) := by decide +kernel
theorem dX6_holds_12 : decode cX6_holds 12 = .ok (.iconst (-1), 1) := by decide +kernel
theorem dX6_holds_13 : decode cX6_holds 13 = .ok (.goto 14, 3) := by decide +kernel
theorem dX6_holds_16 : decode cX6_holds 16 = .ok (.lload_n 1, 1) := by decide +kernel
theorem dX6_holds_17 : decode cX6_holds 17 = .ok (.lload_n 3, 1) := by decide +kernel
theorem dX6_holds_18 : decode cX6_holds 18 = .ok (.lcmp, 1) := by decide +kernel
theorem dX6_holds_19 : decode cX6_holds 19 = .ok (.ifCond .le 7, 3) := by decide +kernel
theorem dX6_holds_22 : decode cX6_holds 22 = .ok (.iconst 1, 1) := by decide +kernel
theorem dX6_holds_23 : decode cX6_holds 23 = .ok (.goto 4, 3) := by decide +kernel
theorem dX6_holds_26 : decode cX6_holds 26 = .ok (.iconst 0, 1) := by decide +kernel
theorem dX6_holds_27 : decode cX6_holds 27 = .ok (.istore 6, 2) := by decide +kernel
theorem dX6_holds_29 : decode cX6_holds 29 = .ok (.goto 122, 3) := by decide +kernel
theorem dX6_holds_32 : decode cX6_holds 32 = .ok (.iload 5, 2) := by decide +kernel
theorem dX6_holds_34 : decode cX6_holds 34 = .ok (.iconst 4, 1) := by decide +kernel
theorem dX6_holds_35 : decode cX6_holds 35 = .ok (.if_icmp .ne 10, 3) := by decide +kernel
theorem dX6_holds_38 : decode cX6_holds 38 = .ok (.lload_n 1, 1) := by decide +kernel
theorem dX6_holds_39 : decode cX6_holds 39 = .ok (.invokestatic 131, 3) := by decide +kernel
theorem dX6_holds_42 : decode cX6_holds 42 = .ok (.goto 4, 3) := by decide +kernel
theorem dX6_holds_45 : decode cX6_holds 45 = .ok (.lload_n 1, 1) := by decide +kernel
theorem dX6_holds_46 : decode cX6_holds 46 = .ok (.lstore 7, 2) := by decide +kernel
theorem dX6_holds_48 : decode cX6_holds 48 = .ok (.iload 5, 2) := by decide +kernel
theorem dX6_holds_50 : decode cX6_holds 50 = .ok (.iconst 4, 1) := by decide +kernel
theorem dX6_holds_51 : decode cX6_holds 51 = .ok (.if_icmp .ne 10, 3) := by decide +kernel
theorem dX6_holds_54 : decode cX6_holds 54 = .ok (.lload_n 3, 1) := by decide +kernel
theorem dX6_holds_55 : decode cX6_holds 55 = .ok (.invokestatic 131, 3) := by decide +kernel
theorem dX6_holds_58 : decode cX6_holds 58 = .ok (.goto 4, 3) := by decide +kernel
theorem dX6_holds_61 : decode cX6_holds 61 = .ok (.lload_n 3, 1) := by decide +kernel
theorem dX6_holds_62 : decode cX6_holds 62 = .ok (.lstore 9, 2) := by decide +kernel
theorem dX6_holds_64 : decode cX6_holds 64 = .ok (.lload 7, 2) := by decide +kernel
theorem dX6_holds_66 : decode cX6_holds 66 = .ok (.invokestatic 74, 3) := by decide +kernel
theorem dX6_holds_69 : decode cX6_holds 69 = .ok (.ifCond .ne 11, 3) := by decide +kernel
theorem dX6_holds_72 : decode cX6_holds 72 = .ok (.lload 9, 2) := by decide +kernel
theorem dX6_holds_74 : decode cX6_holds 74 = .ok (.invokestatic 74, 3) := by decide +kernel
theorem dX6_holds_77 : decode cX6_holds 77 = .ok (.ifCond .eq 15, 3) := by decide +kernel
theorem dX6_holds_80 : decode cX6_holds 80 = .ok (.iload_n 0, 1) := by decide +kernel
theorem dX6_holds_81 : decode cX6_holds 81 = .ok (.bipush 21, 2) := by decide +kernel
theorem dX6_holds_83 : decode cX6_holds 83 = .ok (.if_icmp .ne 7, 3) := by decide +kernel
theorem dX6_holds_86 : decode cX6_holds 86 = .ok (.iconst 1, 1) := by decide +kernel
theorem dX6_holds_87 : decode cX6_holds 87 = .ok (.goto 4, 3) := by decide +kernel
theorem dX6_holds_90 : decode cX6_holds 90 = .ok (.iconst 0, 1) := by decide +kernel
theorem dX6_holds_91 : decode cX6_holds 91 = .ok (.ireturn, 1) := by decide +kernel
theorem dX6_holds_92 : decode cX6_holds 92 = .ok (.lload 7, 2) := by decide +kernel
theorem dX6_holds_94 : decode cX6_holds 94 = .ok (.invokestatic 102, 3) := by decide +kernel
theorem dX6_holds_97 : decode cX6_holds 97 = .ok (.ifCond .eq 15, 3) := by decide +kernel
theorem dX6_holds_100 : decode cX6_holds 100 = .ok (.lload 9, 2) := by decide +kernel
theorem dX6_holds_102 : decode cX6_holds 102 = .ok (.invokestatic 102, 3) := by decide +kernel
theorem dX6_holds_105 : decode cX6_holds 105 = .ok (.ifCond .eq 7, 3) := by decide +kernel
theorem dX6_holds_108 : decode cX6_holds 108 = .ok (.iconst 0, 1) := by decide +kernel
theorem dX6_holds_109 : decode cX6_holds 109 = .ok (.goto 40, 3) := by decide +kernel
theorem dX6_holds_112 : decode cX6_holds 112 = .ok (.lload 7, 2) := by decide +kernel
theorem dX6_holds_114 : decode cX6_holds 114 = .ok (.invokestatic 202, 3) := by decide +kernel
theorem dX6_holds_117 : decode cX6_holds 117 = .ok (.lload 9, 2) := by decide +kernel
theorem dX6_holds_119 : decode cX6_holds 119 = .ok (.invokestatic 202, 3) := by decide +kernel
theorem dX6_holds_122 : decode cX6_holds 122 = .ok (.lcmp, 1) := by decide +kernel
theorem dX6_holds_123 : decode cX6_holds 123 = .ok (.ifCond .ge 7, 3) := by decide +kernel
theorem dX6_holds_126 : decode cX6_holds 126 = .ok (.iconst (-1), 1) := by decide +kernel
theorem dX6_holds_127 : decode cX6_holds 127 = .ok (.goto 22, 3) := by decide +kernel
theorem dX6_holds_130 : decode cX6_holds 130 = .ok (.lload 7, 2) := by decide +kernel
theorem dX6_holds_132 : decode cX6_holds 132 = .ok (.invokestatic 202, 3) := by decide +kernel
theorem dX6_holds_135 : decode cX6_holds 135 = .ok (.lload 9, 2) := by decide +kernel
theorem dX6_holds_137 : decode cX6_holds 137 = .ok (.invokestatic 202, 3) := by decide +kernel
theorem dX6_holds_140 : decode cX6_holds 140 = .ok (.lcmp, 1) := by decide +kernel
theorem dX6_holds_141 : decode cX6_holds 141 = .ok (.ifCond .le 7, 3) := by decide +kernel
theorem dX6_holds_144 : decode cX6_holds 144 = .ok (.iconst 1, 1) := by decide +kernel
theorem dX6_holds_145 : decode cX6_holds 145 = .ok (.goto 4, 3) := by decide +kernel
theorem dX6_holds_148 : decode cX6_holds 148 = .ok (.iconst 0, 1) := by decide +kernel
theorem dX6_holds_149 : decode cX6_holds 149 = .ok (.istore 6, 2) := by decide +kernel
theorem dX6_holds_151 : decode cX6_holds 151 = .ok (.iload_n 0, 1) := by decide +kernel
theorem dX6_holds_152 : decode cX6_holds 152 = .ok (.bipush 18, 2) := by decide +kernel
theorem dX6_holds_154 : decode cX6_holds 154 = .ok (.if_icmp .ne 16, 3) := by decide +kernel
theorem dX6_holds_157 : decode cX6_holds 157 = .ok (.iload 6, 2) := by decide +kernel
theorem dX6_holds_159 : decode cX6_holds 159 = .ok (.ifCond .ge 7, 3) := by decide +kernel
theorem dX6_holds_162 : decode cX6_holds 162 = .ok (.iconst 1, 1) := by decide +kernel
theorem dX6_holds_163 : decode cX6_holds 163 = .ok (.goto 55, 3) := by decide +kernel
theorem dX6_holds_166 : decode cX6_holds 166 = .ok (.iconst 0, 1) := by decide +kernel
theorem dX6_holds_167 : decode cX6_holds 167 = .ok (.goto 51, 3) := by decide +kernel
theorem dX6_holds_170 : decode cX6_holds 170 = .ok (.iload_n 0, 1) := by decide +kernel
theorem dX6_holds_171 : decode cX6_holds 171 = .ok (.bipush 19, 2) := by decide +kernel
theorem dX6_holds_173 : decode cX6_holds 173 = .ok (.if_icmp .ne 16, 3) := by decide +kernel
theorem dX6_holds_176 : decode cX6_holds 176 = .ok (.iload 6, 2) := by decide +kernel
theorem dX6_holds_178 : decode cX6_holds 178 = .ok (.ifCond .gt 7, 3) := by decide +kernel
theorem dX6_holds_181 : decode cX6_holds 181 = .ok (.iconst 1, 1) := by decide +kernel
theorem dX6_holds_182 : decode cX6_holds 182 = .ok (.goto 36, 3) := by decide +kernel
theorem dX6_holds_185 : decode cX6_holds 185 = .ok (.iconst 0, 1) := by decide +kernel
theorem dX6_holds_186 : decode cX6_holds 186 = .ok (.goto 32, 3) := by decide +kernel
theorem dX6_holds_189 : decode cX6_holds 189 = .ok (.iload_n 0, 1) := by decide +kernel
theorem dX6_holds_190 : decode cX6_holds 190 = .ok (.bipush 20, 2) := by decide +kernel
theorem dX6_holds_192 : decode cX6_holds 192 = .ok (.if_icmp .ne 16, 3) := by decide +kernel
theorem dX6_holds_195 : decode cX6_holds 195 = .ok (.iload 6, 2) := by decide +kernel
theorem dX6_holds_197 : decode cX6_holds 197 = .ok (.ifCond .ne 7, 3) := by decide +kernel
theorem dX6_holds_200 : decode cX6_holds 200 = .ok (.iconst 1, 1) := by decide +kernel
theorem dX6_holds_201 : decode cX6_holds 201 = .ok (.goto 17, 3) := by decide +kernel
theorem dX6_holds_204 : decode cX6_holds 204 = .ok (.iconst 0, 1) := by decide +kernel
theorem dX6_holds_205 : decode cX6_holds 205 = .ok (.goto 13, 3) := by decide +kernel
theorem dX6_holds_208 : decode cX6_holds 208 = .ok (.iload 6, 2) := by decide +kernel
theorem dX6_holds_210 : decode cX6_holds 210 = .ok (.ifCond .eq 7, 3) := by decide +kernel
theorem dX6_holds_213 : decode cX6_holds 213 = .ok (.iconst 1, 1) := by decide +kernel
theorem dX6_holds_214 : decode cX6_holds 214 = .ok (.goto 4, 3) := by decide +kernel
theorem dX6_holds_217 : decode cX6_holds 217 = .ok (.iconst 0, 1) := by decide +kernel
theorem dX6_holds_218 : decode cX6_holds 218 = .ok (.ireturn, 1) := by decide +kernel
theorem dX6_downward_0 : decode cX6_downward 0 = .ok (.lload_n 0, 1) := by decide +kernel
theorem dX6_downward_1 : decode cX6_downward 1 = .ok (.lload_n 2, 1) := by decide +kernel
theorem dX6_downward_2 : decode cX6_downward 2 = .ok (.ldiv, 1) := by decide +kernel
theorem dX6_downward_3 : decode cX6_downward 3 = .ok (.lstore 4, 2) := by decide +kernel
theorem dX6_downward_5 : decode cX6_downward 5 = .ok (.lload_n 0, 1) := by decide +kernel
theorem dX6_downward_6 : decode cX6_downward 6 = .ok (.lload_n 2, 1) := by decide +kernel
theorem dX6_downward_7 : decode cX6_downward 7 = .ok (.lrem, 1) := by decide +kernel
theorem dX6_downward_8 : decode cX6_downward 8 = .ok (.lconst 0, 1) := by decide +kernel
theorem dX6_downward_9 : decode cX6_downward 9 = .ok (.lcmp, 1) := by decide +kernel
theorem dX6_downward_10 : decode cX6_downward 10 = .ok (.ifCond .eq 35, 3) := by decide +kernel
theorem dX6_downward_13 : decode cX6_downward 13 = .ok (.lload_n 0, 1) := by decide +kernel
theorem dX6_downward_14 : decode cX6_downward 14 = .ok (.lconst 0, 1) := by decide +kernel
theorem dX6_downward_15 : decode cX6_downward 15 = .ok (.lcmp, 1) := by decide +kernel
theorem dX6_downward_16 : decode cX6_downward 16 = .ok (.ifCond .ge 7, 3) := by decide +kernel
theorem dX6_downward_19 : decode cX6_downward 19 = .ok (.iconst 1, 1) := by decide +kernel
theorem dX6_downward_20 : decode cX6_downward 20 = .ok (.goto 4, 3) := by decide +kernel
theorem dX6_downward_23 : decode cX6_downward 23 = .ok (.iconst 0, 1) := by decide +kernel
theorem dX6_downward_24 : decode cX6_downward 24 = .ok (.lload_n 2, 1) := by decide +kernel
theorem dX6_downward_25 : decode cX6_downward 25 = .ok (.lconst 0, 1) := by decide +kernel
theorem dX6_downward_26 : decode cX6_downward 26 = .ok (.lcmp, 1) := by decide +kernel
theorem dX6_downward_27 : decode cX6_downward 27 = .ok (.ifCond .ge 7, 3) := by decide +kernel
theorem dX6_downward_30 : decode cX6_downward 30 = .ok (.iconst 1, 1) := by decide +kernel
theorem dX6_downward_31 : decode cX6_downward 31 = .ok (.goto 4, 3) := by decide +kernel
theorem dX6_downward_34 : decode cX6_downward 34 = .ok (.iconst 0, 1) := by decide +kernel
theorem dX6_downward_35 : decode cX6_downward 35 = .ok (.if_icmp .eq 10, 3) := by decide +kernel
theorem dX6_downward_38 : decode cX6_downward 38 = .ok (.lload 4, 2) := by decide +kernel
theorem dX6_downward_40 : decode cX6_downward 40 = .ok (.lconst 1, 1) := by decide +kernel
theorem dX6_downward_41 : decode cX6_downward 41 = .ok (.lsub, 1) := by decide +kernel
theorem dX6_downward_42 : decode cX6_downward 42 = .ok (.goto 5, 3) := by decide +kernel
theorem dX6_downward_45 : decode cX6_downward 45 = .ok (.lload 4, 2) := by decide +kernel
theorem dX6_downward_47 : decode cX6_downward 47 = .ok (.lreturn, 1) := by decide +kernel
theorem dX6_wholes_0 : decode cX6_wholes 0 = .ok (.iload 5, 2) := by decide +kernel
theorem dX6_wholes_2 : decode cX6_wholes 2 = .ok (.iconst 1, 1) := by decide +kernel
theorem dX6_wholes_3 : decode cX6_wholes 3 = .ok (.if_icmp .ne 8, 3) := by decide +kernel
theorem dX6_wholes_6 : decode cX6_wholes 6 = .ok (.bipush 7, 2) := by decide +kernel
theorem dX6_wholes_8 : decode cX6_wholes 8 = .ok (.goto 16, 3) := by decide +kernel
theorem dX6_wholes_11 : decode cX6_wholes 11 = .ok (.iload 5, 2) := by decide +kernel
theorem dX6_wholes_13 : decode cX6_wholes 13 = .ok (.iconst 2, 1) := by decide +kernel
theorem dX6_wholes_14 : decode cX6_wholes 14 = .ok (.if_icmp .ne 8, 3) := by decide +kernel
theorem dX6_wholes_17 : decode cX6_wholes 17 = .ok (.bipush 31, 2) := by decide +kernel
theorem dX6_wholes_19 : decode cX6_wholes 19 = .ok (.goto 5, 3) := by decide +kernel
theorem dX6_wholes_22 : decode cX6_wholes 22 = .ok (.bipush 63, 2) := by decide +kernel
theorem dX6_wholes_24 : decode cX6_wholes 24 = .ok (.istore 6, 2) := by decide +kernel
theorem dX6_wholes_26 : decode cX6_wholes 26 = .ok (.lload_n 3, 1) := by decide +kernel
theorem dX6_wholes_27 : decode cX6_wholes 27 = .ok (.l2i, 1) := by decide +kernel
theorem dX6_wholes_28 : decode cX6_wholes 28 = .ok (.iload 6, 2) := by decide +kernel
theorem dX6_wholes_30 : decode cX6_wholes 30 = .ok (.iand, 1) := by decide +kernel
theorem dX6_wholes_31 : decode cX6_wholes 31 = .ok (.istore 7, 2) := by decide +kernel
theorem dX6_wholes_33 : decode cX6_wholes 33 = .ok (.iload_n 0, 1) := by decide +kernel
theorem dX6_wholes_34 : decode cX6_wholes 34 = .ok (.tableswitch 201 0 17 #[86, 90, 94, 201, 98, 102, 108, 112, 122, 134, 122, 134, 146, 150, 154, 158, 163, 168], 86) := by decide +kernel
theorem dX6_wholes_120 : decode cX6_wholes 120 = .ok (.lload_n 1, 1) := by decide +kernel
theorem dX6_wholes_121 : decode cX6_wholes 121 = .ok (.lload_n 3, 1) := by decide +kernel
theorem dX6_wholes_122 : decode cX6_wholes 122 = .ok (.ladd, 1) := by decide +kernel
theorem dX6_wholes_123 : decode cX6_wholes 123 = .ok (.lreturn, 1) := by decide +kernel
theorem dX6_wholes_124 : decode cX6_wholes 124 = .ok (.lload_n 1, 1) := by decide +kernel
theorem dX6_wholes_125 : decode cX6_wholes 125 = .ok (.lload_n 3, 1) := by decide +kernel
theorem dX6_wholes_126 : decode cX6_wholes 126 = .ok (.lsub, 1) := by decide +kernel
theorem dX6_wholes_127 : decode cX6_wholes 127 = .ok (.lreturn, 1) := by decide +kernel
theorem dX6_wholes_128 : decode cX6_wholes 128 = .ok (.lload_n 1, 1) := by decide +kernel
theorem dX6_wholes_129 : decode cX6_wholes 129 = .ok (.lload_n 3, 1) := by decide +kernel
theorem dX6_wholes_130 : decode cX6_wholes 130 = .ok (.lmul, 1) := by decide +kernel
theorem dX6_wholes_131 : decode cX6_wholes 131 = .ok (.lreturn, 1) := by decide +kernel
theorem dX6_wholes_132 : decode cX6_wholes 132 = .ok (.lload_n 1, 1) := by decide +kernel
theorem dX6_wholes_133 : decode cX6_wholes 133 = .ok (.lload_n 3, 1) := by decide +kernel
theorem dX6_wholes_134 : decode cX6_wholes 134 = .ok (.ldiv, 1) := by decide +kernel
theorem dX6_wholes_135 : decode cX6_wholes 135 = .ok (.lreturn, 1) := by decide +kernel
theorem dX6_wholes_136 : decode cX6_wholes 136 = .ok (.lload_n 1, 1) := by decide +kernel
theorem dX6_wholes_137 : decode cX6_wholes 137 = .ok (.lload_n 3, 1) := by decide +kernel
theorem dX6_wholes_138 : decode cX6_wholes 138 = .ok (.invokestatic 205, 3) := by decide +kernel
theorem dX6_wholes_141 : decode cX6_wholes 141 = .ok (.lreturn, 1) := by decide +kernel
theorem dX6_wholes_142 : decode cX6_wholes 142 = .ok (.lload_n 1, 1) := by decide +kernel
theorem dX6_wholes_143 : decode cX6_wholes 143 = .ok (.lload_n 3, 1) := by decide +kernel
theorem dX6_wholes_144 : decode cX6_wholes 144 = .ok (.lrem, 1) := by decide +kernel
theorem dX6_wholes_145 : decode cX6_wholes 145 = .ok (.lreturn, 1) := by decide +kernel
theorem dX6_wholes_146 : decode cX6_wholes 146 = .ok (.lload_n 1, 1) := by decide +kernel
theorem dX6_wholes_147 : decode cX6_wholes 147 = .ok (.lload_n 1, 1) := by decide +kernel
theorem dX6_wholes_148 : decode cX6_wholes 148 = .ok (.lload_n 3, 1) := by decide +kernel
theorem dX6_wholes_149 : decode cX6_wholes 149 = .ok (.invokestatic 205, 3) := by decide +kernel
theorem dX6_wholes_152 : decode cX6_wholes 152 = .ok (.lload_n 3, 1) := by decide +kernel
theorem dX6_wholes_153 : decode cX6_wholes 153 = .ok (.lmul, 1) := by decide +kernel
theorem dX6_wholes_154 : decode cX6_wholes 154 = .ok (.lsub, 1) := by decide +kernel
theorem dX6_wholes_155 : decode cX6_wholes 155 = .ok (.lreturn, 1) := by decide +kernel
theorem dX6_wholes_156 : decode cX6_wholes 156 = .ok (.lload_n 1, 1) := by decide +kernel
theorem dX6_wholes_157 : decode cX6_wholes 157 = .ok (.lload_n 3, 1) := by decide +kernel
theorem dX6_wholes_158 : decode cX6_wholes 158 = .ok (.lcmp, 1) := by decide +kernel
theorem dX6_wholes_159 : decode cX6_wholes 159 = .ok (.ifCond .ge 7, 3) := by decide +kernel
theorem dX6_wholes_162 : decode cX6_wholes 162 = .ok (.lload_n 1, 1) := by decide +kernel
theorem dX6_wholes_163 : decode cX6_wholes 163 = .ok (.goto 4, 3) := by decide +kernel
theorem dX6_wholes_166 : decode cX6_wholes 166 = .ok (.lload_n 3, 1) := by decide +kernel
theorem dX6_wholes_167 : decode cX6_wholes 167 = .ok (.lreturn, 1) := by decide +kernel
theorem dX6_wholes_168 : decode cX6_wholes 168 = .ok (.lload_n 1, 1) := by decide +kernel
theorem dX6_wholes_169 : decode cX6_wholes 169 = .ok (.lload_n 3, 1) := by decide +kernel
theorem dX6_wholes_170 : decode cX6_wholes 170 = .ok (.lcmp, 1) := by decide +kernel
theorem dX6_wholes_171 : decode cX6_wholes 171 = .ok (.ifCond .le 7, 3) := by decide +kernel
theorem dX6_wholes_174 : decode cX6_wholes 174 = .ok (.lload_n 1, 1) := by decide +kernel
theorem dX6_wholes_175 : decode cX6_wholes 175 = .ok (.goto 4, 3) := by decide +kernel
theorem dX6_wholes_178 : decode cX6_wholes 178 = .ok (.lload_n 3, 1) := by decide +kernel
theorem dX6_wholes_179 : decode cX6_wholes 179 = .ok (.lreturn, 1) := by decide +kernel
theorem dX6_wholes_180 : decode cX6_wholes 180 = .ok (.lload_n 1, 1) := by decide +kernel
theorem dX6_wholes_181 : decode cX6_wholes 181 = .ok (.lload_n 3, 1) := by decide +kernel
theorem dX6_wholes_182 : decode cX6_wholes 182 = .ok (.land, 1) := by decide +kernel
theorem dX6_wholes_183 : decode cX6_wholes 183 = .ok (.lreturn, 1) := by decide +kernel
theorem dX6_wholes_184 : decode cX6_wholes 184 = .ok (.lload_n 1, 1) := by decide +kernel
theorem dX6_wholes_185 : decode cX6_wholes 185 = .ok (.lload_n 3, 1) := by decide +kernel
theorem dX6_wholes_186 : decode cX6_wholes 186 = .ok (.lor, 1) := by decide +kernel
theorem dX6_wholes_187 : decode cX6_wholes 187 = .ok (.lreturn, 1) := by decide +kernel
theorem dX6_wholes_188 : decode cX6_wholes 188 = .ok (.lload_n 1, 1) := by decide +kernel
theorem dX6_wholes_189 : decode cX6_wholes 189 = .ok (.lload_n 3, 1) := by decide +kernel
theorem dX6_wholes_190 : decode cX6_wholes 190 = .ok (.lxor, 1) := by decide +kernel
theorem dX6_wholes_191 : decode cX6_wholes 191 = .ok (.lreturn, 1) := by decide +kernel
theorem dX6_wholes_192 : decode cX6_wholes 192 = .ok (.lload_n 1, 1) := by decide +kernel
theorem dX6_wholes_193 : decode cX6_wholes 193 = .ok (.iload 7, 2) := by decide +kernel
theorem dX6_wholes_195 : decode cX6_wholes 195 = .ok (.lshl, 1) := by decide +kernel
theorem dX6_wholes_196 : decode cX6_wholes 196 = .ok (.lreturn, 1) := by decide +kernel
theorem dX6_wholes_197 : decode cX6_wholes 197 = .ok (.lload_n 1, 1) := by decide +kernel
theorem dX6_wholes_198 : decode cX6_wholes 198 = .ok (.iload 7, 2) := by decide +kernel
theorem dX6_wholes_200 : decode cX6_wholes 200 = .ok (.lshr, 1) := by decide +kernel
theorem dX6_wholes_201 : decode cX6_wholes 201 = .ok (.lreturn, 1) := by decide +kernel
theorem dX6_wholes_202 : decode cX6_wholes 202 = .ok (.iload 5, 2) := by decide +kernel
theorem dX6_wholes_204 : decode cX6_wholes 204 = .ok (.iconst 1, 1) := by decide +kernel
theorem dX6_wholes_205 : decode cX6_wholes 205 = .ok (.if_icmp .ne 11, 3) := by decide +kernel
theorem dX6_wholes_208 : decode cX6_wholes 208 = .ok (.lload_n 1, 1) := by decide +kernel
theorem dX6_wholes_209 : decode cX6_wholes 209 = .ok (.ldc2_w 107, 3) := by decide +kernel
theorem dX6_wholes_212 : decode cX6_wholes 212 = .ok (.land, 1) := by decide +kernel
theorem dX6_wholes_213 : decode cX6_wholes 213 = .ok (.goto 18, 3) := by decide +kernel
theorem dX6_wholes_216 : decode cX6_wholes 216 = .ok (.iload 5, 2) := by decide +kernel
theorem dX6_wholes_218 : decode cX6_wholes 218 = .ok (.iconst 2, 1) := by decide +kernel
theorem dX6_wholes_219 : decode cX6_wholes 219 = .ok (.if_icmp .ne 11, 3) := by decide +kernel
theorem dX6_wholes_222 : decode cX6_wholes 222 = .ok (.lload_n 1, 1) := by decide +kernel
theorem dX6_wholes_223 : decode cX6_wholes 223 = .ok (.ldc2_w 208, 3) := by decide +kernel
theorem dX6_wholes_226 : decode cX6_wholes 226 = .ok (.land, 1) := by decide +kernel
theorem dX6_wholes_227 : decode cX6_wholes 227 = .ok (.goto 4, 3) := by decide +kernel
theorem dX6_wholes_230 : decode cX6_wholes 230 = .ok (.lload_n 1, 1) := by decide +kernel
theorem dX6_wholes_231 : decode cX6_wholes 231 = .ok (.iload 7, 2) := by decide +kernel
theorem dX6_wholes_233 : decode cX6_wholes 233 = .ok (.lushr, 1) := by decide +kernel
theorem dX6_wholes_234 : decode cX6_wholes 234 = .ok (.lreturn, 1) := by decide +kernel
theorem dX6_wholes_235 : decode cX6_wholes 235 = .ok (.lload_n 1, 1) := by decide +kernel
theorem dX6_wholes_236 : decode cX6_wholes 236 = .ok (.lconst 0, 1) := by decide +kernel
theorem dX6_wholes_237 : decode cX6_wholes 237 = .ok (.lcmp, 1) := by decide +kernel
theorem dX6_wholes_238 : decode cX6_wholes 238 = .ok (.ifCond .ge 8, 3) := by decide +kernel
theorem dX6_wholes_241 : decode cX6_wholes 241 = .ok (.lload_n 1, 1) := by decide +kernel
theorem dX6_wholes_242 : decode cX6_wholes 242 = .ok (.lneg, 1) := by decide +kernel
theorem dX6_wholes_243 : decode cX6_wholes 243 = .ok (.goto 4, 3) := by decide +kernel
theorem dX6_wholes_246 : decode cX6_wholes 246 = .ok (.lload_n 1, 1) := by decide +kernel
theorem dX6_wholes_247 : decode cX6_wholes 247 = .ok (.lstore 8, 2) := by decide +kernel
theorem dX6_wholes_249 : decode cX6_wholes 249 = .ok (.lload_n 3, 1) := by decide +kernel
theorem dX6_wholes_250 : decode cX6_wholes 250 = .ok (.lconst 0, 1) := by decide +kernel
theorem dX6_wholes_251 : decode cX6_wholes 251 = .ok (.lcmp, 1) := by decide +kernel
theorem dX6_wholes_252 : decode cX6_wholes 252 = .ok (.ifCond .ge 9, 3) := by decide +kernel
theorem dX6_wholes_255 : decode cX6_wholes 255 = .ok (.lload 8, 2) := by decide +kernel
theorem dX6_wholes_257 : decode cX6_wholes 257 = .ok (.lneg, 1) := by decide +kernel
theorem dX6_wholes_258 : decode cX6_wholes 258 = .ok (.goto 5, 3) := by decide +kernel
theorem dX6_wholes_261 : decode cX6_wholes 261 = .ok (.lload 8, 2) := by decide +kernel
theorem dX6_wholes_263 : decode cX6_wholes 263 = .ok (.lreturn, 1) := by decide +kernel
theorem dX6_spreads_0 : decode cX6_spreads 0 = .ok (.aload_n 0, 1) := by decide +kernel
theorem dX6_spreads_1 : decode cX6_spreads 1 = .ok (.iload_n 1, 1) := by decide +kernel
theorem dX6_spreads_2 : decode cX6_spreads 2 = .ok (.invokevirtual 210, 3) := by decide +kernel
theorem dX6_spreads_5 : decode cX6_spreads 5 = .ok (.aload_n 0, 1) := by decide +kernel
theorem dX6_spreads_6 : decode cX6_spreads 6 = .ok (.iload_n 2, 1) := by decide +kernel
theorem dX6_spreads_7 : decode cX6_spreads 7 = .ok (.invokevirtual 214, 3) := by decide +kernel
theorem dX6_spreads_10 : decode cX6_spreads 10 = .ok (.istore_n 3, 1) := by decide +kernel
theorem dX6_spreads_11 : decode cX6_spreads 11 = .ok (.iload_n 3, 1) := by decide +kernel
theorem dX6_spreads_12 : decode cX6_spreads 12 = .ok (.ifCond .lt 13, 3) := by decide +kernel
theorem dX6_spreads_15 : decode cX6_spreads 15 = .ok (.aload_n 0, 1) := by decide +kernel
theorem dX6_spreads_16 : decode cX6_spreads 16 = .ok (.bipush 6, 2) := by decide +kernel
theorem dX6_spreads_18 : decode cX6_spreads 18 = .ok (.iload_n 3, 1) := by decide +kernel
theorem dX6_spreads_19 : decode cX6_spreads 19 = .ok (.invokevirtual 168, 3) := by decide +kernel
theorem dX6_spreads_22 : decode cX6_spreads 22 = .ok (.goto 25, 3) := by decide +kernel
theorem dX6_spreads_25 : decode cX6_spreads 25 = .ok (.aload_n 0, 1) := by decide +kernel
theorem dX6_spreads_26 : decode cX6_spreads 26 = .ok (.getfield 160, 3) := by decide +kernel
theorem dX6_spreads_29 : decode cX6_spreads 29 = .ok (.sipush 240, 3) := by decide +kernel
theorem dX6_spreads_32 : decode cX6_spreads 32 = .ok (.if_icmp .le 14, 3) := by decide +kernel
theorem dX6_spreads_35 : decode cX6_spreads 35 = .ok (.aload_n 0, 1) := by decide +kernel
theorem dX6_spreads_36 : decode cX6_spreads 36 = .ok (.bipush 6, 2) := by decide +kernel
theorem dX6_spreads_38 : decode cX6_spreads 38 = .ok (.bipush (-3), 2) := by decide +kernel
theorem dX6_spreads_40 : decode cX6_spreads 40 = .ok (.invokevirtual 168, 3) := by decide +kernel
theorem dX6_spreads_43 : decode cX6_spreads 43 = .ok (.goto 4, 3) := by decide +kernel
theorem dX6_spreads_46 : decode cX6_spreads 46 = .ok (.iconst 0, 1) := by decide +kernel
theorem dX6_spreads_47 : decode cX6_spreads 47 = .ok (.ireturn, 1) := by decide +kernel
theorem dX6_acts_0 : decode cX6_acts 0 = .ok (.aload_n 0, 1) := by decide +kernel
theorem dX6_acts_1 : decode cX6_acts 1 = .ok (.getfield 7, 3) := by decide +kernel
theorem dX6_acts_4 : decode cX6_acts 4 = .ok (.iload_n 2, 1) := by decide +kernel
theorem dX6_acts_5 : decode cX6_acts 5 = .ok (.iaload, 1) := by decide +kernel
theorem dX6_acts_6 : decode cX6_acts 6 = .ok (.aload_n 0, 1) := by decide +kernel
theorem dX6_acts_7 : decode cX6_acts 7 = .ok (.getfield 7, 3) := by decide +kernel
theorem dX6_acts_10 : decode cX6_acts 10 = .ok (.iload_n 3, 1) := by decide +kernel
theorem dX6_acts_11 : decode cX6_acts 11 = .ok (.iaload, 1) := by decide +kernel
theorem dX6_acts_12 : decode cX6_acts 12 = .ok (.invokestatic 217, 3) := by decide +kernel
theorem dX6_acts_15 : decode cX6_acts 15 = .ok (.istore 4, 2) := by decide +kernel
theorem dX6_acts_17 : decode cX6_acts 17 = .ok (.iload_n 1, 1) := by decide +kernel
theorem dX6_acts_18 : decode cX6_acts 18 = .ok (.iload 4, 2) := by decide +kernel
theorem dX6_acts_20 : decode cX6_acts 20 = .ok (.invokestatic 220, 3) := by decide +kernel
theorem dX6_acts_23 : decode cX6_acts 23 = .ok (.istore 5, 2) := by decide +kernel
theorem dX6_acts_25 : decode cX6_acts 25 = .ok (.aload_n 0, 1) := by decide +kernel
theorem dX6_acts_26 : decode cX6_acts 26 = .ok (.iload_n 1, 1) := by decide +kernel
theorem dX6_acts_27 : decode cX6_acts 27 = .ok (.bipush 18, 2) := by decide +kernel
theorem dX6_acts_29 : decode cX6_acts 29 = .ok (.if_icmp .lt 13, 3) := by decide +kernel
theorem dX6_acts_32 : decode cX6_acts 32 = .ok (.iload_n 1, 1) := by decide +kernel
theorem dX6_acts_33 : decode cX6_acts 33 = .ok (.bipush 21, 2) := by decide +kernel
theorem dX6_acts_35 : decode cX6_acts 35 = .ok (.if_icmp .gt 7, 3) := by decide +kernel
theorem dX6_acts_38 : decode cX6_acts 38 = .ok (.iconst 0, 1) := by decide +kernel
theorem dX6_acts_39 : decode cX6_acts 39 = .ok (.goto 5, 3) := by decide +kernel
theorem dX6_acts_42 : decode cX6_acts 42 = .ok (.iload 5, 2) := by decide +kernel
theorem dX6_acts_44 : decode cX6_acts 44 = .ok (.putfield 223, 3) := by decide +kernel
theorem dX6_acts_47 : decode cX6_acts 47 = .ok (.aload_n 0, 1) := by decide +kernel
theorem dX6_acts_48 : decode cX6_acts 48 = .ok (.iconst 0, 1) := by decide +kernel
theorem dX6_acts_49 : decode cX6_acts 49 = .ok (.putfield 226, 3) := by decide +kernel
theorem dX6_acts_52 : decode cX6_acts 52 = .ok (.iconst 0, 1) := by decide +kernel
theorem dX6_acts_53 : decode cX6_acts 53 = .ok (.istore 6, 2) := by decide +kernel
theorem dX6_acts_55 : decode cX6_acts 55 = .ok (.iload 6, 2) := by decide +kernel
theorem dX6_acts_57 : decode cX6_acts 57 = .ok (.aload_n 0, 1) := by decide +kernel
theorem dX6_acts_58 : decode cX6_acts 58 = .ok (.getfield 160, 3) := by decide +kernel
theorem dX6_acts_61 : decode cX6_acts 61 = .ok (.if_icmp .ge 224, 3) := by decide +kernel
theorem dX6_acts_64 : decode cX6_acts 64 = .ok (.aload_n 0, 1) := by decide +kernel
theorem dX6_acts_65 : decode cX6_acts 65 = .ok (.iload_n 2, 1) := by decide +kernel
theorem dX6_acts_66 : decode cX6_acts 66 = .ok (.iload 6, 2) := by decide +kernel
theorem dX6_acts_68 : decode cX6_acts 68 = .ok (.invokevirtual 229, 3) := by decide +kernel
theorem dX6_acts_71 : decode cX6_acts 71 = .ok (.aload_n 0, 1) := by decide +kernel
theorem dX6_acts_72 : decode cX6_acts 72 = .ok (.getfield 7, 3) := by decide +kernel
theorem dX6_acts_75 : decode cX6_acts 75 = .ok (.iload_n 2, 1) := by decide +kernel
theorem dX6_acts_76 : decode cX6_acts 76 = .ok (.iaload, 1) := by decide +kernel
theorem dX6_acts_77 : decode cX6_acts 77 = .ok (.iload 5, 2) := by decide +kernel
theorem dX6_acts_79 : decode cX6_acts 79 = .ok (.invokestatic 233, 3) := by decide +kernel
theorem dX6_acts_82 : decode cX6_acts 82 = .ok (.lstore 7, 2) := by decide +kernel
theorem dX6_acts_84 : decode cX6_acts 84 = .ok (.aload_n 0, 1) := by decide +kernel
theorem dX6_acts_85 : decode cX6_acts 85 = .ok (.iload_n 3, 1) := by decide +kernel
theorem dX6_acts_86 : decode cX6_acts 86 = .ok (.iload 6, 2) := by decide +kernel
theorem dX6_acts_88 : decode cX6_acts 88 = .ok (.invokevirtual 229, 3) := by decide +kernel
theorem dX6_acts_91 : decode cX6_acts 91 = .ok (.aload_n 0, 1) := by decide +kernel
theorem dX6_acts_92 : decode cX6_acts 92 = .ok (.getfield 7, 3) := by decide +kernel
theorem dX6_acts_95 : decode cX6_acts 95 = .ok (.iload_n 3, 1) := by decide +kernel
theorem dX6_acts_96 : decode cX6_acts 96 = .ok (.iaload, 1) := by decide +kernel
theorem dX6_acts_97 : decode cX6_acts 97 = .ok (.iload 5, 2) := by decide +kernel
theorem dX6_acts_99 : decode cX6_acts 99 = .ok (.invokestatic 233, 3) := by decide +kernel
theorem dX6_acts_102 : decode cX6_acts 102 = .ok (.lstore 9, 2) := by decide +kernel
theorem dX6_acts_104 : decode cX6_acts 104 = .ok (.iload_n 1, 1) := by decide +kernel
theorem dX6_acts_105 : decode cX6_acts 105 = .ok (.bipush 18, 2) := by decide +kernel
theorem dX6_acts_107 : decode cX6_acts 107 = .ok (.if_icmp .lt 37, 3) := by decide +kernel
theorem dX6_acts_110 : decode cX6_acts 110 = .ok (.iload_n 1, 1) := by decide +kernel
theorem dX6_acts_111 : decode cX6_acts 111 = .ok (.bipush 21, 2) := by decide +kernel
theorem dX6_acts_113 : decode cX6_acts 113 = .ok (.if_icmp .gt 31, 3) := by decide +kernel
theorem dX6_acts_116 : decode cX6_acts 116 = .ok (.aload_n 0, 1) := by decide +kernel
theorem dX6_acts_117 : decode cX6_acts 117 = .ok (.getfield 30, 3) := by decide +kernel
theorem dX6_acts_120 : decode cX6_acts 120 = .ok (.iload 6, 2) := by decide +kernel
theorem dX6_acts_122 : decode cX6_acts 122 = .ok (.iload_n 1, 1) := by decide +kernel
theorem dX6_acts_123 : decode cX6_acts 123 = .ok (.lload 7, 2) := by decide +kernel
theorem dX6_acts_125 : decode cX6_acts 125 = .ok (.lload 9, 2) := by decide +kernel
theorem dX6_acts_127 : decode cX6_acts 127 = .ok (.iload 5, 2) := by decide +kernel
theorem dX6_acts_129 : decode cX6_acts 129 = .ok (.invokestatic 237, 3) := by decide +kernel
theorem dX6_acts_132 : decode cX6_acts 132 = .ok (.ifCond .eq 7, 3) := by decide +kernel
theorem dX6_acts_135 : decode cX6_acts 135 = .ok (.lconst 1, 1) := by decide +kernel
theorem dX6_acts_136 : decode cX6_acts 136 = .ok (.goto 4, 3) := by decide +kernel
theorem dX6_acts_139 : decode cX6_acts 139 = .ok (.lconst 0, 1) := by decide +kernel
theorem dX6_acts_140 : decode cX6_acts 140 = .ok (.lastore, 1) := by decide +kernel
theorem dX6_acts_141 : decode cX6_acts 141 = .ok (.goto 138, 3) := by decide +kernel
theorem dX6_acts_144 : decode cX6_acts 144 = .ok (.iload 5, 2) := by decide +kernel
theorem dX6_acts_146 : decode cX6_acts 146 = .ok (.iconst 4, 1) := by decide +kernel
theorem dX6_acts_147 : decode cX6_acts 147 = .ok (.if_icmp .ne 31, 3) := by decide +kernel
theorem dX6_acts_150 : decode cX6_acts 150 = .ok (.aload_n 0, 1) := by decide +kernel
theorem dX6_acts_151 : decode cX6_acts 151 = .ok (.getfield 30, 3) := by decide +kernel
theorem dX6_acts_154 : decode cX6_acts 154 = .ok (.iload 6, 2) := by decide +kernel
theorem dX6_acts_156 : decode cX6_acts 156 = .ok (.iload_n 1, 1) := by decide +kernel
theorem dX6_acts_157 : decode cX6_acts 157 = .ok (.lload 7, 2) := by decide +kernel
theorem dX6_acts_159 : decode cX6_acts 159 = .ok (.invokestatic 131, 3) := by decide +kernel
theorem dX6_acts_162 : decode cX6_acts 162 = .ok (.lload 9, 2) := by decide +kernel
theorem dX6_acts_164 : decode cX6_acts 164 = .ok (.invokestatic 131, 3) := by decide +kernel
theorem dX6_acts_167 : decode cX6_acts 167 = .ok (.iconst 4, 1) := by decide +kernel
theorem dX6_acts_168 : decode cX6_acts 168 = .ok (.invokestatic 241, 3) := by decide +kernel
theorem dX6_acts_171 : decode cX6_acts 171 = .ok (.invokestatic 128, 3) := by decide +kernel
theorem dX6_acts_174 : decode cX6_acts 174 = .ok (.lastore, 1) := by decide +kernel
theorem dX6_acts_175 : decode cX6_acts 175 = .ok (.goto 104, 3) := by decide +kernel
theorem dX6_acts_178 : decode cX6_acts 178 = .ok (.iload 5, 2) := by decide +kernel
theorem dX6_acts_180 : decode cX6_acts 180 = .ok (.iconst 5, 1) := by decide +kernel
theorem dX6_acts_181 : decode cX6_acts 181 = .ok (.if_icmp .ne 22, 3) := by decide +kernel
theorem dX6_acts_184 : decode cX6_acts 184 = .ok (.aload_n 0, 1) := by decide +kernel
theorem dX6_acts_185 : decode cX6_acts 185 = .ok (.getfield 30, 3) := by decide +kernel
theorem dX6_acts_188 : decode cX6_acts 188 = .ok (.iload 6, 2) := by decide +kernel
theorem dX6_acts_190 : decode cX6_acts 190 = .ok (.iload_n 1, 1) := by decide +kernel
theorem dX6_acts_191 : decode cX6_acts 191 = .ok (.lload 7, 2) := by decide +kernel
theorem dX6_acts_193 : decode cX6_acts 193 = .ok (.lload 9, 2) := by decide +kernel
theorem dX6_acts_195 : decode cX6_acts 195 = .ok (.iconst 5, 1) := by decide +kernel
theorem dX6_acts_196 : decode cX6_acts 196 = .ok (.invokestatic 241, 3) := by decide +kernel
theorem dX6_acts_199 : decode cX6_acts 199 = .ok (.lastore, 1) := by decide +kernel
theorem dX6_acts_200 : decode cX6_acts 200 = .ok (.goto 79, 3) := by decide +kernel
theorem dX6_acts_203 : decode cX6_acts 203 = .ok (.iload_n 1, 1) := by decide +kernel
theorem dX6_acts_204 : decode cX6_acts 204 = .ok (.iconst 4, 1) := by decide +kernel
theorem dX6_acts_205 : decode cX6_acts 205 = .ok (.if_icmp .lt 52, 3) := by decide +kernel
theorem dX6_acts_208 : decode cX6_acts 208 = .ok (.iload_n 1, 1) := by decide +kernel
theorem dX6_acts_209 : decode cX6_acts 209 = .ok (.bipush 7, 2) := by decide +kernel
theorem dX6_acts_211 : decode cX6_acts 211 = .ok (.if_icmp .gt 46, 3) := by decide +kernel
theorem dX6_acts_214 : decode cX6_acts 214 = .ok (.lload 9, 2) := by decide +kernel
theorem dX6_acts_216 : decode cX6_acts 216 = .ok (.lconst 0, 1) := by decide +kernel
theorem dX6_acts_217 : decode cX6_acts 217 = .ok (.lcmp, 1) := by decide +kernel
theorem dX6_acts_218 : decode cX6_acts 218 = .ok (.ifCond .ne 39, 3) := by decide +kernel
theorem dX6_acts_221 : decode cX6_acts 221 = .ok (.aload_n 0, 1) := by decide +kernel
theorem dX6_acts_222 : decode cX6_acts 222 = .ok (.getfield 175, 3) := by decide +kernel
theorem dX6_acts_225 : decode cX6_acts 225 = .ok (.ifCond .ne 11, 3) := by decide +kernel
theorem dX6_acts_228 : decode cX6_acts 228 = .ok (.aload_n 0, 1) := by decide +kernel
theorem dX6_acts_229 : decode cX6_acts 229 = .ok (.iconst 5, 1) := by decide +kernel
theorem dX6_acts_230 : decode cX6_acts 230 = .ok (.iload 6, 2) := by decide +kernel
theorem dX6_acts_232 : decode cX6_acts 232 = .ok (.invokevirtual 168, 3) := by decide +kernel
theorem dX6_acts_235 : decode cX6_acts 235 = .ok (.ireturn, 1) := by decide +kernel
theorem dX6_acts_236 : decode cX6_acts 236 = .ok (.aload_n 0, 1) := by decide +kernel
theorem dX6_acts_237 : decode cX6_acts 237 = .ok (.getfield 30, 3) := by decide +kernel
theorem dX6_acts_240 : decode cX6_acts 240 = .ok (.iload 6, 2) := by decide +kernel
theorem dX6_acts_242 : decode cX6_acts 242 = .ok (.lconst 0, 1) := by decide +kernel
theorem dX6_acts_243 : decode cX6_acts 243 = .ok (.lastore, 1) := by decide +kernel
theorem dX6_acts_244 : decode cX6_acts 244 = .ok (.aload_n 0, 1) := by decide +kernel
theorem dX6_acts_245 : decode cX6_acts 245 = .ok (.dup, 1) := by decide +kernel
theorem dX6_acts_246 : decode cX6_acts 246 = .ok (.getfield 226, 3) := by decide +kernel
theorem dX6_acts_249 : decode cX6_acts 249 = .ok (.iconst 1, 1) := by decide +kernel
theorem dX6_acts_250 : decode cX6_acts 250 = .ok (.iadd, 1) := by decide +kernel
theorem dX6_acts_251 : decode cX6_acts 251 = .ok (.putfield 226, 3) := by decide +kernel
theorem dX6_acts_254 : decode cX6_acts 254 = .ok (.goto 25, 3) := by decide +kernel
theorem dX6_acts_257 : decode cX6_acts 257 = .ok (.aload_n 0, 1) := by decide +kernel
theorem dX6_acts_258 : decode cX6_acts 258 = .ok (.getfield 30, 3) := by decide +kernel
theorem dX6_acts_261 : decode cX6_acts 261 = .ok (.iload 6, 2) := by decide +kernel
theorem dX6_acts_263 : decode cX6_acts 263 = .ok (.iload_n 1, 1) := by decide +kernel
theorem dX6_acts_264 : decode cX6_acts 264 = .ok (.lload 7, 2) := by decide +kernel
theorem dX6_acts_266 : decode cX6_acts 266 = .ok (.lload 9, 2) := by decide +kernel
theorem dX6_acts_268 : decode cX6_acts 268 = .ok (.iload 5, 2) := by decide +kernel
theorem dX6_acts_270 : decode cX6_acts 270 = .ok (.invokestatic 245, 3) := by decide +kernel
theorem dX6_acts_273 : decode cX6_acts 273 = .ok (.iload 5, 2) := by decide +kernel
theorem dX6_acts_275 : decode cX6_acts 275 = .ok (.invokestatic 121, 3) := by decide +kernel
theorem dX6_acts_278 : decode cX6_acts 278 = .ok (.lastore, 1) := by decide +kernel
theorem dX6_acts_279 : decode cX6_acts 279 = .ok (.iinc 6 1, 3) := by decide +kernel
theorem dX6_acts_282 : decode cX6_acts 282 = .ok (.goto (-227), 3) := by decide +kernel
theorem dX6_acts_285 : decode cX6_acts 285 = .ok (.aload_n 0, 1) := by decide +kernel
theorem dX6_acts_286 : decode cX6_acts 286 = .ok (.dup, 1) := by decide +kernel
theorem dX6_acts_287 : decode cX6_acts 287 = .ok (.getfield 248, 3) := by decide +kernel
theorem dX6_acts_290 : decode cX6_acts 290 = .ok (.aload_n 0, 1) := by decide +kernel
theorem dX6_acts_291 : decode cX6_acts 291 = .ok (.getfield 226, 3) := by decide +kernel
theorem dX6_acts_294 : decode cX6_acts 294 = .ok (.iadd, 1) := by decide +kernel
theorem dX6_acts_295 : decode cX6_acts 295 = .ok (.putfield 248, 3) := by decide +kernel
theorem dX6_acts_298 : decode cX6_acts 298 = .ok (.iconst 0, 1) := by decide +kernel
theorem dX6_acts_299 : decode cX6_acts 299 = .ok (.ireturn, 1) := by decide +kernel
theorem dX6_isLane_0 : decode cX6_isLane 0 = .ok (.iload_n 1, 1) := by decide +kernel
theorem dX6_isLane_1 : decode cX6_isLane 1 = .ok (.aload_n 0, 1) := by decide +kernel
theorem dX6_isLane_2 : decode cX6_isLane 2 = .ok (.getfield 7, 3) := by decide +kernel
theorem dX6_isLane_5 : decode cX6_isLane 5 = .ok (.iload_n 2, 1) := by decide +kernel
theorem dX6_isLane_6 : decode cX6_isLane 6 = .ok (.iaload, 1) := by decide +kernel
theorem dX6_isLane_7 : decode cX6_isLane 7 = .ok (.aload_n 0, 1) := by decide +kernel
theorem dX6_isLane_8 : decode cX6_isLane 8 = .ok (.getfield 7, 3) := by decide +kernel
theorem dX6_isLane_11 : decode cX6_isLane 11 = .ok (.iload_n 3, 1) := by decide +kernel
theorem dX6_isLane_12 : decode cX6_isLane 12 = .ok (.iaload, 1) := by decide +kernel
theorem dX6_isLane_13 : decode cX6_isLane 13 = .ok (.invokestatic 217, 3) := by decide +kernel
theorem dX6_isLane_16 : decode cX6_isLane 16 = .ok (.invokestatic 220, 3) := by decide +kernel
theorem dX6_isLane_19 : decode cX6_isLane 19 = .ok (.ifCond .lt 7, 3) := by decide +kernel
theorem dX6_isLane_22 : decode cX6_isLane 22 = .ok (.iconst 1, 1) := by decide +kernel
theorem dX6_isLane_23 : decode cX6_isLane 23 = .ok (.goto 4, 3) := by decide +kernel
theorem dX6_isLane_26 : decode cX6_isLane 26 = .ok (.iconst 0, 1) := by decide +kernel
theorem dX6_isLane_27 : decode cX6_isLane 27 = .ok (.ireturn, 1) := by decide +kernel
theorem dX6_act_0 : decode cX6_act 0 = .ok (.iload_n 1, 1) := by decide +kernel
theorem dX6_act_1 : decode cX6_act 1 = .ok (.i2l, 1) := by decide +kernel
theorem dX6_act_2 : decode cX6_act 2 = .ok (.lconst 0, 1) := by decide +kernel
theorem dX6_act_3 : decode cX6_act 3 = .ok (.ldc2_w 251, 3) := by decide +kernel
theorem dX6_act_6 : decode cX6_act 6 = .ok (.invokestatic 149, 3) := by decide +kernel
theorem dX6_act_9 : decode cX6_act 9 = .ok (.ifCond .eq 19, 3) := by decide +kernel
theorem dX6_act_12 : decode cX6_act 12 = .ok (.aload_n 0, 1) := by decide +kernel
theorem dX6_act_13 : decode cX6_act 13 = .ok (.iload_n 2, 1) := by decide +kernel
theorem dX6_act_14 : decode cX6_act 14 = .ok (.invokevirtual 171, 3) := by decide +kernel
theorem dX6_act_17 : decode cX6_act 17 = .ok (.ifCond .eq 11, 3) := by decide +kernel
theorem dX6_act_20 : decode cX6_act 20 = .ok (.aload_n 0, 1) := by decide +kernel
theorem dX6_act_21 : decode cX6_act 21 = .ok (.iload_n 3, 1) := by decide +kernel
theorem dX6_act_22 : decode cX6_act 22 = .ok (.invokevirtual 171, 3) := by decide +kernel
theorem dX6_act_25 : decode cX6_act 25 = .ok (.ifCond .ne 5, 3) := by decide +kernel
theorem dX6_act_28 : decode cX6_act 28 = .ok (.iconst (-1), 1) := by decide +kernel
theorem dX6_act_29 : decode cX6_act 29 = .ok (.ireturn, 1) := by decide +kernel
theorem dX6_act_30 : decode cX6_act 30 = .ok (.aload_n 0, 1) := by decide +kernel
theorem dX6_act_31 : decode cX6_act 31 = .ok (.getfield 146, 3) := by decide +kernel
theorem dX6_act_34 : decode cX6_act 34 = .ok (.bipush 16, 2) := by decide +kernel
theorem dX6_act_36 : decode cX6_act 36 = .ok (.if_icmp .ne 6, 3) := by decide +kernel
theorem dX6_act_39 : decode cX6_act 39 = .ok (.bipush (-2), 2) := by decide +kernel
theorem dX6_act_41 : decode cX6_act 41 = .ok (.ireturn, 1) := by decide +kernel
theorem dX6_act_42 : decode cX6_act 42 = .ok (.aload_n 0, 1) := by decide +kernel
theorem dX6_act_43 : decode cX6_act 43 = .ok (.getfield 22, 3) := by decide +kernel
theorem dX6_act_46 : decode cX6_act 46 = .ok (.iload_n 2, 1) := by decide +kernel
theorem dX6_act_47 : decode cX6_act 47 = .ok (.baload, 1) := by decide +kernel
theorem dX6_act_48 : decode cX6_act 48 = .ok (.ifCond .ne 12, 3) := by decide +kernel
theorem dX6_act_51 : decode cX6_act 51 = .ok (.aload_n 0, 1) := by decide +kernel
theorem dX6_act_52 : decode cX6_act 52 = .ok (.getfield 22, 3) := by decide +kernel
theorem dX6_act_55 : decode cX6_act 55 = .ok (.iload_n 3, 1) := by decide +kernel
theorem dX6_act_56 : decode cX6_act 56 = .ok (.baload, 1) := by decide +kernel
theorem dX6_act_57 : decode cX6_act 57 = .ok (.ifCond .eq 11, 3) := by decide +kernel
theorem dX6_act_60 : decode cX6_act 60 = .ok (.aload_n 0, 1) := by decide +kernel
theorem dX6_act_61 : decode cX6_act 61 = .ok (.iconst 1, 1) := by decide +kernel
theorem dX6_act_62 : decode cX6_act 62 = .ok (.bipush (-3), 2) := by decide +kernel
theorem dX6_act_64 : decode cX6_act 64 = .ok (.invokevirtual 168, 3) := by decide +kernel
theorem dX6_act_67 : decode cX6_act 67 = .ok (.ireturn, 1) := by decide +kernel
theorem dX6_act_68 : decode cX6_act 68 = .ok (.aload_n 0, 1) := by decide +kernel
theorem dX6_act_69 : decode cX6_act 69 = .ok (.iload_n 1, 1) := by decide +kernel
theorem dX6_act_70 : decode cX6_act 70 = .ok (.iload_n 2, 1) := by decide +kernel
theorem dX6_act_71 : decode cX6_act 71 = .ok (.iload_n 3, 1) := by decide +kernel
theorem dX6_act_72 : decode cX6_act 72 = .ok (.invokevirtual 253, 3) := by decide +kernel
theorem dX6_act_75 : decode cX6_act 75 = .ok (.ifCond .ne 11, 3) := by decide +kernel
theorem dX6_act_78 : decode cX6_act 78 = .ok (.aload_n 0, 1) := by decide +kernel
theorem dX6_act_79 : decode cX6_act 79 = .ok (.iconst 4, 1) := by decide +kernel
theorem dX6_act_80 : decode cX6_act 80 = .ok (.bipush (-3), 2) := by decide +kernel
theorem dX6_act_82 : decode cX6_act 82 = .ok (.invokevirtual 168, 3) := by decide +kernel
theorem dX6_act_85 : decode cX6_act 85 = .ok (.ireturn, 1) := by decide +kernel
theorem dX6_act_86 : decode cX6_act 86 = .ok (.aload_n 0, 1) := by decide +kernel
theorem dX6_act_87 : decode cX6_act 87 = .ok (.iload_n 2, 1) := by decide +kernel
theorem dX6_act_88 : decode cX6_act 88 = .ok (.iload_n 3, 1) := by decide +kernel
theorem dX6_act_89 : decode cX6_act 89 = .ok (.invokevirtual 257, 3) := by decide +kernel
theorem dX6_act_92 : decode cX6_act 92 = .ok (.istore 4, 2) := by decide +kernel
theorem dX6_act_94 : decode cX6_act 94 = .ok (.iload 4, 2) := by decide +kernel
theorem dX6_act_96 : decode cX6_act 96 = .ok (.ifCond .ge 8, 3) := by decide +kernel
theorem dX6_act_99 : decode cX6_act 99 = .ok (.iload 4, 2) := by decide +kernel
theorem dX6_act_101 : decode cX6_act 101 = .ok (.goto 10, 3) := by decide +kernel
theorem dX6_act_104 : decode cX6_act 104 = .ok (.aload_n 0, 1) := by decide +kernel
theorem dX6_act_105 : decode cX6_act 105 = .ok (.iload_n 1, 1) := by decide +kernel
theorem dX6_act_106 : decode cX6_act 106 = .ok (.iload_n 2, 1) := by decide +kernel
theorem dX6_act_107 : decode cX6_act 107 = .ok (.iload_n 3, 1) := by decide +kernel
theorem dX6_act_108 : decode cX6_act 108 = .ok (.invokevirtual 260, 3) := by decide +kernel
theorem dX6_act_111 : decode cX6_act 111 = .ok (.istore 4, 2) := by decide +kernel
theorem dX6_act_113 : decode cX6_act 113 = .ok (.iload 4, 2) := by decide +kernel
theorem dX6_act_115 : decode cX6_act 115 = .ok (.ifCond .ge 8, 3) := by decide +kernel
theorem dX6_act_118 : decode cX6_act 118 = .ok (.iload 4, 2) := by decide +kernel
theorem dX6_act_120 : decode cX6_act 120 = .ok (.goto 11, 3) := by decide +kernel
theorem dX6_act_123 : decode cX6_act 123 = .ok (.aload_n 0, 1) := by decide +kernel
theorem dX6_act_124 : decode cX6_act 124 = .ok (.aload_n 0, 1) := by decide +kernel
theorem dX6_act_125 : decode cX6_act 125 = .ok (.getfield 223, 3) := by decide +kernel
theorem dX6_act_128 : decode cX6_act 128 = .ok (.invokevirtual 165, 3) := by decide +kernel
theorem dX6_act_131 : decode cX6_act 131 = .ok (.ireturn, 1) := by decide +kernel
theorem dX6_into_0 : decode cX6_into 0 = .ok (.iload_n 1, 1) := by decide +kernel
theorem dX6_into_1 : decode cX6_into 1 = .ok (.i2l, 1) := by decide +kernel
theorem dX6_into_2 : decode cX6_into 2 = .ok (.lconst 0, 1) := by decide +kernel
theorem dX6_into_3 : decode cX6_into 3 = .ok (.ldc2_w 251, 3) := by decide +kernel
theorem dX6_into_6 : decode cX6_into 6 = .ok (.invokestatic 149, 3) := by decide +kernel
theorem dX6_into_9 : decode cX6_into 9 = .ok (.ifCond .eq 28, 3) := by decide +kernel
theorem dX6_into_12 : decode cX6_into 12 = .ok (.aload_n 0, 1) := by decide +kernel
theorem dX6_into_13 : decode cX6_into 13 = .ok (.iload_n 2, 1) := by decide +kernel
theorem dX6_into_14 : decode cX6_into 14 = .ok (.invokevirtual 171, 3) := by decide +kernel
theorem dX6_into_17 : decode cX6_into 17 = .ok (.ifCond .eq 20, 3) := by decide +kernel
theorem dX6_into_20 : decode cX6_into 20 = .ok (.aload_n 0, 1) := by decide +kernel
theorem dX6_into_21 : decode cX6_into 21 = .ok (.iload_n 3, 1) := by decide +kernel
theorem dX6_into_22 : decode cX6_into 22 = .ok (.invokevirtual 171, 3) := by decide +kernel
theorem dX6_into_25 : decode cX6_into 25 = .ok (.ifCond .eq 12, 3) := by decide +kernel
theorem dX6_into_28 : decode cX6_into 28 = .ok (.aload_n 0, 1) := by decide +kernel
theorem dX6_into_29 : decode cX6_into 29 = .ok (.iload 4, 2) := by decide +kernel
theorem dX6_into_31 : decode cX6_into 31 = .ok (.invokevirtual 171, 3) := by decide +kernel
theorem dX6_into_34 : decode cX6_into 34 = .ok (.ifCond .ne 5, 3) := by decide +kernel
theorem dX6_into_37 : decode cX6_into 37 = .ok (.iconst (-1), 1) := by decide +kernel
theorem dX6_into_38 : decode cX6_into 38 = .ok (.ireturn, 1) := by decide +kernel
theorem dX6_into_39 : decode cX6_into 39 = .ok (.aload_n 0, 1) := by decide +kernel
theorem dX6_into_40 : decode cX6_into 40 = .ok (.getfield 22, 3) := by decide +kernel
theorem dX6_into_43 : decode cX6_into 43 = .ok (.iload_n 2, 1) := by decide +kernel
theorem dX6_into_44 : decode cX6_into 44 = .ok (.baload, 1) := by decide +kernel
theorem dX6_into_45 : decode cX6_into 45 = .ok (.ifCond .ne 22, 3) := by decide +kernel
theorem dX6_into_48 : decode cX6_into 48 = .ok (.aload_n 0, 1) := by decide +kernel
theorem dX6_into_49 : decode cX6_into 49 = .ok (.getfield 22, 3) := by decide +kernel
theorem dX6_into_52 : decode cX6_into 52 = .ok (.iload_n 3, 1) := by decide +kernel
theorem dX6_into_53 : decode cX6_into 53 = .ok (.baload, 1) := by decide +kernel
theorem dX6_into_54 : decode cX6_into 54 = .ok (.ifCond .ne 13, 3) := by decide +kernel
theorem dX6_into_57 : decode cX6_into 57 = .ok (.aload_n 0, 1) := by decide +kernel
theorem dX6_into_58 : decode cX6_into 58 = .ok (.getfield 22, 3) := by decide +kernel
theorem dX6_into_61 : decode cX6_into 61 = .ok (.iload 4, 2) := by decide +kernel
theorem dX6_into_63 : decode cX6_into 63 = .ok (.baload, 1) := by decide +kernel
theorem dX6_into_64 : decode cX6_into 64 = .ok (.ifCond .eq 11, 3) := by decide +kernel
theorem dX6_into_67 : decode cX6_into 67 = .ok (.aload_n 0, 1) := by decide +kernel
theorem dX6_into_68 : decode cX6_into 68 = .ok (.iconst 1, 1) := by decide +kernel
theorem dX6_into_69 : decode cX6_into 69 = .ok (.bipush (-3), 2) := by decide +kernel
theorem dX6_into_71 : decode cX6_into 71 = .ok (.invokevirtual 168, 3) := by decide +kernel
theorem dX6_into_74 : decode cX6_into 74 = .ok (.ireturn, 1) := by decide +kernel
theorem dX6_into_75 : decode cX6_into 75 = .ok (.aload_n 0, 1) := by decide +kernel
theorem dX6_into_76 : decode cX6_into 76 = .ok (.iload_n 1, 1) := by decide +kernel
theorem dX6_into_77 : decode cX6_into 77 = .ok (.iload_n 2, 1) := by decide +kernel
theorem dX6_into_78 : decode cX6_into 78 = .ok (.iload_n 3, 1) := by decide +kernel
theorem dX6_into_79 : decode cX6_into 79 = .ok (.invokevirtual 253, 3) := by decide +kernel
theorem dX6_into_82 : decode cX6_into 82 = .ok (.ifCond .ne 11, 3) := by decide +kernel
theorem dX6_into_85 : decode cX6_into 85 = .ok (.aload_n 0, 1) := by decide +kernel
theorem dX6_into_86 : decode cX6_into 86 = .ok (.iconst 4, 1) := by decide +kernel
theorem dX6_into_87 : decode cX6_into 87 = .ok (.bipush (-3), 2) := by decide +kernel
theorem dX6_into_89 : decode cX6_into 89 = .ok (.invokevirtual 168, 3) := by decide +kernel
theorem dX6_into_92 : decode cX6_into 92 = .ok (.ireturn, 1) := by decide +kernel
theorem dX6_into_93 : decode cX6_into 93 = .ok (.aload_n 0, 1) := by decide +kernel
theorem dX6_into_94 : decode cX6_into 94 = .ok (.iload_n 2, 1) := by decide +kernel
theorem dX6_into_95 : decode cX6_into 95 = .ok (.invokevirtual 210, 3) := by decide +kernel
theorem dX6_into_98 : decode cX6_into 98 = .ok (.aload_n 0, 1) := by decide +kernel
theorem dX6_into_99 : decode cX6_into 99 = .ok (.iload_n 3, 1) := by decide +kernel
theorem dX6_into_100 : decode cX6_into 100 = .ok (.invokevirtual 214, 3) := by decide +kernel
theorem dX6_into_103 : decode cX6_into 103 = .ok (.istore 5, 2) := by decide +kernel
theorem dX6_into_105 : decode cX6_into 105 = .ok (.iload 5, 2) := by decide +kernel
theorem dX6_into_107 : decode cX6_into 107 = .ok (.ifCond .lt 12, 3) := by decide +kernel
theorem dX6_into_110 : decode cX6_into 110 = .ok (.aload_n 0, 1) := by decide +kernel
theorem dX6_into_111 : decode cX6_into 111 = .ok (.bipush 6, 2) := by decide +kernel
theorem dX6_into_113 : decode cX6_into 113 = .ok (.iload 5, 2) := by decide +kernel
theorem dX6_into_115 : decode cX6_into 115 = .ok (.invokevirtual 168, 3) := by decide +kernel
theorem dX6_into_118 : decode cX6_into 118 = .ok (.ireturn, 1) := by decide +kernel
theorem dX6_into_119 : decode cX6_into 119 = .ok (.aload_n 0, 1) := by decide +kernel
theorem dX6_into_120 : decode cX6_into 120 = .ok (.getfield 153, 3) := by decide +kernel
theorem dX6_into_123 : decode cX6_into 123 = .ok (.aload_n 0, 1) := by decide +kernel
theorem dX6_into_124 : decode cX6_into 124 = .ok (.getfield 13, 3) := by decide +kernel
theorem dX6_into_127 : decode cX6_into 127 = .ok (.iload 4, 2) := by decide +kernel
theorem dX6_into_129 : decode cX6_into 129 = .ok (.iaload, 1) := by decide +kernel
theorem dX6_into_130 : decode cX6_into 130 = .ok (.if_icmp .ne 7, 3) := by decide +kernel
theorem dX6_into_133 : decode cX6_into 133 = .ok (.iconst 1, 1) := by decide +kernel
theorem dX6_into_134 : decode cX6_into 134 = .ok (.goto 4, 3) := by decide +kernel
theorem dX6_into_137 : decode cX6_into 137 = .ok (.iconst 0, 1) := by decide +kernel
theorem dX6_into_138 : decode cX6_into 138 = .ok (.istore 6, 2) := by decide +kernel
theorem dX6_into_140 : decode cX6_into 140 = .ok (.iconst 0, 1) := by decide +kernel
theorem dX6_into_141 : decode cX6_into 141 = .ok (.istore 7, 2) := by decide +kernel
theorem dX6_into_143 : decode cX6_into 143 = .ok (.iload 7, 2) := by decide +kernel
theorem dX6_into_145 : decode cX6_into 145 = .ok (.aload_n 0, 1) := by decide +kernel
theorem dX6_into_146 : decode cX6_into 146 = .ok (.getfield 153, 3) := by decide +kernel
theorem dX6_into_149 : decode cX6_into 149 = .ok (.if_icmp .ge 39, 3) := by decide +kernel
theorem dX6_into_152 : decode cX6_into 152 = .ok (.iload 6, 2) := by decide +kernel
theorem dX6_into_154 : decode cX6_into 154 = .ok (.ifCond .eq 25, 3) := by decide +kernel
theorem dX6_into_157 : decode cX6_into 157 = .ok (.aload_n 0, 1) := by decide +kernel
theorem dX6_into_158 : decode cX6_into 158 = .ok (.getfield 37, 3) := by decide +kernel
theorem dX6_into_161 : decode cX6_into 161 = .ok (.iload 7, 2) := by decide +kernel
theorem dX6_into_163 : decode cX6_into 163 = .ok (.iaload, 1) := by decide +kernel
theorem dX6_into_164 : decode cX6_into 164 = .ok (.aload_n 0, 1) := by decide +kernel
theorem dX6_into_165 : decode cX6_into 165 = .ok (.iload 4, 2) := by decide +kernel
theorem dX6_into_167 : decode cX6_into 167 = .ok (.iload 7, 2) := by decide +kernel
theorem dX6_into_169 : decode cX6_into 169 = .ok (.invokevirtual 156, 3) := by decide +kernel
theorem dX6_into_172 : decode cX6_into 172 = .ok (.if_icmp .ne 7, 3) := by decide +kernel
theorem dX6_into_175 : decode cX6_into 175 = .ok (.iconst 1, 1) := by decide +kernel
theorem dX6_into_176 : decode cX6_into 176 = .ok (.goto 4, 3) := by decide +kernel
theorem dX6_into_179 : decode cX6_into 179 = .ok (.iconst 0, 1) := by decide +kernel
theorem dX6_into_180 : decode cX6_into 180 = .ok (.istore 6, 2) := by decide +kernel
theorem dX6_into_182 : decode cX6_into 182 = .ok (.iinc 7 1, 3) := by decide +kernel
theorem dX6_into_185 : decode cX6_into 185 = .ok (.goto (-42), 3) := by decide +kernel
theorem dX6_into_188 : decode cX6_into 188 = .ok (.iload 6, 2) := by decide +kernel
theorem dX6_into_190 : decode cX6_into 190 = .ok (.ifCond .ne 12, 3) := by decide +kernel
theorem dX6_into_193 : decode cX6_into 193 = .ok (.aload_n 0, 1) := by decide +kernel
theorem dX6_into_194 : decode cX6_into 194 = .ok (.bipush 6, 2) := by decide +kernel
theorem dX6_into_196 : decode cX6_into 196 = .ok (.bipush (-3), 2) := by decide +kernel
theorem dX6_into_198 : decode cX6_into 198 = .ok (.invokevirtual 168, 3) := by decide +kernel
theorem dX6_into_201 : decode cX6_into 201 = .ok (.ireturn, 1) := by decide +kernel
theorem dX6_into_202 : decode cX6_into 202 = .ok (.iload_n 1, 1) := by decide +kernel
theorem dX6_into_203 : decode cX6_into 203 = .ok (.bipush 18, 2) := by decide +kernel
theorem dX6_into_205 : decode cX6_into 205 = .ok (.if_icmp .lt 13, 3) := by decide +kernel
theorem dX6_into_208 : decode cX6_into 208 = .ok (.iload_n 1, 1) := by decide +kernel
theorem dX6_into_209 : decode cX6_into 209 = .ok (.bipush 21, 2) := by decide +kernel
theorem dX6_into_211 : decode cX6_into 211 = .ok (.if_icmp .gt 7, 3) := by decide +kernel
theorem dX6_into_214 : decode cX6_into 214 = .ok (.iconst 0, 1) := by decide +kernel
theorem dX6_into_215 : decode cX6_into 215 = .ok (.goto 22, 3) := by decide +kernel
theorem dX6_into_218 : decode cX6_into 218 = .ok (.iload_n 1, 1) := by decide +kernel
theorem dX6_into_219 : decode cX6_into 219 = .ok (.aload_n 0, 1) := by decide +kernel
theorem dX6_into_220 : decode cX6_into 220 = .ok (.getfield 7, 3) := by decide +kernel
theorem dX6_into_223 : decode cX6_into 223 = .ok (.iload_n 2, 1) := by decide +kernel
theorem dX6_into_224 : decode cX6_into 224 = .ok (.iaload, 1) := by decide +kernel
theorem dX6_into_225 : decode cX6_into 225 = .ok (.aload_n 0, 1) := by decide +kernel
theorem dX6_into_226 : decode cX6_into 226 = .ok (.getfield 7, 3) := by decide +kernel
theorem dX6_into_229 : decode cX6_into 229 = .ok (.iload_n 3, 1) := by decide +kernel
theorem dX6_into_230 : decode cX6_into 230 = .ok (.iaload, 1) := by decide +kernel
theorem dX6_into_231 : decode cX6_into 231 = .ok (.invokestatic 217, 3) := by decide +kernel
theorem dX6_into_234 : decode cX6_into 234 = .ok (.invokestatic 220, 3) := by decide +kernel
theorem dX6_into_237 : decode cX6_into 237 = .ok (.istore 7, 2) := by decide +kernel
theorem dX6_into_239 : decode cX6_into 239 = .ok (.aload_n 0, 1) := by decide +kernel
theorem dX6_into_240 : decode cX6_into 240 = .ok (.getfield 7, 3) := by decide +kernel
theorem dX6_into_243 : decode cX6_into 243 = .ok (.iload 4, 2) := by decide +kernel
theorem dX6_into_245 : decode cX6_into 245 = .ok (.iaload, 1) := by decide +kernel
theorem dX6_into_246 : decode cX6_into 246 = .ok (.istore 8, 2) := by decide +kernel
theorem dX6_into_248 : decode cX6_into 248 = .ok (.iload 7, 2) := by decide +kernel
theorem dX6_into_250 : decode cX6_into 250 = .ok (.iload 8, 2) := by decide +kernel
theorem dX6_into_252 : decode cX6_into 252 = .ok (.if_icmp .gt 21, 3) := by decide +kernel
theorem dX6_into_255 : decode cX6_into 255 = .ok (.iload 8, 2) := by decide +kernel
theorem dX6_into_257 : decode cX6_into 257 = .ok (.iconst 4, 1) := by decide +kernel
theorem dX6_into_258 : decode cX6_into 258 = .ok (.if_icmp .ne 23, 3) := by decide +kernel
theorem dX6_into_261 : decode cX6_into 261 = .ok (.iload 7, 2) := by decide +kernel
theorem dX6_into_263 : decode cX6_into 263 = .ok (.iconst 2, 1) := by decide +kernel
theorem dX6_into_264 : decode cX6_into 264 = .ok (.if_icmp .eq 9, 3) := by decide +kernel
theorem dX6_into_267 : decode cX6_into 267 = .ok (.iload 7, 2) := by decide +kernel
theorem dX6_into_269 : decode cX6_into 269 = .ok (.iconst 3, 1) := by decide +kernel
theorem dX6_into_270 : decode cX6_into 270 = .ok (.if_icmp .ne 11, 3) := by decide +kernel
theorem dX6_into_273 : decode cX6_into 273 = .ok (.aload_n 0, 1) := by decide +kernel
theorem dX6_into_274 : decode cX6_into 274 = .ok (.iconst 4, 1) := by decide +kernel
theorem dX6_into_275 : decode cX6_into 275 = .ok (.bipush (-3), 2) := by decide +kernel
theorem dX6_into_277 : decode cX6_into 277 = .ok (.invokevirtual 168, 3) := by decide +kernel
theorem dX6_into_280 : decode cX6_into 280 = .ok (.ireturn, 1) := by decide +kernel
theorem dX6_into_281 : decode cX6_into 281 = .ok (.aload_n 0, 1) := by decide +kernel
theorem dX6_into_282 : decode cX6_into 282 = .ok (.iload_n 1, 1) := by decide +kernel
theorem dX6_into_283 : decode cX6_into 283 = .ok (.iload_n 2, 1) := by decide +kernel
theorem dX6_into_284 : decode cX6_into 284 = .ok (.iload_n 3, 1) := by decide +kernel
theorem dX6_into_285 : decode cX6_into 285 = .ok (.invokevirtual 260, 3) := by decide +kernel
theorem dX6_into_288 : decode cX6_into 288 = .ok (.istore 9, 2) := by decide +kernel
theorem dX6_into_290 : decode cX6_into 290 = .ok (.iload 9, 2) := by decide +kernel
theorem dX6_into_292 : decode cX6_into 292 = .ok (.ifCond .ge 6, 3) := by decide +kernel
theorem dX6_into_295 : decode cX6_into 295 = .ok (.iload 9, 2) := by decide +kernel
theorem dX6_into_297 : decode cX6_into 297 = .ok (.ireturn, 1) := by decide +kernel
theorem dX6_into_298 : decode cX6_into 298 = .ok (.iconst 0, 1) := by decide +kernel
theorem dX6_into_299 : decode cX6_into 299 = .ok (.istore 10, 2) := by decide +kernel
theorem dX6_into_301 : decode cX6_into 301 = .ok (.iload 10, 2) := by decide +kernel
theorem dX6_into_303 : decode cX6_into 303 = .ok (.aload_n 0, 1) := by decide +kernel
theorem dX6_into_304 : decode cX6_into 304 = .ok (.getfield 160, 3) := by decide +kernel
theorem dX6_into_307 : decode cX6_into 307 = .ok (.if_icmp .ge 37, 3) := by decide +kernel
theorem dX6_into_310 : decode cX6_into 310 = .ok (.aload_n 0, 1) := by decide +kernel
theorem dX6_into_311 : decode cX6_into 311 = .ok (.getfield 26, 3) := by decide +kernel
theorem dX6_into_314 : decode cX6_into 314 = .ok (.sipush 240, 3) := by decide +kernel
theorem dX6_into_317 : decode cX6_into 317 = .ok (.iload 4, 2) := by decide +kernel
theorem dX6_into_319 : decode cX6_into 319 = .ok (.imul, 1) := by decide +kernel
theorem dX6_into_320 : decode cX6_into 320 = .ok (.iload 10, 2) := by decide +kernel
theorem dX6_into_322 : decode cX6_into 322 = .ok (.iadd, 1) := by decide +kernel
theorem dX6_into_323 : decode cX6_into 323 = .ok (.aload_n 0, 1) := by decide +kernel
theorem dX6_into_324 : decode cX6_into 324 = .ok (.getfield 30, 3) := by decide +kernel
theorem dX6_into_327 : decode cX6_into 327 = .ok (.iload 10, 2) := by decide +kernel
theorem dX6_into_329 : decode cX6_into 329 = .ok (.laload, 1) := by decide +kernel
theorem dX6_into_330 : decode cX6_into 330 = .ok (.iload 7, 2) := by decide +kernel
theorem dX6_into_332 : decode cX6_into 332 = .ok (.iload 8, 2) := by decide +kernel
theorem dX6_into_334 : decode cX6_into 334 = .ok (.invokestatic 233, 3) := by decide +kernel
theorem dX6_into_337 : decode cX6_into 337 = .ok (.lastore, 1) := by decide +kernel
theorem dX6_into_338 : decode cX6_into 338 = .ok (.iinc 10 1, 3) := by decide +kernel
theorem dX6_into_341 : decode cX6_into 341 = .ok (.goto (-40), 3) := by decide +kernel
theorem dX6_into_344 : decode cX6_into 344 = .ok (.iconst 1, 1) := by decide +kernel
theorem dX6_into_345 : decode cX6_into 345 = .ok (.ireturn, 1) := by decide +kernel
theorem dX6_onWhole_0 : decode cX6_onWhole 0 = .ok (.iload_n 0, 1) := by decide +kernel
theorem dX6_onWhole_1 : decode cX6_onWhole 1 = .ok (.tableswitch 103 0 7 #[47, 50, 63, 103, 103, 103, 103, 87], 47) := by decide +kernel
theorem dX6_onWhole_48 : decode cX6_onWhole 48 = .ok (.lload_n 1, 1) := by decide +kernel
theorem dX6_onWhole_49 : decode cX6_onWhole 49 = .ok (.lneg, 1) := by decide +kernel
theorem dX6_onWhole_50 : decode cX6_onWhole 50 = .ok (.lreturn, 1) := by decide +kernel
theorem dX6_onWhole_51 : decode cX6_onWhole 51 = .ok (.lload_n 1, 1) := by decide +kernel
theorem dX6_onWhole_52 : decode cX6_onWhole 52 = .ok (.lconst 0, 1) := by decide +kernel
theorem dX6_onWhole_53 : decode cX6_onWhole 53 = .ok (.lcmp, 1) := by decide +kernel
theorem dX6_onWhole_54 : decode cX6_onWhole 54 = .ok (.ifCond .ge 8, 3) := by decide +kernel
theorem dX6_onWhole_57 : decode cX6_onWhole 57 = .ok (.lload_n 1, 1) := by decide +kernel
theorem dX6_onWhole_58 : decode cX6_onWhole 58 = .ok (.lneg, 1) := by decide +kernel
theorem dX6_onWhole_59 : decode cX6_onWhole 59 = .ok (.goto 4, 3) := by decide +kernel
theorem dX6_onWhole_62 : decode cX6_onWhole 62 = .ok (.lload_n 1, 1) := by decide +kernel
theorem dX6_onWhole_63 : decode cX6_onWhole 63 = .ok (.lreturn, 1) := by decide +kernel
theorem dX6_onWhole_64 : decode cX6_onWhole 64 = .ok (.lload_n 1, 1) := by decide +kernel
theorem dX6_onWhole_65 : decode cX6_onWhole 65 = .ok (.lconst 0, 1) := by decide +kernel
theorem dX6_onWhole_66 : decode cX6_onWhole 66 = .ok (.lcmp, 1) := by decide +kernel
theorem dX6_onWhole_67 : decode cX6_onWhole 67 = .ok (.ifCond .ge 9, 3) := by decide +kernel
theorem dX6_onWhole_70 : decode cX6_onWhole 70 = .ok (.ldc2_w 117, 3) := by decide +kernel
theorem dX6_onWhole_73 : decode cX6_onWhole 73 = .ok (.goto 14, 3) := by decide +kernel
theorem dX6_onWhole_76 : decode cX6_onWhole 76 = .ok (.lload_n 1, 1) := by decide +kernel
theorem dX6_onWhole_77 : decode cX6_onWhole 77 = .ok (.lconst 0, 1) := by decide +kernel
theorem dX6_onWhole_78 : decode cX6_onWhole 78 = .ok (.lcmp, 1) := by decide +kernel
theorem dX6_onWhole_79 : decode cX6_onWhole 79 = .ok (.ifCond .le 7, 3) := by decide +kernel
theorem dX6_onWhole_82 : decode cX6_onWhole 82 = .ok (.lconst 1, 1) := by decide +kernel
theorem dX6_onWhole_83 : decode cX6_onWhole 83 = .ok (.goto 4, 3) := by decide +kernel
theorem dX6_onWhole_86 : decode cX6_onWhole 86 = .ok (.lconst 0, 1) := by decide +kernel
theorem dX6_onWhole_87 : decode cX6_onWhole 87 = .ok (.lreturn, 1) := by decide +kernel
theorem dX6_onWhole_88 : decode cX6_onWhole 88 = .ok (.iload_n 3, 1) := by decide +kernel
theorem dX6_onWhole_89 : decode cX6_onWhole 89 = .ok (.ifCond .ne 9, 3) := by decide +kernel
theorem dX6_onWhole_92 : decode cX6_onWhole 92 = .ok (.lconst 1, 1) := by decide +kernel
theorem dX6_onWhole_93 : decode cX6_onWhole 93 = .ok (.lload_n 1, 1) := by decide +kernel
theorem dX6_onWhole_94 : decode cX6_onWhole 94 = .ok (.lsub, 1) := by decide +kernel
theorem dX6_onWhole_95 : decode cX6_onWhole 95 = .ok (.goto 8, 3) := by decide +kernel
theorem dX6_onWhole_98 : decode cX6_onWhole 98 = .ok (.ldc2_w 117, 3) := by decide +kernel
theorem dX6_onWhole_101 : decode cX6_onWhole 101 = .ok (.lload_n 1, 1) := by decide +kernel
theorem dX6_onWhole_102 : decode cX6_onWhole 102 = .ok (.lsub, 1) := by decide +kernel
theorem dX6_onWhole_103 : decode cX6_onWhole 103 = .ok (.lreturn, 1) := by decide +kernel
theorem dX6_onWhole_104 : decode cX6_onWhole 104 = .ok (.lload_n 1, 1) := by decide +kernel
theorem dX6_onWhole_105 : decode cX6_onWhole 105 = .ok (.lreturn, 1) := by decide +kernel
theorem dX6_onReal_0 : decode cX6_onReal 0 = .ok (.iload_n 0, 1) := by decide +kernel
theorem dX6_onReal_1 : decode cX6_onReal 1 = .ok (.tableswitch 92 0 2 #[27, 32, 51], 27) := by decide +kernel
theorem dX6_onReal_28 : decode cX6_onReal 28 = .ok (.lload_n 1, 1) := by decide +kernel
theorem dX6_onReal_29 : decode cX6_onReal 29 = .ok (.invokestatic 182, 3) := by decide +kernel
theorem dX6_onReal_32 : decode cX6_onReal 32 = .ok (.lreturn, 1) := by decide +kernel
theorem dX6_onReal_33 : decode cX6_onReal 33 = .ok (.lload_n 1, 1) := by decide +kernel
theorem dX6_onReal_34 : decode cX6_onReal 34 = .ok (.invokestatic 74, 3) := by decide +kernel
theorem dX6_onReal_37 : decode cX6_onReal 37 = .ok (.ifCond .eq 9, 3) := by decide +kernel
theorem dX6_onReal_40 : decode cX6_onReal 40 = .ok (.ldc2_w 78, 3) := by decide +kernel
theorem dX6_onReal_43 : decode cX6_onReal 43 = .ok (.goto 8, 3) := by decide +kernel
theorem dX6_onReal_46 : decode cX6_onReal 46 = .ok (.lload_n 1, 1) := by decide +kernel
theorem dX6_onReal_47 : decode cX6_onReal 47 = .ok (.ldc2_w 40, 3) := by decide +kernel
theorem dX6_onReal_50 : decode cX6_onReal 50 = .ok (.land, 1) := by decide +kernel
theorem dX6_onReal_51 : decode cX6_onReal 51 = .ok (.lreturn, 1) := by decide +kernel
theorem dX6_onReal_52 : decode cX6_onReal 52 = .ok (.lload_n 1, 1) := by decide +kernel
theorem dX6_onReal_53 : decode cX6_onReal 53 = .ok (.invokestatic 74, 3) := by decide +kernel
theorem dX6_onReal_56 : decode cX6_onReal 56 = .ok (.ifCond .eq 9, 3) := by decide +kernel
theorem dX6_onReal_59 : decode cX6_onReal 59 = .ok (.ldc2_w 78, 3) := by decide +kernel
theorem dX6_onReal_62 : decode cX6_onReal 62 = .ok (.goto 30, 3) := by decide +kernel
theorem dX6_onReal_65 : decode cX6_onReal 65 = .ok (.lload_n 1, 1) := by decide +kernel
theorem dX6_onReal_66 : decode cX6_onReal 66 = .ok (.invokestatic 102, 3) := by decide +kernel
theorem dX6_onReal_69 : decode cX6_onReal 69 = .ok (.ifCond .eq 7, 3) := by decide +kernel
theorem dX6_onReal_72 : decode cX6_onReal 72 = .ok (.lload_n 1, 1) := by decide +kernel
theorem dX6_onReal_73 : decode cX6_onReal 73 = .ok (.goto 19, 3) := by decide +kernel
theorem dX6_onReal_76 : decode cX6_onReal 76 = .ok (.lload_n 1, 1) := by decide +kernel
theorem dX6_onReal_77 : decode cX6_onReal 77 = .ok (.lconst 0, 1) := by decide +kernel
theorem dX6_onReal_78 : decode cX6_onReal 78 = .ok (.lcmp, 1) := by decide +kernel
theorem dX6_onReal_79 : decode cX6_onReal 79 = .ok (.ifCond .ge 7, 3) := by decide +kernel
theorem dX6_onReal_82 : decode cX6_onReal 82 = .ok (.iconst 1, 1) := by decide +kernel
theorem dX6_onReal_83 : decode cX6_onReal 83 = .ok (.goto 4, 3) := by decide +kernel
theorem dX6_onReal_86 : decode cX6_onReal 86 = .ok (.iconst 0, 1) := by decide +kernel
theorem dX6_onReal_87 : decode cX6_onReal 87 = .ok (.lconst 1, 1) := by decide +kernel
theorem dX6_onReal_88 : decode cX6_onReal 88 = .ok (.iconst 0, 1) := by decide +kernel
theorem dX6_onReal_89 : decode cX6_onReal 89 = .ok (.invokestatic 70, 3) := by decide +kernel
theorem dX6_onReal_92 : decode cX6_onReal 92 = .ok (.lreturn, 1) := by decide +kernel
theorem dX6_onReal_93 : decode cX6_onReal 93 = .ok (.lload_n 1, 1) := by decide +kernel
theorem dX6_onReal_94 : decode cX6_onReal 94 = .ok (.iload_n 0, 1) := by decide +kernel
theorem dX6_onReal_95 : decode cX6_onReal 95 = .ok (.iconst 3, 1) := by decide +kernel
theorem dX6_onReal_96 : decode cX6_onReal 96 = .ok (.isub, 1) := by decide +kernel
theorem dX6_onReal_97 : decode cX6_onReal 97 = .ok (.invokestatic 191, 3) := by decide +kernel
theorem dX6_onReal_100 : decode cX6_onReal 100 = .ok (.lreturn, 1) := by decide +kernel
theorem dX6_one_0 : decode cX6_one 0 = .ok (.iload_n 1, 1) := by decide +kernel
theorem dX6_one_1 : decode cX6_one 1 = .ok (.i2l, 1) := by decide +kernel
theorem dX6_one_2 : decode cX6_one 2 = .ok (.lconst 0, 1) := by decide +kernel
theorem dX6_one_3 : decode cX6_one 3 = .ok (.ldc2_w 264, 3) := by decide +kernel
theorem dX6_one_6 : decode cX6_one 6 = .ok (.invokestatic 149, 3) := by decide +kernel
theorem dX6_one_9 : decode cX6_one 9 = .ok (.ifCond .eq 11, 3) := by decide +kernel
theorem dX6_one_12 : decode cX6_one 12 = .ok (.aload_n 0, 1) := by decide +kernel
theorem dX6_one_13 : decode cX6_one 13 = .ok (.iload_n 2, 1) := by decide +kernel
theorem dX6_one_14 : decode cX6_one 14 = .ok (.invokevirtual 171, 3) := by decide +kernel
theorem dX6_one_17 : decode cX6_one 17 = .ok (.ifCond .ne 5, 3) := by decide +kernel
theorem dX6_one_20 : decode cX6_one 20 = .ok (.iconst (-1), 1) := by decide +kernel
theorem dX6_one_21 : decode cX6_one 21 = .ok (.ireturn, 1) := by decide +kernel
theorem dX6_one_22 : decode cX6_one 22 = .ok (.aload_n 0, 1) := by decide +kernel
theorem dX6_one_23 : decode cX6_one 23 = .ok (.getfield 146, 3) := by decide +kernel
theorem dX6_one_26 : decode cX6_one 26 = .ok (.bipush 16, 2) := by decide +kernel
theorem dX6_one_28 : decode cX6_one 28 = .ok (.if_icmp .ne 6, 3) := by decide +kernel
theorem dX6_one_31 : decode cX6_one 31 = .ok (.bipush (-2), 2) := by decide +kernel
theorem dX6_one_33 : decode cX6_one 33 = .ok (.ireturn, 1) := by decide +kernel
theorem dX6_one_34 : decode cX6_one 34 = .ok (.aload_n 0, 1) := by decide +kernel
theorem dX6_one_35 : decode cX6_one 35 = .ok (.getfield 22, 3) := by decide +kernel
theorem dX6_one_38 : decode cX6_one 38 = .ok (.iload_n 2, 1) := by decide +kernel
theorem dX6_one_39 : decode cX6_one 39 = .ok (.baload, 1) := by decide +kernel
theorem dX6_one_40 : decode cX6_one 40 = .ok (.ifCond .eq 11, 3) := by decide +kernel
theorem dX6_one_43 : decode cX6_one 43 = .ok (.aload_n 0, 1) := by decide +kernel
theorem dX6_one_44 : decode cX6_one 44 = .ok (.iconst 1, 1) := by decide +kernel
theorem dX6_one_45 : decode cX6_one 45 = .ok (.bipush (-3), 2) := by decide +kernel
theorem dX6_one_47 : decode cX6_one 47 = .ok (.invokevirtual 168, 3) := by decide +kernel
theorem dX6_one_50 : decode cX6_one 50 = .ok (.ireturn, 1) := by decide +kernel
theorem dX6_one_51 : decode cX6_one 51 = .ok (.aload_n 0, 1) := by decide +kernel
theorem dX6_one_52 : decode cX6_one 52 = .ok (.getfield 7, 3) := by decide +kernel
theorem dX6_one_55 : decode cX6_one 55 = .ok (.iload_n 2, 1) := by decide +kernel
theorem dX6_one_56 : decode cX6_one 56 = .ok (.iaload, 1) := by decide +kernel
theorem dX6_one_57 : decode cX6_one 57 = .ok (.istore_n 3, 1) := by decide +kernel
theorem dX6_one_58 : decode cX6_one 58 = .ok (.iload_n 1, 1) := by decide +kernel
theorem dX6_one_59 : decode cX6_one 59 = .ok (.bipush 7, 2) := by decide +kernel
theorem dX6_one_61 : decode cX6_one 61 = .ok (.if_icmp .ne 16, 3) := by decide +kernel
theorem dX6_one_64 : decode cX6_one 64 = .ok (.iload_n 3, 1) := by decide +kernel
theorem dX6_one_65 : decode cX6_one 65 = .ok (.iconst 3, 1) := by decide +kernel
theorem dX6_one_66 : decode cX6_one 66 = .ok (.if_icmp .le 11, 3) := by decide +kernel
theorem dX6_one_69 : decode cX6_one 69 = .ok (.aload_n 0, 1) := by decide +kernel
theorem dX6_one_70 : decode cX6_one 70 = .ok (.iconst 4, 1) := by decide +kernel
theorem dX6_one_71 : decode cX6_one 71 = .ok (.bipush (-3), 2) := by decide +kernel
theorem dX6_one_73 : decode cX6_one 73 = .ok (.invokevirtual 168, 3) := by decide +kernel
theorem dX6_one_76 : decode cX6_one 76 = .ok (.ireturn, 1) := by decide +kernel
theorem dX6_one_77 : decode cX6_one 77 = .ok (.iload_n 1, 1) := by decide +kernel
theorem dX6_one_78 : decode cX6_one 78 = .ok (.bipush 8, 2) := by decide +kernel
theorem dX6_one_80 : decode cX6_one 80 = .ok (.if_icmp .ne 7, 3) := by decide +kernel
theorem dX6_one_83 : decode cX6_one 83 = .ok (.iconst 0, 1) := by decide +kernel
theorem dX6_one_84 : decode cX6_one 84 = .ok (.goto 17, 3) := by decide +kernel
theorem dX6_one_87 : decode cX6_one 87 = .ok (.iload_n 1, 1) := by decide +kernel
theorem dX6_one_88 : decode cX6_one 88 = .ok (.iconst 3, 1) := by decide +kernel
theorem dX6_one_89 : decode cX6_one 89 = .ok (.if_icmp .ge 11, 3) := by decide +kernel
theorem dX6_one_92 : decode cX6_one 92 = .ok (.iload_n 3, 1) := by decide +kernel
theorem dX6_one_93 : decode cX6_one 93 = .ok (.ifCond .ne 7, 3) := by decide +kernel
theorem dX6_one_96 : decode cX6_one 96 = .ok (.iconst 2, 1) := by decide +kernel
theorem dX6_one_97 : decode cX6_one 97 = .ok (.goto 4, 3) := by decide +kernel
theorem dX6_one_100 : decode cX6_one 100 = .ok (.iload_n 3, 1) := by decide +kernel
theorem dX6_one_101 : decode cX6_one 101 = .ok (.istore 4, 2) := by decide +kernel
theorem dX6_one_103 : decode cX6_one 103 = .ok (.aload_n 0, 1) := by decide +kernel
theorem dX6_one_104 : decode cX6_one 104 = .ok (.iload_n 2, 1) := by decide +kernel
theorem dX6_one_105 : decode cX6_one 105 = .ok (.invokevirtual 210, 3) := by decide +kernel
theorem dX6_one_108 : decode cX6_one 108 = .ok (.iconst 0, 1) := by decide +kernel
theorem dX6_one_109 : decode cX6_one 109 = .ok (.istore 5, 2) := by decide +kernel
theorem dX6_one_111 : decode cX6_one 111 = .ok (.iload 5, 2) := by decide +kernel
theorem dX6_one_113 : decode cX6_one 113 = .ok (.aload_n 0, 1) := by decide +kernel
theorem dX6_one_114 : decode cX6_one 114 = .ok (.getfield 19, 3) := by decide +kernel
theorem dX6_one_117 : decode cX6_one 117 = .ok (.iload_n 2, 1) := by decide +kernel
theorem dX6_one_118 : decode cX6_one 118 = .ok (.iaload, 1) := by decide +kernel
theorem dX6_one_119 : decode cX6_one 119 = .ok (.if_icmp .ge 142, 3) := by decide +kernel
theorem dX6_one_122 : decode cX6_one 122 = .ok (.aload_n 0, 1) := by decide +kernel
theorem dX6_one_123 : decode cX6_one 123 = .ok (.getfield 26, 3) := by decide +kernel
theorem dX6_one_126 : decode cX6_one 126 = .ok (.sipush 240, 3) := by decide +kernel
theorem dX6_one_129 : decode cX6_one 129 = .ok (.iload_n 2, 1) := by decide +kernel
theorem dX6_one_130 : decode cX6_one 130 = .ok (.imul, 1) := by decide +kernel
theorem dX6_one_131 : decode cX6_one 131 = .ok (.iload 5, 2) := by decide +kernel
theorem dX6_one_133 : decode cX6_one 133 = .ok (.iadd, 1) := by decide +kernel
theorem dX6_one_134 : decode cX6_one 134 = .ok (.laload, 1) := by decide +kernel
theorem dX6_one_135 : decode cX6_one 135 = .ok (.lstore 6, 2) := by decide +kernel
theorem dX6_one_137 : decode cX6_one 137 = .ok (.iload_n 1, 1) := by decide +kernel
theorem dX6_one_138 : decode cX6_one 138 = .ok (.bipush 8, 2) := by decide +kernel
theorem dX6_one_140 : decode cX6_one 140 = .ok (.if_icmp .ne 47, 3) := by decide +kernel
theorem dX6_one_143 : decode cX6_one 143 = .ok (.aload_n 0, 1) := by decide +kernel
theorem dX6_one_144 : decode cX6_one 144 = .ok (.getfield 30, 3) := by decide +kernel
theorem dX6_one_147 : decode cX6_one 147 = .ok (.iload 5, 2) := by decide +kernel
theorem dX6_one_149 : decode cX6_one 149 = .ok (.iload_n 3, 1) := by decide +kernel
theorem dX6_one_150 : decode cX6_one 150 = .ok (.iconst 4, 1) := by decide +kernel
theorem dX6_one_151 : decode cX6_one 151 = .ok (.if_icmp .ne 14, 3) := by decide +kernel
theorem dX6_one_154 : decode cX6_one 154 = .ok (.lload 6, 2) := by decide +kernel
theorem dX6_one_156 : decode cX6_one 156 = .ok (.invokestatic 131, 3) := by decide +kernel
theorem dX6_one_159 : decode cX6_one 159 = .ok (.invokestatic 74, 3) := by decide +kernel
theorem dX6_one_162 : decode cX6_one 162 = .ok (.ifCond .ne 16, 3) := by decide +kernel
theorem dX6_one_165 : decode cX6_one 165 = .ok (.iload_n 3, 1) := by decide +kernel
theorem dX6_one_166 : decode cX6_one 166 = .ok (.iconst 5, 1) := by decide +kernel
theorem dX6_one_167 : decode cX6_one 167 = .ok (.if_icmp .ne 15, 3) := by decide +kernel
theorem dX6_one_170 : decode cX6_one 170 = .ok (.lload 6, 2) := by decide +kernel
theorem dX6_one_172 : decode cX6_one 172 = .ok (.invokestatic 74, 3) := by decide +kernel
theorem dX6_one_175 : decode cX6_one 175 = .ok (.ifCond .eq 7, 3) := by decide +kernel
theorem dX6_one_178 : decode cX6_one 178 = .ok (.lconst 1, 1) := by decide +kernel
theorem dX6_one_179 : decode cX6_one 179 = .ok (.goto 4, 3) := by decide +kernel
theorem dX6_one_182 : decode cX6_one 182 = .ok (.lconst 0, 1) := by decide +kernel
theorem dX6_one_183 : decode cX6_one 183 = .ok (.lastore, 1) := by decide +kernel
theorem dX6_one_184 : decode cX6_one 184 = .ok (.goto 71, 3) := by decide +kernel
theorem dX6_one_187 : decode cX6_one 187 = .ok (.iload_n 3, 1) := by decide +kernel
theorem dX6_one_188 : decode cX6_one 188 = .ok (.iconst 4, 1) := by decide +kernel
theorem dX6_one_189 : decode cX6_one 189 = .ok (.if_icmp .ne 25, 3) := by decide +kernel
theorem dX6_one_192 : decode cX6_one 192 = .ok (.aload_n 0, 1) := by decide +kernel
theorem dX6_one_193 : decode cX6_one 193 = .ok (.getfield 30, 3) := by decide +kernel
theorem dX6_one_196 : decode cX6_one 196 = .ok (.iload 5, 2) := by decide +kernel
theorem dX6_one_198 : decode cX6_one 198 = .ok (.iload_n 1, 1) := by decide +kernel
theorem dX6_one_199 : decode cX6_one 199 = .ok (.lload 6, 2) := by decide +kernel
theorem dX6_one_201 : decode cX6_one 201 = .ok (.invokestatic 131, 3) := by decide +kernel
theorem dX6_one_204 : decode cX6_one 204 = .ok (.invokestatic 266, 3) := by decide +kernel
theorem dX6_one_207 : decode cX6_one 207 = .ok (.invokestatic 128, 3) := by decide +kernel
theorem dX6_one_210 : decode cX6_one 210 = .ok (.lastore, 1) := by decide +kernel
theorem dX6_one_211 : decode cX6_one 211 = .ok (.goto 44, 3) := by decide +kernel
theorem dX6_one_214 : decode cX6_one 214 = .ok (.iload_n 3, 1) := by decide +kernel
theorem dX6_one_215 : decode cX6_one 215 = .ok (.iconst 5, 1) := by decide +kernel
theorem dX6_one_216 : decode cX6_one 216 = .ok (.if_icmp .ne 19, 3) := by decide +kernel
theorem dX6_one_219 : decode cX6_one 219 = .ok (.aload_n 0, 1) := by decide +kernel
theorem dX6_one_220 : decode cX6_one 220 = .ok (.getfield 30, 3) := by decide +kernel
theorem dX6_one_223 : decode cX6_one 223 = .ok (.iload 5, 2) := by decide +kernel
theorem dX6_one_225 : decode cX6_one 225 = .ok (.iload_n 1, 1) := by decide +kernel
theorem dX6_one_226 : decode cX6_one 226 = .ok (.lload 6, 2) := by decide +kernel
theorem dX6_one_228 : decode cX6_one 228 = .ok (.invokestatic 266, 3) := by decide +kernel
theorem dX6_one_231 : decode cX6_one 231 = .ok (.lastore, 1) := by decide +kernel
theorem dX6_one_232 : decode cX6_one 232 = .ok (.goto 23, 3) := by decide +kernel
theorem dX6_one_235 : decode cX6_one 235 = .ok (.aload_n 0, 1) := by decide +kernel
theorem dX6_one_236 : decode cX6_one 236 = .ok (.getfield 30, 3) := by decide +kernel
theorem dX6_one_239 : decode cX6_one 239 = .ok (.iload 5, 2) := by decide +kernel
theorem dX6_one_241 : decode cX6_one 241 = .ok (.iload_n 1, 1) := by decide +kernel
theorem dX6_one_242 : decode cX6_one 242 = .ok (.lload 6, 2) := by decide +kernel
theorem dX6_one_244 : decode cX6_one 244 = .ok (.iload 4, 2) := by decide +kernel
theorem dX6_one_246 : decode cX6_one 246 = .ok (.invokestatic 270, 3) := by decide +kernel
theorem dX6_one_249 : decode cX6_one 249 = .ok (.iload 4, 2) := by decide +kernel
theorem dX6_one_251 : decode cX6_one 251 = .ok (.invokestatic 121, 3) := by decide +kernel
theorem dX6_one_254 : decode cX6_one 254 = .ok (.lastore, 1) := by decide +kernel
theorem dX6_one_255 : decode cX6_one 255 = .ok (.iinc 5 1, 3) := by decide +kernel
theorem dX6_one_258 : decode cX6_one 258 = .ok (.goto (-147), 3) := by decide +kernel
theorem dX6_one_261 : decode cX6_one 261 = .ok (.aload_n 0, 1) := by decide +kernel
theorem dX6_one_262 : decode cX6_one 262 = .ok (.iload 4, 2) := by decide +kernel
theorem dX6_one_264 : decode cX6_one 264 = .ok (.invokevirtual 165, 3) := by decide +kernel
theorem dX6_one_267 : decode cX6_one 267 = .ok (.ireturn, 1) := by decide +kernel
theorem dX6_cast_0 : decode cX6_cast 0 = .ok (.aload_n 0, 1) := by decide +kernel
theorem dX6_cast_1 : decode cX6_cast 1 = .ok (.iload_n 1, 1) := by decide +kernel
theorem dX6_cast_2 : decode cX6_cast 2 = .ok (.invokevirtual 171, 3) := by decide +kernel
theorem dX6_cast_5 : decode cX6_cast 5 = .ok (.ifCond .eq 15, 3) := by decide +kernel
theorem dX6_cast_8 : decode cX6_cast 8 = .ok (.iload_n 2, 1) := by decide +kernel
theorem dX6_cast_9 : decode cX6_cast 9 = .ok (.i2l, 1) := by decide +kernel
theorem dX6_cast_10 : decode cX6_cast 10 = .ok (.lconst 0, 1) := by decide +kernel
theorem dX6_cast_11 : decode cX6_cast 11 = .ok (.ldc2_w 163, 3) := by decide +kernel
theorem dX6_cast_14 : decode cX6_cast 14 = .ok (.invokestatic 149, 3) := by decide +kernel
theorem dX6_cast_17 : decode cX6_cast 17 = .ok (.ifCond .ne 5, 3) := by decide +kernel
theorem dX6_cast_20 : decode cX6_cast 20 = .ok (.iconst (-1), 1) := by decide +kernel
theorem dX6_cast_21 : decode cX6_cast 21 = .ok (.ireturn, 1) := by decide +kernel
theorem dX6_cast_22 : decode cX6_cast 22 = .ok (.aload_n 0, 1) := by decide +kernel
theorem dX6_cast_23 : decode cX6_cast 23 = .ok (.getfield 146, 3) := by decide +kernel
theorem dX6_cast_26 : decode cX6_cast 26 = .ok (.bipush 16, 2) := by decide +kernel
theorem dX6_cast_28 : decode cX6_cast 28 = .ok (.if_icmp .ne 6, 3) := by decide +kernel
theorem dX6_cast_31 : decode cX6_cast 31 = .ok (.bipush (-2), 2) := by decide +kernel
theorem dX6_cast_33 : decode cX6_cast 33 = .ok (.ireturn, 1) := by decide +kernel
theorem dX6_cast_34 : decode cX6_cast 34 = .ok (.aload_n 0, 1) := by decide +kernel
theorem dX6_cast_35 : decode cX6_cast 35 = .ok (.getfield 22, 3) := by decide +kernel
theorem dX6_cast_38 : decode cX6_cast 38 = .ok (.iload_n 1, 1) := by decide +kernel
theorem dX6_cast_39 : decode cX6_cast 39 = .ok (.baload, 1) := by decide +kernel
theorem dX6_cast_40 : decode cX6_cast 40 = .ok (.ifCond .eq 11, 3) := by decide +kernel
theorem dX6_cast_43 : decode cX6_cast 43 = .ok (.aload_n 0, 1) := by decide +kernel
theorem dX6_cast_44 : decode cX6_cast 44 = .ok (.iconst 1, 1) := by decide +kernel
theorem dX6_cast_45 : decode cX6_cast 45 = .ok (.bipush (-3), 2) := by decide +kernel
theorem dX6_cast_47 : decode cX6_cast 47 = .ok (.invokevirtual 168, 3) := by decide +kernel
theorem dX6_cast_50 : decode cX6_cast 50 = .ok (.ireturn, 1) := by decide +kernel
theorem dX6_cast_51 : decode cX6_cast 51 = .ok (.aload_n 0, 1) := by decide +kernel
theorem dX6_cast_52 : decode cX6_cast 52 = .ok (.iload_n 1, 1) := by decide +kernel
theorem dX6_cast_53 : decode cX6_cast 53 = .ok (.invokevirtual 210, 3) := by decide +kernel
theorem dX6_cast_56 : decode cX6_cast 56 = .ok (.iconst 0, 1) := by decide +kernel
theorem dX6_cast_57 : decode cX6_cast 57 = .ok (.istore_n 3, 1) := by decide +kernel
theorem dX6_cast_58 : decode cX6_cast 58 = .ok (.iload_n 3, 1) := by decide +kernel
theorem dX6_cast_59 : decode cX6_cast 59 = .ok (.aload_n 0, 1) := by decide +kernel
theorem dX6_cast_60 : decode cX6_cast 60 = .ok (.getfield 19, 3) := by decide +kernel
theorem dX6_cast_63 : decode cX6_cast 63 = .ok (.iload_n 1, 1) := by decide +kernel
theorem dX6_cast_64 : decode cX6_cast 64 = .ok (.iaload, 1) := by decide +kernel
theorem dX6_cast_65 : decode cX6_cast 65 = .ok (.if_icmp .ge 37, 3) := by decide +kernel
theorem dX6_cast_68 : decode cX6_cast 68 = .ok (.aload_n 0, 1) := by decide +kernel
theorem dX6_cast_69 : decode cX6_cast 69 = .ok (.getfield 30, 3) := by decide +kernel
theorem dX6_cast_72 : decode cX6_cast 72 = .ok (.iload_n 3, 1) := by decide +kernel
theorem dX6_cast_73 : decode cX6_cast 73 = .ok (.aload_n 0, 1) := by decide +kernel
theorem dX6_cast_74 : decode cX6_cast 74 = .ok (.getfield 26, 3) := by decide +kernel
theorem dX6_cast_77 : decode cX6_cast 77 = .ok (.sipush 240, 3) := by decide +kernel
theorem dX6_cast_80 : decode cX6_cast 80 = .ok (.iload_n 1, 1) := by decide +kernel
theorem dX6_cast_81 : decode cX6_cast 81 = .ok (.imul, 1) := by decide +kernel
theorem dX6_cast_82 : decode cX6_cast 82 = .ok (.iload_n 3, 1) := by decide +kernel
theorem dX6_cast_83 : decode cX6_cast 83 = .ok (.iadd, 1) := by decide +kernel
theorem dX6_cast_84 : decode cX6_cast 84 = .ok (.laload, 1) := by decide +kernel
theorem dX6_cast_85 : decode cX6_cast 85 = .ok (.aload_n 0, 1) := by decide +kernel
theorem dX6_cast_86 : decode cX6_cast 86 = .ok (.getfield 7, 3) := by decide +kernel
theorem dX6_cast_89 : decode cX6_cast 89 = .ok (.iload_n 1, 1) := by decide +kernel
theorem dX6_cast_90 : decode cX6_cast 90 = .ok (.iaload, 1) := by decide +kernel
theorem dX6_cast_91 : decode cX6_cast 91 = .ok (.iload_n 2, 1) := by decide +kernel
theorem dX6_cast_92 : decode cX6_cast 92 = .ok (.invokestatic 233, 3) := by decide +kernel
theorem dX6_cast_95 : decode cX6_cast 95 = .ok (.lastore, 1) := by decide +kernel
theorem dX6_cast_96 : decode cX6_cast 96 = .ok (.iinc 3 1, 3) := by decide +kernel
theorem dX6_cast_99 : decode cX6_cast 99 = .ok (.goto (-41), 3) := by decide +kernel
theorem dX6_cast_102 : decode cX6_cast 102 = .ok (.aload_n 0, 1) := by decide +kernel
theorem dX6_cast_103 : decode cX6_cast 103 = .ok (.iload_n 2, 1) := by decide +kernel
theorem dX6_cast_104 : decode cX6_cast 104 = .ok (.invokevirtual 165, 3) := by decide +kernel
theorem dX6_cast_107 : decode cX6_cast 107 = .ok (.ireturn, 1) := by decide +kernel
theorem dX6_where_0 : decode cX6_where 0 = .ok (.aload_n 0, 1) := by decide +kernel
theorem dX6_where_1 : decode cX6_where 1 = .ok (.iload_n 1, 1) := by decide +kernel
theorem dX6_where_2 : decode cX6_where 2 = .ok (.invokevirtual 171, 3) := by decide +kernel
theorem dX6_where_5 : decode cX6_where 5 = .ok (.ifCond .eq 19, 3) := by decide +kernel
theorem dX6_where_8 : decode cX6_where 8 = .ok (.aload_n 0, 1) := by decide +kernel
theorem dX6_where_9 : decode cX6_where 9 = .ok (.iload_n 2, 1) := by decide +kernel
theorem dX6_where_10 : decode cX6_where 10 = .ok (.invokevirtual 171, 3) := by decide +kernel
theorem dX6_where_13 : decode cX6_where 13 = .ok (.ifCond .eq 11, 3) := by decide +kernel
theorem dX6_where_16 : decode cX6_where 16 = .ok (.aload_n 0, 1) := by decide +kernel
theorem dX6_where_17 : decode cX6_where 17 = .ok (.iload_n 3, 1) := by decide +kernel
theorem dX6_where_18 : decode cX6_where 18 = .ok (.invokevirtual 171, 3) := by decide +kernel
theorem dX6_where_21 : decode cX6_where 21 = .ok (.ifCond .ne 5, 3) := by decide +kernel
theorem dX6_where_24 : decode cX6_where 24 = .ok (.iconst (-1), 1) := by decide +kernel
theorem dX6_where_25 : decode cX6_where 25 = .ok (.ireturn, 1) := by decide +kernel
theorem dX6_where_26 : decode cX6_where 26 = .ok (.aload_n 0, 1) := by decide +kernel
theorem dX6_where_27 : decode cX6_where 27 = .ok (.getfield 146, 3) := by decide +kernel
theorem dX6_where_30 : decode cX6_where 30 = .ok (.bipush 16, 2) := by decide +kernel
theorem dX6_where_32 : decode cX6_where 32 = .ok (.if_icmp .ne 6, 3) := by decide +kernel
theorem dX6_where_35 : decode cX6_where 35 = .ok (.bipush (-2), 2) := by decide +kernel
theorem dX6_where_37 : decode cX6_where 37 = .ok (.ireturn, 1) := by decide +kernel
theorem dX6_where_38 : decode cX6_where 38 = .ok (.aload_n 0, 1) := by decide +kernel
theorem dX6_where_39 : decode cX6_where 39 = .ok (.getfield 22, 3) := by decide +kernel
theorem dX6_where_42 : decode cX6_where 42 = .ok (.iload_n 1, 1) := by decide +kernel
theorem dX6_where_43 : decode cX6_where 43 = .ok (.baload, 1) := by decide +kernel
theorem dX6_where_44 : decode cX6_where 44 = .ok (.ifCond .ne 21, 3) := by decide +kernel
theorem dX6_where_47 : decode cX6_where 47 = .ok (.aload_n 0, 1) := by decide +kernel
theorem dX6_where_48 : decode cX6_where 48 = .ok (.getfield 22, 3) := by decide +kernel
theorem dX6_where_51 : decode cX6_where 51 = .ok (.iload_n 2, 1) := by decide +kernel
theorem dX6_where_52 : decode cX6_where 52 = .ok (.baload, 1) := by decide +kernel
theorem dX6_where_53 : decode cX6_where 53 = .ok (.ifCond .ne 12, 3) := by decide +kernel
theorem dX6_where_56 : decode cX6_where 56 = .ok (.aload_n 0, 1) := by decide +kernel
theorem dX6_where_57 : decode cX6_where 57 = .ok (.getfield 22, 3) := by decide +kernel
theorem dX6_where_60 : decode cX6_where 60 = .ok (.iload_n 3, 1) := by decide +kernel
theorem dX6_where_61 : decode cX6_where 61 = .ok (.baload, 1) := by decide +kernel
theorem dX6_where_62 : decode cX6_where 62 = .ok (.ifCond .eq 11, 3) := by decide +kernel
theorem dX6_where_65 : decode cX6_where 65 = .ok (.aload_n 0, 1) := by decide +kernel
theorem dX6_where_66 : decode cX6_where 66 = .ok (.iconst 1, 1) := by decide +kernel
theorem dX6_where_67 : decode cX6_where 67 = .ok (.bipush (-3), 2) := by decide +kernel
theorem dX6_where_69 : decode cX6_where 69 = .ok (.invokevirtual 168, 3) := by decide +kernel
theorem dX6_where_72 : decode cX6_where 72 = .ok (.ireturn, 1) := by decide +kernel
theorem dX6_where_73 : decode cX6_where 73 = .ok (.aload_n 0, 1) := by decide +kernel
theorem dX6_where_74 : decode cX6_where 74 = .ok (.getfield 7, 3) := by decide +kernel
theorem dX6_where_77 : decode cX6_where 77 = .ok (.iload_n 1, 1) := by decide +kernel
theorem dX6_where_78 : decode cX6_where 78 = .ok (.iaload, 1) := by decide +kernel
theorem dX6_where_79 : decode cX6_where 79 = .ok (.ifCond .eq 11, 3) := by decide +kernel
theorem dX6_where_82 : decode cX6_where 82 = .ok (.aload_n 0, 1) := by decide +kernel
theorem dX6_where_83 : decode cX6_where 83 = .ok (.iconst 4, 1) := by decide +kernel
theorem dX6_where_84 : decode cX6_where 84 = .ok (.bipush (-3), 2) := by decide +kernel
theorem dX6_where_86 : decode cX6_where 86 = .ok (.invokevirtual 168, 3) := by decide +kernel
theorem dX6_where_89 : decode cX6_where 89 = .ok (.ireturn, 1) := by decide +kernel
theorem dX6_where_90 : decode cX6_where 90 = .ok (.aload_n 0, 1) := by decide +kernel
theorem dX6_where_91 : decode cX6_where 91 = .ok (.iload_n 2, 1) := by decide +kernel
theorem dX6_where_92 : decode cX6_where 92 = .ok (.invokevirtual 210, 3) := by decide +kernel
theorem dX6_where_95 : decode cX6_where 95 = .ok (.aload_n 0, 1) := by decide +kernel
theorem dX6_where_96 : decode cX6_where 96 = .ok (.iload_n 3, 1) := by decide +kernel
theorem dX6_where_97 : decode cX6_where 97 = .ok (.invokevirtual 214, 3) := by decide +kernel
theorem dX6_where_100 : decode cX6_where 100 = .ok (.istore 4, 2) := by decide +kernel
theorem dX6_where_102 : decode cX6_where 102 = .ok (.iload 4, 2) := by decide +kernel
theorem dX6_where_104 : decode cX6_where 104 = .ok (.ifCond .lt 8, 3) := by decide +kernel
theorem dX6_where_107 : decode cX6_where 107 = .ok (.iload 4, 2) := by decide +kernel
theorem dX6_where_109 : decode cX6_where 109 = .ok (.goto 8, 3) := by decide +kernel
theorem dX6_where_112 : decode cX6_where 112 = .ok (.aload_n 0, 1) := by decide +kernel
theorem dX6_where_113 : decode cX6_where 113 = .ok (.iload_n 1, 1) := by decide +kernel
theorem dX6_where_114 : decode cX6_where 114 = .ok (.invokevirtual 214, 3) := by decide +kernel
theorem dX6_where_117 : decode cX6_where 117 = .ok (.istore 4, 2) := by decide +kernel
theorem dX6_where_119 : decode cX6_where 119 = .ok (.iload 4, 2) := by decide +kernel
theorem dX6_where_121 : decode cX6_where 121 = .ok (.ifCond .lt 12, 3) := by decide +kernel
theorem dX6_where_124 : decode cX6_where 124 = .ok (.aload_n 0, 1) := by decide +kernel
theorem dX6_where_125 : decode cX6_where 125 = .ok (.bipush 6, 2) := by decide +kernel
theorem dX6_where_127 : decode cX6_where 127 = .ok (.iload 4, 2) := by decide +kernel
theorem dX6_where_129 : decode cX6_where 129 = .ok (.invokevirtual 168, 3) := by decide +kernel
theorem dX6_where_132 : decode cX6_where 132 = .ok (.ireturn, 1) := by decide +kernel
theorem dX6_where_133 : decode cX6_where 133 = .ok (.aload_n 0, 1) := by decide +kernel
theorem dX6_where_134 : decode cX6_where 134 = .ok (.getfield 160, 3) := by decide +kernel
theorem dX6_where_137 : decode cX6_where 137 = .ok (.sipush 240, 3) := by decide +kernel
theorem dX6_where_140 : decode cX6_where 140 = .ok (.if_icmp .le 12, 3) := by decide +kernel
theorem dX6_where_143 : decode cX6_where 143 = .ok (.aload_n 0, 1) := by decide +kernel
theorem dX6_where_144 : decode cX6_where 144 = .ok (.bipush 6, 2) := by decide +kernel
theorem dX6_where_146 : decode cX6_where 146 = .ok (.bipush (-3), 2) := by decide +kernel
theorem dX6_where_148 : decode cX6_where 148 = .ok (.invokevirtual 168, 3) := by decide +kernel
theorem dX6_where_151 : decode cX6_where 151 = .ok (.ireturn, 1) := by decide +kernel
theorem dX6_where_152 : decode cX6_where 152 = .ok (.aload_n 0, 1) := by decide +kernel
theorem dX6_where_153 : decode cX6_where 153 = .ok (.getfield 7, 3) := by decide +kernel
theorem dX6_where_156 : decode cX6_where 156 = .ok (.iload_n 2, 1) := by decide +kernel
theorem dX6_where_157 : decode cX6_where 157 = .ok (.iaload, 1) := by decide +kernel
theorem dX6_where_158 : decode cX6_where 158 = .ok (.aload_n 0, 1) := by decide +kernel
theorem dX6_where_159 : decode cX6_where 159 = .ok (.getfield 7, 3) := by decide +kernel
theorem dX6_where_162 : decode cX6_where 162 = .ok (.iload_n 3, 1) := by decide +kernel
theorem dX6_where_163 : decode cX6_where 163 = .ok (.iaload, 1) := by decide +kernel
theorem dX6_where_164 : decode cX6_where 164 = .ok (.invokestatic 217, 3) := by decide +kernel
theorem dX6_where_167 : decode cX6_where 167 = .ok (.istore 5, 2) := by decide +kernel
theorem dX6_where_169 : decode cX6_where 169 = .ok (.iconst 0, 1) := by decide +kernel
theorem dX6_where_170 : decode cX6_where 170 = .ok (.istore 6, 2) := by decide +kernel
theorem dX6_where_172 : decode cX6_where 172 = .ok (.iload 6, 2) := by decide +kernel
theorem dX6_where_174 : decode cX6_where 174 = .ok (.aload_n 0, 1) := by decide +kernel
theorem dX6_where_175 : decode cX6_where 175 = .ok (.getfield 160, 3) := by decide +kernel
theorem dX6_where_178 : decode cX6_where 178 = .ok (.if_icmp .ge 67, 3) := by decide +kernel
theorem dX6_where_181 : decode cX6_where 181 = .ok (.aload_n 0, 1) := by decide +kernel
theorem dX6_where_182 : decode cX6_where 182 = .ok (.getfield 30, 3) := by decide +kernel
theorem dX6_where_185 : decode cX6_where 185 = .ok (.iload 6, 2) := by decide +kernel
theorem dX6_where_187 : decode cX6_where 187 = .ok (.aload_n 0, 1) := by decide +kernel
theorem dX6_where_188 : decode cX6_where 188 = .ok (.iload_n 1, 1) := by decide +kernel
theorem dX6_where_189 : decode cX6_where 189 = .ok (.iload 6, 2) := by decide +kernel
theorem dX6_where_191 : decode cX6_where 191 = .ok (.invokevirtual 229, 3) := by decide +kernel
theorem dX6_where_194 : decode cX6_where 194 = .ok (.lconst 0, 1) := by decide +kernel
theorem dX6_where_195 : decode cX6_where 195 = .ok (.lcmp, 1) := by decide +kernel
theorem dX6_where_196 : decode cX6_where 196 = .ok (.ifCond .eq 24, 3) := by decide +kernel
theorem dX6_where_199 : decode cX6_where 199 = .ok (.aload_n 0, 1) := by decide +kernel
theorem dX6_where_200 : decode cX6_where 200 = .ok (.iload_n 2, 1) := by decide +kernel
theorem dX6_where_201 : decode cX6_where 201 = .ok (.iload 6, 2) := by decide +kernel
theorem dX6_where_203 : decode cX6_where 203 = .ok (.invokevirtual 229, 3) := by decide +kernel
theorem dX6_where_206 : decode cX6_where 206 = .ok (.aload_n 0, 1) := by decide +kernel
theorem dX6_where_207 : decode cX6_where 207 = .ok (.getfield 7, 3) := by decide +kernel
theorem dX6_where_210 : decode cX6_where 210 = .ok (.iload_n 2, 1) := by decide +kernel
theorem dX6_where_211 : decode cX6_where 211 = .ok (.iaload, 1) := by decide +kernel
theorem dX6_where_212 : decode cX6_where 212 = .ok (.iload 5, 2) := by decide +kernel
theorem dX6_where_214 : decode cX6_where 214 = .ok (.invokestatic 233, 3) := by decide +kernel
theorem dX6_where_217 : decode cX6_where 217 = .ok (.goto 21, 3) := by decide +kernel
theorem dX6_where_220 : decode cX6_where 220 = .ok (.aload_n 0, 1) := by decide +kernel
theorem dX6_where_221 : decode cX6_where 221 = .ok (.iload_n 3, 1) := by decide +kernel
theorem dX6_where_222 : decode cX6_where 222 = .ok (.iload 6, 2) := by decide +kernel
theorem dX6_where_224 : decode cX6_where 224 = .ok (.invokevirtual 229, 3) := by decide +kernel
theorem dX6_where_227 : decode cX6_where 227 = .ok (.aload_n 0, 1) := by decide +kernel
theorem dX6_where_228 : decode cX6_where 228 = .ok (.getfield 7, 3) := by decide +kernel
theorem dX6_where_231 : decode cX6_where 231 = .ok (.iload_n 3, 1) := by decide +kernel
theorem dX6_where_232 : decode cX6_where 232 = .ok (.iaload, 1) := by decide +kernel
theorem dX6_where_233 : decode cX6_where 233 = .ok (.iload 5, 2) := by decide +kernel
theorem dX6_where_235 : decode cX6_where 235 = .ok (.invokestatic 233, 3) := by decide +kernel
theorem dX6_where_238 : decode cX6_where 238 = .ok (.lastore, 1) := by decide +kernel
theorem dX6_where_239 : decode cX6_where 239 = .ok (.iinc 6 1, 3) := by decide +kernel
theorem dX6_where_242 : decode cX6_where 242 = .ok (.goto (-70), 3) := by decide +kernel
theorem dX6_where_245 : decode cX6_where 245 = .ok (.aload_n 0, 1) := by decide +kernel
theorem dX6_where_246 : decode cX6_where 246 = .ok (.iload 5, 2) := by decide +kernel
theorem dX6_where_248 : decode cX6_where 248 = .ok (.invokevirtual 165, 3) := by decide +kernel
theorem dX6_where_251 : decode cX6_where 251 = .ok (.ireturn, 1) := by decide +kernel
theorem dX6_copy_0 : decode cX6_copy 0 = .ok (.aload_n 0, 1) := by decide +kernel
theorem dX6_copy_1 : decode cX6_copy 1 = .ok (.iload_n 1, 1) := by decide +kernel
theorem dX6_copy_2 : decode cX6_copy 2 = .ok (.invokevirtual 171, 3) := by decide +kernel
theorem dX6_copy_5 : decode cX6_copy 5 = .ok (.ifCond .eq 11, 3) := by decide +kernel
theorem dX6_copy_8 : decode cX6_copy 8 = .ok (.aload_n 0, 1) := by decide +kernel
theorem dX6_copy_9 : decode cX6_copy 9 = .ok (.iload_n 3, 1) := by decide +kernel
theorem dX6_copy_10 : decode cX6_copy 10 = .ok (.invokevirtual 171, 3) := by decide +kernel
theorem dX6_copy_13 : decode cX6_copy 13 = .ok (.ifCond .ne 5, 3) := by decide +kernel
theorem dX6_copy_16 : decode cX6_copy 16 = .ok (.iconst (-1), 1) := by decide +kernel
theorem dX6_copy_17 : decode cX6_copy 17 = .ok (.ireturn, 1) := by decide +kernel
theorem dX6_copy_18 : decode cX6_copy 18 = .ok (.aload_n 0, 1) := by decide +kernel
theorem dX6_copy_19 : decode cX6_copy 19 = .ok (.getfield 22, 3) := by decide +kernel
theorem dX6_copy_22 : decode cX6_copy 22 = .ok (.iload_n 1, 1) := by decide +kernel
theorem dX6_copy_23 : decode cX6_copy 23 = .ok (.baload, 1) := by decide +kernel
theorem dX6_copy_24 : decode cX6_copy 24 = .ok (.ifCond .ne 12, 3) := by decide +kernel
theorem dX6_copy_27 : decode cX6_copy 27 = .ok (.aload_n 0, 1) := by decide +kernel
theorem dX6_copy_28 : decode cX6_copy 28 = .ok (.getfield 22, 3) := by decide +kernel
theorem dX6_copy_31 : decode cX6_copy 31 = .ok (.iload_n 3, 1) := by decide +kernel
theorem dX6_copy_32 : decode cX6_copy 32 = .ok (.baload, 1) := by decide +kernel
theorem dX6_copy_33 : decode cX6_copy 33 = .ok (.ifCond .eq 11, 3) := by decide +kernel
theorem dX6_copy_36 : decode cX6_copy 36 = .ok (.aload_n 0, 1) := by decide +kernel
theorem dX6_copy_37 : decode cX6_copy 37 = .ok (.iconst 1, 1) := by decide +kernel
theorem dX6_copy_38 : decode cX6_copy 38 = .ok (.bipush (-3), 2) := by decide +kernel
theorem dX6_copy_40 : decode cX6_copy 40 = .ok (.invokevirtual 168, 3) := by decide +kernel
theorem dX6_copy_43 : decode cX6_copy 43 = .ok (.ireturn, 1) := by decide +kernel
theorem dX6_copy_44 : decode cX6_copy 44 = .ok (.aload_n 0, 1) := by decide +kernel
theorem dX6_copy_45 : decode cX6_copy 45 = .ok (.getfield 7, 3) := by decide +kernel
theorem dX6_copy_48 : decode cX6_copy 48 = .ok (.iload_n 1, 1) := by decide +kernel
theorem dX6_copy_49 : decode cX6_copy 49 = .ok (.iaload, 1) := by decide +kernel
theorem dX6_copy_50 : decode cX6_copy 50 = .ok (.aload_n 0, 1) := by decide +kernel
theorem dX6_copy_51 : decode cX6_copy 51 = .ok (.getfield 7, 3) := by decide +kernel
theorem dX6_copy_54 : decode cX6_copy 54 = .ok (.iload_n 3, 1) := by decide +kernel
theorem dX6_copy_55 : decode cX6_copy 55 = .ok (.iaload, 1) := by decide +kernel
theorem dX6_copy_56 : decode cX6_copy 56 = .ok (.if_icmp .eq 11, 3) := by decide +kernel
theorem dX6_copy_59 : decode cX6_copy 59 = .ok (.aload_n 0, 1) := by decide +kernel
theorem dX6_copy_60 : decode cX6_copy 60 = .ok (.iconst 4, 1) := by decide +kernel
theorem dX6_copy_61 : decode cX6_copy 61 = .ok (.bipush (-3), 2) := by decide +kernel
theorem dX6_copy_63 : decode cX6_copy 63 = .ok (.invokevirtual 168, 3) := by decide +kernel
theorem dX6_copy_66 : decode cX6_copy 66 = .ok (.ireturn, 1) := by decide +kernel
theorem dX6_copy_67 : decode cX6_copy 67 = .ok (.iload_n 2, 1) := by decide +kernel
theorem dX6_copy_68 : decode cX6_copy 68 = .ok (.ifCond .lt 48, 3) := by decide +kernel
theorem dX6_copy_71 : decode cX6_copy 71 = .ok (.iload 4, 2) := by decide +kernel
theorem dX6_copy_73 : decode cX6_copy 73 = .ok (.ifCond .lt 43, 3) := by decide +kernel
theorem dX6_copy_76 : decode cX6_copy 76 = .ok (.iload 5, 2) := by decide +kernel
theorem dX6_copy_78 : decode cX6_copy 78 = .ok (.ifCond .lt 38, 3) := by decide +kernel
theorem dX6_copy_81 : decode cX6_copy 81 = .ok (.iload_n 2, 1) := by decide +kernel
theorem dX6_copy_82 : decode cX6_copy 82 = .ok (.i2l, 1) := by decide +kernel
theorem dX6_copy_83 : decode cX6_copy 83 = .ok (.iload 5, 2) := by decide +kernel
theorem dX6_copy_85 : decode cX6_copy 85 = .ok (.i2l, 1) := by decide +kernel
theorem dX6_copy_86 : decode cX6_copy 86 = .ok (.ladd, 1) := by decide +kernel
theorem dX6_copy_87 : decode cX6_copy 87 = .ok (.aload_n 0, 1) := by decide +kernel
theorem dX6_copy_88 : decode cX6_copy 88 = .ok (.getfield 19, 3) := by decide +kernel
theorem dX6_copy_91 : decode cX6_copy 91 = .ok (.iload_n 1, 1) := by decide +kernel
theorem dX6_copy_92 : decode cX6_copy 92 = .ok (.iaload, 1) := by decide +kernel
theorem dX6_copy_93 : decode cX6_copy 93 = .ok (.i2l, 1) := by decide +kernel
theorem dX6_copy_94 : decode cX6_copy 94 = .ok (.lcmp, 1) := by decide +kernel
theorem dX6_copy_95 : decode cX6_copy 95 = .ok (.ifCond .gt 21, 3) := by decide +kernel
theorem dX6_copy_98 : decode cX6_copy 98 = .ok (.iload 4, 2) := by decide +kernel
theorem dX6_copy_100 : decode cX6_copy 100 = .ok (.i2l, 1) := by decide +kernel
theorem dX6_copy_101 : decode cX6_copy 101 = .ok (.iload 5, 2) := by decide +kernel
theorem dX6_copy_103 : decode cX6_copy 103 = .ok (.i2l, 1) := by decide +kernel
theorem dX6_copy_104 : decode cX6_copy 104 = .ok (.ladd, 1) := by decide +kernel
theorem dX6_copy_105 : decode cX6_copy 105 = .ok (.aload_n 0, 1) := by decide +kernel
theorem dX6_copy_106 : decode cX6_copy 106 = .ok (.getfield 19, 3) := by decide +kernel
theorem dX6_copy_109 : decode cX6_copy 109 = .ok (.iload_n 3, 1) := by decide +kernel
theorem dX6_copy_110 : decode cX6_copy 110 = .ok (.iaload, 1) := by decide +kernel
theorem dX6_copy_111 : decode cX6_copy 111 = .ok (.i2l, 1) := by decide +kernel
theorem dX6_copy_112 : decode cX6_copy 112 = .ok (.lcmp, 1) := by decide +kernel
theorem dX6_copy_113 : decode cX6_copy 113 = .ok (.ifCond .le 11, 3) := by decide +kernel
theorem dX6_copy_116 : decode cX6_copy 116 = .ok (.aload_n 0, 1) := by decide +kernel
theorem dX6_copy_117 : decode cX6_copy 117 = .ok (.iconst 2, 1) := by decide +kernel
theorem dX6_copy_118 : decode cX6_copy 118 = .ok (.bipush (-3), 2) := by decide +kernel
theorem dX6_copy_120 : decode cX6_copy 120 = .ok (.invokevirtual 168, 3) := by decide +kernel
theorem dX6_copy_123 : decode cX6_copy 123 = .ok (.ireturn, 1) := by decide +kernel
theorem dX6_copy_124 : decode cX6_copy 124 = .ok (.iconst 0, 1) := by decide +kernel
theorem dX6_copy_125 : decode cX6_copy 125 = .ok (.istore 6, 2) := by decide +kernel
theorem dX6_copy_127 : decode cX6_copy 127 = .ok (.iload 6, 2) := by decide +kernel
theorem dX6_copy_129 : decode cX6_copy 129 = .ok (.iload 5, 2) := by decide +kernel
theorem dX6_copy_131 : decode cX6_copy 131 = .ok (.if_icmp .ge 31, 3) := by decide +kernel
theorem dX6_copy_134 : decode cX6_copy 134 = .ok (.aload_n 0, 1) := by decide +kernel
theorem dX6_copy_135 : decode cX6_copy 135 = .ok (.getfield 30, 3) := by decide +kernel
theorem dX6_copy_138 : decode cX6_copy 138 = .ok (.iload 6, 2) := by decide +kernel
theorem dX6_copy_140 : decode cX6_copy 140 = .ok (.aload_n 0, 1) := by decide +kernel
theorem dX6_copy_141 : decode cX6_copy 141 = .ok (.getfield 26, 3) := by decide +kernel
theorem dX6_copy_144 : decode cX6_copy 144 = .ok (.sipush 240, 3) := by decide +kernel
theorem dX6_copy_147 : decode cX6_copy 147 = .ok (.iload_n 1, 1) := by decide +kernel
theorem dX6_copy_148 : decode cX6_copy 148 = .ok (.imul, 1) := by decide +kernel
theorem dX6_copy_149 : decode cX6_copy 149 = .ok (.iload_n 2, 1) := by decide +kernel
theorem dX6_copy_150 : decode cX6_copy 150 = .ok (.iadd, 1) := by decide +kernel
theorem dX6_copy_151 : decode cX6_copy 151 = .ok (.iload 6, 2) := by decide +kernel
theorem dX6_copy_153 : decode cX6_copy 153 = .ok (.iadd, 1) := by decide +kernel
theorem dX6_copy_154 : decode cX6_copy 154 = .ok (.laload, 1) := by decide +kernel
theorem dX6_copy_155 : decode cX6_copy 155 = .ok (.lastore, 1) := by decide +kernel
theorem dX6_copy_156 : decode cX6_copy 156 = .ok (.iinc 6 1, 3) := by decide +kernel
theorem dX6_copy_159 : decode cX6_copy 159 = .ok (.goto (-32), 3) := by decide +kernel
theorem dX6_copy_162 : decode cX6_copy 162 = .ok (.iconst 0, 1) := by decide +kernel
theorem dX6_copy_163 : decode cX6_copy 163 = .ok (.istore 6, 2) := by decide +kernel
theorem dX6_copy_165 : decode cX6_copy 165 = .ok (.iload 6, 2) := by decide +kernel
theorem dX6_copy_167 : decode cX6_copy 167 = .ok (.iload 5, 2) := by decide +kernel
theorem dX6_copy_169 : decode cX6_copy 169 = .ok (.if_icmp .ge 32, 3) := by decide +kernel
theorem dX6_copy_172 : decode cX6_copy 172 = .ok (.aload_n 0, 1) := by decide +kernel
theorem dX6_copy_173 : decode cX6_copy 173 = .ok (.getfield 26, 3) := by decide +kernel
theorem dX6_copy_176 : decode cX6_copy 176 = .ok (.sipush 240, 3) := by decide +kernel
theorem dX6_copy_179 : decode cX6_copy 179 = .ok (.iload_n 3, 1) := by decide +kernel
theorem dX6_copy_180 : decode cX6_copy 180 = .ok (.imul, 1) := by decide +kernel
theorem dX6_copy_181 : decode cX6_copy 181 = .ok (.iload 4, 2) := by decide +kernel
theorem dX6_copy_183 : decode cX6_copy 183 = .ok (.iadd, 1) := by decide +kernel
theorem dX6_copy_184 : decode cX6_copy 184 = .ok (.iload 6, 2) := by decide +kernel
theorem dX6_copy_186 : decode cX6_copy 186 = .ok (.iadd, 1) := by decide +kernel
theorem dX6_copy_187 : decode cX6_copy 187 = .ok (.aload_n 0, 1) := by decide +kernel
theorem dX6_copy_188 : decode cX6_copy 188 = .ok (.getfield 30, 3) := by decide +kernel
theorem dX6_copy_191 : decode cX6_copy 191 = .ok (.iload 6, 2) := by decide +kernel
theorem dX6_copy_193 : decode cX6_copy 193 = .ok (.laload, 1) := by decide +kernel
theorem dX6_copy_194 : decode cX6_copy 194 = .ok (.lastore, 1) := by decide +kernel
theorem dX6_copy_195 : decode cX6_copy 195 = .ok (.iinc 6 1, 3) := by decide +kernel
theorem dX6_copy_198 : decode cX6_copy 198 = .ok (.goto (-33), 3) := by decide +kernel
theorem dX6_copy_201 : decode cX6_copy 201 = .ok (.iload 5, 2) := by decide +kernel
theorem dX6_copy_203 : decode cX6_copy 203 = .ok (.ireturn, 1) := by decide +kernel
theorem dX6_same_0 : decode cX6_same 0 = .ok (.aload_n 0, 1) := by decide +kernel
theorem dX6_same_1 : decode cX6_same 1 = .ok (.iload_n 1, 1) := by decide +kernel
theorem dX6_same_2 : decode cX6_same 2 = .ok (.invokevirtual 171, 3) := by decide +kernel
theorem dX6_same_5 : decode cX6_same 5 = .ok (.ifCond .eq 11, 3) := by decide +kernel
theorem dX6_same_8 : decode cX6_same 8 = .ok (.aload_n 0, 1) := by decide +kernel
theorem dX6_same_9 : decode cX6_same 9 = .ok (.iload_n 2, 1) := by decide +kernel
theorem dX6_same_10 : decode cX6_same 10 = .ok (.invokevirtual 171, 3) := by decide +kernel
theorem dX6_same_13 : decode cX6_same 13 = .ok (.ifCond .ne 5, 3) := by decide +kernel
theorem dX6_same_16 : decode cX6_same 16 = .ok (.iconst (-1), 1) := by decide +kernel
theorem dX6_same_17 : decode cX6_same 17 = .ok (.ireturn, 1) := by decide +kernel
theorem dX6_same_18 : decode cX6_same 18 = .ok (.aload_n 0, 1) := by decide +kernel
theorem dX6_same_19 : decode cX6_same 19 = .ok (.getfield 22, 3) := by decide +kernel
theorem dX6_same_22 : decode cX6_same 22 = .ok (.iload_n 1, 1) := by decide +kernel
theorem dX6_same_23 : decode cX6_same 23 = .ok (.baload, 1) := by decide +kernel
theorem dX6_same_24 : decode cX6_same 24 = .ok (.ifCond .ne 12, 3) := by decide +kernel
theorem dX6_same_27 : decode cX6_same 27 = .ok (.aload_n 0, 1) := by decide +kernel
theorem dX6_same_28 : decode cX6_same 28 = .ok (.getfield 22, 3) := by decide +kernel
theorem dX6_same_31 : decode cX6_same 31 = .ok (.iload_n 2, 1) := by decide +kernel
theorem dX6_same_32 : decode cX6_same 32 = .ok (.baload, 1) := by decide +kernel
theorem dX6_same_33 : decode cX6_same 33 = .ok (.ifCond .eq 11, 3) := by decide +kernel
theorem dX6_same_36 : decode cX6_same 36 = .ok (.aload_n 0, 1) := by decide +kernel
theorem dX6_same_37 : decode cX6_same 37 = .ok (.iconst 1, 1) := by decide +kernel
theorem dX6_same_38 : decode cX6_same 38 = .ok (.bipush (-3), 2) := by decide +kernel
theorem dX6_same_40 : decode cX6_same 40 = .ok (.invokevirtual 168, 3) := by decide +kernel
theorem dX6_same_43 : decode cX6_same 43 = .ok (.ireturn, 1) := by decide +kernel
theorem dX6_same_44 : decode cX6_same 44 = .ok (.aload_n 0, 1) := by decide +kernel
theorem dX6_same_45 : decode cX6_same 45 = .ok (.getfield 7, 3) := by decide +kernel
theorem dX6_same_48 : decode cX6_same 48 = .ok (.iload_n 1, 1) := by decide +kernel
theorem dX6_same_49 : decode cX6_same 49 = .ok (.iaload, 1) := by decide +kernel
theorem dX6_same_50 : decode cX6_same 50 = .ok (.aload_n 0, 1) := by decide +kernel
theorem dX6_same_51 : decode cX6_same 51 = .ok (.getfield 7, 3) := by decide +kernel
theorem dX6_same_54 : decode cX6_same 54 = .ok (.iload_n 2, 1) := by decide +kernel
theorem dX6_same_55 : decode cX6_same 55 = .ok (.iaload, 1) := by decide +kernel
theorem dX6_same_56 : decode cX6_same 56 = .ok (.if_icmp .ne 22, 3) := by decide +kernel
theorem dX6_same_59 : decode cX6_same 59 = .ok (.aload_n 0, 1) := by decide +kernel
theorem dX6_same_60 : decode cX6_same 60 = .ok (.getfield 13, 3) := by decide +kernel
theorem dX6_same_63 : decode cX6_same 63 = .ok (.iload_n 1, 1) := by decide +kernel
theorem dX6_same_64 : decode cX6_same 64 = .ok (.iaload, 1) := by decide +kernel
theorem dX6_same_65 : decode cX6_same 65 = .ok (.aload_n 0, 1) := by decide +kernel
theorem dX6_same_66 : decode cX6_same 66 = .ok (.getfield 13, 3) := by decide +kernel
theorem dX6_same_69 : decode cX6_same 69 = .ok (.iload_n 2, 1) := by decide +kernel
theorem dX6_same_70 : decode cX6_same 70 = .ok (.iaload, 1) := by decide +kernel
theorem dX6_same_71 : decode cX6_same 71 = .ok (.if_icmp .ne 7, 3) := by decide +kernel
theorem dX6_same_74 : decode cX6_same 74 = .ok (.iconst 1, 1) := by decide +kernel
theorem dX6_same_75 : decode cX6_same 75 = .ok (.goto 4, 3) := by decide +kernel
theorem dX6_same_78 : decode cX6_same 78 = .ok (.iconst 0, 1) := by decide +kernel
theorem dX6_same_79 : decode cX6_same 79 = .ok (.istore_n 3, 1) := by decide +kernel
theorem dX6_same_80 : decode cX6_same 80 = .ok (.iconst 0, 1) := by decide +kernel
theorem dX6_same_81 : decode cX6_same 81 = .ok (.istore 4, 2) := by decide +kernel
theorem dX6_same_83 : decode cX6_same 83 = .ok (.iload 4, 2) := by decide +kernel
theorem dX6_same_85 : decode cX6_same 85 = .ok (.iconst 3, 1) := by decide +kernel
theorem dX6_same_86 : decode cX6_same 86 = .ok (.if_icmp .ge 36, 3) := by decide +kernel
theorem dX6_same_89 : decode cX6_same 89 = .ok (.iload_n 3, 1) := by decide +kernel
theorem dX6_same_90 : decode cX6_same 90 = .ok (.ifCond .eq 24, 3) := by decide +kernel
theorem dX6_same_93 : decode cX6_same 93 = .ok (.aload_n 0, 1) := by decide +kernel
theorem dX6_same_94 : decode cX6_same 94 = .ok (.iload_n 1, 1) := by decide +kernel
theorem dX6_same_95 : decode cX6_same 95 = .ok (.iload 4, 2) := by decide +kernel
theorem dX6_same_97 : decode cX6_same 97 = .ok (.invokevirtual 156, 3) := by decide +kernel
theorem dX6_same_100 : decode cX6_same 100 = .ok (.aload_n 0, 1) := by decide +kernel
theorem dX6_same_101 : decode cX6_same 101 = .ok (.iload_n 2, 1) := by decide +kernel
theorem dX6_same_102 : decode cX6_same 102 = .ok (.iload 4, 2) := by decide +kernel
theorem dX6_same_104 : decode cX6_same 104 = .ok (.invokevirtual 156, 3) := by decide +kernel
theorem dX6_same_107 : decode cX6_same 107 = .ok (.if_icmp .ne 7, 3) := by decide +kernel
theorem dX6_same_110 : decode cX6_same 110 = .ok (.iconst 1, 1) := by decide +kernel
theorem dX6_same_111 : decode cX6_same 111 = .ok (.goto 4, 3) := by decide +kernel
theorem dX6_same_114 : decode cX6_same 114 = .ok (.iconst 0, 1) := by decide +kernel
theorem dX6_same_115 : decode cX6_same 115 = .ok (.istore_n 3, 1) := by decide +kernel
theorem dX6_same_116 : decode cX6_same 116 = .ok (.iinc 4 1, 3) := by decide +kernel
theorem dX6_same_119 : decode cX6_same 119 = .ok (.goto (-36), 3) := by decide +kernel
theorem dX6_same_122 : decode cX6_same 122 = .ok (.iconst 0, 1) := by decide +kernel
theorem dX6_same_123 : decode cX6_same 123 = .ok (.istore 4, 2) := by decide +kernel
theorem dX6_same_125 : decode cX6_same 125 = .ok (.iload 4, 2) := by decide +kernel
theorem dX6_same_127 : decode cX6_same 127 = .ok (.aload_n 0, 1) := by decide +kernel
theorem dX6_same_128 : decode cX6_same 128 = .ok (.getfield 19, 3) := by decide +kernel
theorem dX6_same_131 : decode cX6_same 131 = .ok (.iload_n 1, 1) := by decide +kernel
theorem dX6_same_132 : decode cX6_same 132 = .ok (.iaload, 1) := by decide +kernel
theorem dX6_same_133 : decode cX6_same 133 = .ok (.if_icmp .ge 49, 3) := by decide +kernel
theorem dX6_same_136 : decode cX6_same 136 = .ok (.iload_n 3, 1) := by decide +kernel
theorem dX6_same_137 : decode cX6_same 137 = .ok (.ifCond .eq 45, 3) := by decide +kernel
theorem dX6_same_140 : decode cX6_same 140 = .ok (.aload_n 0, 1) := by decide +kernel
theorem dX6_same_141 : decode cX6_same 141 = .ok (.getfield 26, 3) := by decide +kernel
theorem dX6_same_144 : decode cX6_same 144 = .ok (.sipush 240, 3) := by decide +kernel
theorem dX6_same_147 : decode cX6_same 147 = .ok (.iload_n 1, 1) := by decide +kernel
theorem dX6_same_148 : decode cX6_same 148 = .ok (.imul, 1) := by decide +kernel
theorem dX6_same_149 : decode cX6_same 149 = .ok (.iload 4, 2) := by decide +kernel
theorem dX6_same_151 : decode cX6_same 151 = .ok (.iadd, 1) := by decide +kernel
theorem dX6_same_152 : decode cX6_same 152 = .ok (.laload, 1) := by decide +kernel
theorem dX6_same_153 : decode cX6_same 153 = .ok (.aload_n 0, 1) := by decide +kernel
theorem dX6_same_154 : decode cX6_same 154 = .ok (.getfield 26, 3) := by decide +kernel
theorem dX6_same_157 : decode cX6_same 157 = .ok (.sipush 240, 3) := by decide +kernel
theorem dX6_same_160 : decode cX6_same 160 = .ok (.iload_n 2, 1) := by decide +kernel
theorem dX6_same_161 : decode cX6_same 161 = .ok (.imul, 1) := by decide +kernel
theorem dX6_same_162 : decode cX6_same 162 = .ok (.iload 4, 2) := by decide +kernel
theorem dX6_same_164 : decode cX6_same 164 = .ok (.iadd, 1) := by decide +kernel
theorem dX6_same_165 : decode cX6_same 165 = .ok (.laload, 1) := by decide +kernel
theorem dX6_same_166 : decode cX6_same 166 = .ok (.lcmp, 1) := by decide +kernel
theorem dX6_same_167 : decode cX6_same 167 = .ok (.ifCond .ne 7, 3) := by decide +kernel
theorem dX6_same_170 : decode cX6_same 170 = .ok (.iconst 1, 1) := by decide +kernel
theorem dX6_same_171 : decode cX6_same 171 = .ok (.goto 4, 3) := by decide +kernel
theorem dX6_same_174 : decode cX6_same 174 = .ok (.iconst 0, 1) := by decide +kernel
theorem dX6_same_175 : decode cX6_same 175 = .ok (.istore_n 3, 1) := by decide +kernel
theorem dX6_same_176 : decode cX6_same 176 = .ok (.iinc 4 1, 3) := by decide +kernel
theorem dX6_same_179 : decode cX6_same 179 = .ok (.goto (-54), 3) := by decide +kernel
theorem dX6_same_182 : decode cX6_same 182 = .ok (.iload_n 3, 1) := by decide +kernel
theorem dX6_same_183 : decode cX6_same 183 = .ok (.ifCond .eq 7, 3) := by decide +kernel
theorem dX6_same_186 : decode cX6_same 186 = .ok (.iconst 1, 1) := by decide +kernel
theorem dX6_same_187 : decode cX6_same 187 = .ok (.goto 4, 3) := by decide +kernel
theorem dX6_same_190 : decode cX6_same 190 = .ok (.iconst 0, 1) := by decide +kernel
theorem dX6_same_191 : decode cX6_same 191 = .ok (.ireturn, 1) := by decide +kernel
theorem dX6_place_0 : decode cX6_place 0 = .ok (.aload_n 0, 1) := by decide +kernel
theorem dX6_place_1 : decode cX6_place 1 = .ok (.getfield 33, 3) := by decide +kernel
theorem dX6_place_4 : decode cX6_place 4 = .ok (.ireturn, 1) := by decide +kernel
theorem dX6_count_0 : decode cX6_count 0 = .ok (.iconst 0, 1) := by decide +kernel
theorem dX6_count_1 : decode cX6_count 1 = .ok (.istore_n 2, 1) := by decide +kernel
theorem dX6_count_2 : decode cX6_count 2 = .ok (.iconst 0, 1) := by decide +kernel
theorem dX6_count_3 : decode cX6_count 3 = .ok (.istore_n 3, 1) := by decide +kernel
theorem dX6_count_4 : decode cX6_count 4 = .ok (.iload_n 3, 1) := by decide +kernel
theorem dX6_count_5 : decode cX6_count 5 = .ok (.aload_n 0, 1) := by decide +kernel
theorem dX6_count_6 : decode cX6_count 6 = .ok (.getfield 146, 3) := by decide +kernel
theorem dX6_count_9 : decode cX6_count 9 = .ok (.if_icmp .ge 26, 3) := by decide +kernel
theorem dX6_count_12 : decode cX6_count 12 = .ok (.iload_n 2, 1) := by decide +kernel
theorem dX6_count_13 : decode cX6_count 13 = .ok (.aload_n 0, 1) := by decide +kernel
theorem dX6_count_14 : decode cX6_count 14 = .ok (.getfield 22, 3) := by decide +kernel
theorem dX6_count_17 : decode cX6_count 17 = .ok (.iload_n 3, 1) := by decide +kernel
theorem dX6_count_18 : decode cX6_count 18 = .ok (.baload, 1) := by decide +kernel
theorem dX6_count_19 : decode cX6_count 19 = .ok (.ifCond .eq 7, 3) := by decide +kernel
theorem dX6_count_22 : decode cX6_count 22 = .ok (.iconst 0, 1) := by decide +kernel
theorem dX6_count_23 : decode cX6_count 23 = .ok (.goto 4, 3) := by decide +kernel
theorem dX6_count_26 : decode cX6_count 26 = .ok (.iconst 1, 1) := by decide +kernel
theorem dX6_count_27 : decode cX6_count 27 = .ok (.iadd, 1) := by decide +kernel
theorem dX6_count_28 : decode cX6_count 28 = .ok (.istore_n 2, 1) := by decide +kernel
theorem dX6_count_29 : decode cX6_count 29 = .ok (.iinc 3 1, 3) := by decide +kernel
theorem dX6_count_32 : decode cX6_count 32 = .ok (.goto (-28), 3) := by decide +kernel
theorem dX6_count_35 : decode cX6_count 35 = .ok (.iload_n 1, 1) := by decide +kernel
theorem dX6_count_36 : decode cX6_count 36 = .ok (.ifCond .ne 10, 3) := by decide +kernel
theorem dX6_count_39 : decode cX6_count 39 = .ok (.aload_n 0, 1) := by decide +kernel
theorem dX6_count_40 : decode cX6_count 40 = .ok (.getfield 146, 3) := by decide +kernel
theorem dX6_count_43 : decode cX6_count 43 = .ok (.goto 37, 3) := by decide +kernel
theorem dX6_count_46 : decode cX6_count 46 = .ok (.iload_n 1, 1) := by decide +kernel
theorem dX6_count_47 : decode cX6_count 47 = .ok (.iconst 1, 1) := by decide +kernel
theorem dX6_count_48 : decode cX6_count 48 = .ok (.if_icmp .ne 7, 3) := by decide +kernel
theorem dX6_count_51 : decode cX6_count 51 = .ok (.iload_n 2, 1) := by decide +kernel
theorem dX6_count_52 : decode cX6_count 52 = .ok (.goto 28, 3) := by decide +kernel
theorem dX6_count_55 : decode cX6_count 55 = .ok (.iload_n 1, 1) := by decide +kernel
theorem dX6_count_56 : decode cX6_count 56 = .ok (.iconst 2, 1) := by decide +kernel
theorem dX6_count_57 : decode cX6_count 57 = .ok (.if_icmp .ne 10, 3) := by decide +kernel
theorem dX6_count_60 : decode cX6_count 60 = .ok (.aload_n 0, 1) := by decide +kernel
theorem dX6_count_61 : decode cX6_count 61 = .ok (.getfield 248, 3) := by decide +kernel
theorem dX6_count_64 : decode cX6_count 64 = .ok (.goto 16, 3) := by decide +kernel
theorem dX6_count_67 : decode cX6_count 67 = .ok (.iload_n 1, 1) := by decide +kernel
theorem dX6_count_68 : decode cX6_count 68 = .ok (.iconst 3, 1) := by decide +kernel
theorem dX6_count_69 : decode cX6_count 69 = .ok (.if_icmp .ne 10, 3) := by decide +kernel
theorem dX6_count_72 : decode cX6_count 72 = .ok (.aload_n 0, 1) := by decide +kernel
theorem dX6_count_73 : decode cX6_count 73 = .ok (.getfield 143, 3) := by decide +kernel
theorem dX6_count_76 : decode cX6_count 76 = .ok (.goto 4, 3) := by decide +kernel
theorem dX6_count_79 : decode cX6_count 79 = .ok (.iconst (-1), 1) := by decide +kernel
theorem dX6_count_80 : decode cX6_count 80 = .ok (.ireturn, 1) := by decide +kernel
