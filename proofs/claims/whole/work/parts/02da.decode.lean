theorem dX0_init_0 : decode cX0_init 0 = .ok (.aload_n 0, 1) := by decide +kernel
theorem dX0_init_1 : decode cX0_init 1 = .ok (.invokespecial 1, 3) := by decide +kernel
theorem dX0_init_4 : decode cX0_init 4 = .ok (.aload_n 0, 1) := by decide +kernel
theorem dX0_init_5 : decode cX0_init 5 = .ok (.new 7, 3) := by decide +kernel
theorem dX0_init_8 : decode cX0_init 8 = .ok (.dup, 1) := by decide +kernel
theorem dX0_init_9 : decode cX0_init 9 = .ok (.invokespecial 9, 3) := by decide +kernel
theorem dX0_init_12 : decode cX0_init 12 = .ok (.putfield 10, 3) := by decide +kernel
theorem dX0_init_15 : decode cX0_init 15 = .ok (.aload_n 0, 1) := by decide +kernel
theorem dX0_init_16 : decode cX0_init 16 = .ok (.new 7, 3) := by decide +kernel
theorem dX0_init_19 : decode cX0_init 19 = .ok (.dup, 1) := by decide +kernel
theorem dX0_init_20 : decode cX0_init 20 = .ok (.invokespecial 9, 3) := by decide +kernel
theorem dX0_init_23 : decode cX0_init 23 = .ok (.putfield 16, 3) := by decide +kernel
theorem dX0_init_26 : decode cX0_init 26 = .ok (.aload_n 0, 1) := by decide +kernel
theorem dX0_init_27 : decode cX0_init 27 = .ok (.new 7, 3) := by decide +kernel
theorem dX0_init_30 : decode cX0_init 30 = .ok (.dup, 1) := by decide +kernel
theorem dX0_init_31 : decode cX0_init 31 = .ok (.invokespecial 9, 3) := by decide +kernel
theorem dX0_init_34 : decode cX0_init 34 = .ok (.putfield 19, 3) := by decide +kernel
theorem dX0_init_37 : decode cX0_init 37 = .ok (.return_, 1) := by decide +kernel
theorem dX0_isAct_0 : decode cX0_isAct 0 = .ok (.iload_n 0, 1) := by decide +kernel
theorem dX0_isAct_1 : decode cX0_isAct 1 = .ok (.ifCond .lt 13, 3) := by decide +kernel
theorem dX0_isAct_4 : decode cX0_isAct 4 = .ok (.iload_n 0, 1) := by decide +kernel
theorem dX0_isAct_5 : decode cX0_isAct 5 = .ok (.bipush 22, 2) := by decide +kernel
theorem dX0_isAct_7 : decode cX0_isAct 7 = .ok (.if_icmp .gt 7, 3) := by decide +kernel
theorem dX0_isAct_10 : decode cX0_isAct 10 = .ok (.iconst 1, 1) := by decide +kernel
theorem dX0_isAct_11 : decode cX0_isAct 11 = .ok (.goto 4, 3) := by decide +kernel
theorem dX0_isAct_14 : decode cX0_isAct 14 = .ok (.iconst 0, 1) := by decide +kernel
theorem dX0_isAct_15 : decode cX0_isAct 15 = .ok (.ireturn, 1) := by decide +kernel
theorem dX0_isOfOne_0 : decode cX0_isOfOne 0 = .ok (.iload_n 0, 1) := by decide +kernel
theorem dX0_isOfOne_1 : decode cX0_isOfOne 1 = .ok (.ifCond .lt 13, 3) := by decide +kernel
theorem dX0_isOfOne_4 : decode cX0_isOfOne 4 = .ok (.iload_n 0, 1) := by decide +kernel
theorem dX0_isOfOne_5 : decode cX0_isOfOne 5 = .ok (.bipush 8, 2) := by decide +kernel
theorem dX0_isOfOne_7 : decode cX0_isOfOne 7 = .ok (.if_icmp .gt 7, 3) := by decide +kernel
theorem dX0_isOfOne_10 : decode cX0_isOfOne 10 = .ok (.iconst 1, 1) := by decide +kernel
theorem dX0_isOfOne_11 : decode cX0_isOfOne 11 = .ok (.goto 4, 3) := by decide +kernel
theorem dX0_isOfOne_14 : decode cX0_isOfOne 14 = .ok (.iconst 0, 1) := by decide +kernel
theorem dX0_isOfOne_15 : decode cX0_isOfOne 15 = .ok (.ireturn, 1) := by decide +kernel
theorem dX0_isComparison_0 : decode cX0_isComparison 0 = .ok (.iload_n 0, 1) := by decide +kernel
theorem dX0_isComparison_1 : decode cX0_isComparison 1 = .ok (.bipush 18, 2) := by decide +kernel
theorem dX0_isComparison_3 : decode cX0_isComparison 3 = .ok (.if_icmp .lt 13, 3) := by decide +kernel
theorem dX0_isComparison_6 : decode cX0_isComparison 6 = .ok (.iload_n 0, 1) := by decide +kernel
theorem dX0_isComparison_7 : decode cX0_isComparison 7 = .ok (.bipush 21, 2) := by decide +kernel
theorem dX0_isComparison_9 : decode cX0_isComparison 9 = .ok (.if_icmp .gt 7, 3) := by decide +kernel
theorem dX0_isComparison_12 : decode cX0_isComparison 12 = .ok (.iconst 1, 1) := by decide +kernel
theorem dX0_isComparison_13 : decode cX0_isComparison 13 = .ok (.goto 4, 3) := by decide +kernel
theorem dX0_isComparison_16 : decode cX0_isComparison 16 = .ok (.iconst 0, 1) := by decide +kernel
theorem dX0_isComparison_17 : decode cX0_isComparison 17 = .ok (.ireturn, 1) := by decide +kernel
theorem dX0_isByZero_0 : decode cX0_isByZero 0 = .ok (.lload_n 2, 1) := by decide +kernel
theorem dX0_isByZero_1 : decode cX0_isByZero 1 = .ok (.lconst 0, 1) := by decide +kernel
theorem dX0_isByZero_2 : decode cX0_isByZero 2 = .ok (.lcmp, 1) := by decide +kernel
theorem dX0_isByZero_3 : decode cX0_isByZero 3 = .ok (.ifCond .ne 25, 3) := by decide +kernel
theorem dX0_isByZero_6 : decode cX0_isByZero 6 = .ok (.iload_n 0, 1) := by decide +kernel
theorem dX0_isByZero_7 : decode cX0_isByZero 7 = .ok (.iconst 4, 1) := by decide +kernel
theorem dX0_isByZero_8 : decode cX0_isByZero 8 = .ok (.if_icmp .lt 20, 3) := by decide +kernel
theorem dX0_isByZero_11 : decode cX0_isByZero 11 = .ok (.iload_n 0, 1) := by decide +kernel
theorem dX0_isByZero_12 : decode cX0_isByZero 12 = .ok (.bipush 7, 2) := by decide +kernel
theorem dX0_isByZero_14 : decode cX0_isByZero 14 = .ok (.if_icmp .gt 14, 3) := by decide +kernel
theorem dX0_isByZero_17 : decode cX0_isByZero 17 = .ok (.iload_n 1, 1) := by decide +kernel
theorem dX0_isByZero_18 : decode cX0_isByZero 18 = .ok (.invokestatic 22, 3) := by decide +kernel
theorem dX0_isByZero_21 : decode cX0_isByZero 21 = .ok (.ifCond .ne 7, 3) := by decide +kernel
theorem dX0_isByZero_24 : decode cX0_isByZero 24 = .ok (.iconst 1, 1) := by decide +kernel
theorem dX0_isByZero_25 : decode cX0_isByZero 25 = .ok (.goto 4, 3) := by decide +kernel
theorem dX0_isByZero_28 : decode cX0_isByZero 28 = .ok (.iconst 0, 1) := by decide +kernel
theorem dX0_isByZero_29 : decode cX0_isByZero 29 = .ok (.ireturn, 1) := by decide +kernel
theorem dX0_moved_0 : decode cX0_moved 0 = .ok (.iload_n 3, 1) := by decide +kernel
theorem dX0_moved_1 : decode cX0_moved 1 = .ok (.iload 4, 2) := by decide +kernel
theorem dX0_moved_3 : decode cX0_moved 3 = .ok (.if_icmp .ne 5, 3) := by decide +kernel
theorem dX0_moved_6 : decode cX0_moved 6 = .ok (.lload_n 1, 1) := by decide +kernel
theorem dX0_moved_7 : decode cX0_moved 7 = .ok (.lreturn, 1) := by decide +kernel
theorem dX0_moved_8 : decode cX0_moved 8 = .ok (.iload 4, 2) := by decide +kernel
theorem dX0_moved_10 : decode cX0_moved 10 = .ok (.ifCond .ne 17, 3) := by decide +kernel
theorem dX0_moved_13 : decode cX0_moved 13 = .ok (.lload_n 1, 1) := by decide +kernel
theorem dX0_moved_14 : decode cX0_moved 14 = .ok (.iload_n 3, 1) := by decide +kernel
theorem dX0_moved_15 : decode cX0_moved 15 = .ok (.invokestatic 28, 3) := by decide +kernel
theorem dX0_moved_18 : decode cX0_moved 18 = .ok (.ifCond .eq 7, 3) := by decide +kernel
theorem dX0_moved_21 : decode cX0_moved 21 = .ok (.lconst 0, 1) := by decide +kernel
theorem dX0_moved_22 : decode cX0_moved 22 = .ok (.goto 4, 3) := by decide +kernel
theorem dX0_moved_25 : decode cX0_moved 25 = .ok (.lconst 1, 1) := by decide +kernel
theorem dX0_moved_26 : decode cX0_moved 26 = .ok (.lreturn, 1) := by decide +kernel
theorem dX0_moved_27 : decode cX0_moved 27 = .ok (.iload_n 3, 1) := by decide +kernel
theorem dX0_moved_28 : decode cX0_moved 28 = .ok (.invokestatic 22, 3) := by decide +kernel
theorem dX0_moved_31 : decode cX0_moved 31 = .ok (.ifCond .ne 18, 3) := by decide +kernel
theorem dX0_moved_34 : decode cX0_moved 34 = .ok (.iload 4, 2) := by decide +kernel
theorem dX0_moved_36 : decode cX0_moved 36 = .ok (.invokestatic 22, 3) := by decide +kernel
theorem dX0_moved_39 : decode cX0_moved 39 = .ok (.ifCond .ne 10, 3) := by decide +kernel
theorem dX0_moved_42 : decode cX0_moved 42 = .ok (.lload_n 1, 1) := by decide +kernel
theorem dX0_moved_43 : decode cX0_moved 43 = .ok (.iload 4, 2) := by decide +kernel
theorem dX0_moved_45 : decode cX0_moved 45 = .ok (.invokestatic 32, 3) := by decide +kernel
theorem dX0_moved_48 : decode cX0_moved 48 = .ok (.lreturn, 1) := by decide +kernel
theorem dX0_moved_49 : decode cX0_moved 49 = .ok (.iload_n 3, 1) := by decide +kernel
theorem dX0_moved_50 : decode cX0_moved 50 = .ok (.invokestatic 22, 3) := by decide +kernel
theorem dX0_moved_53 : decode cX0_moved 53 = .ok (.ifCond .eq 15, 3) := by decide +kernel
theorem dX0_moved_56 : decode cX0_moved 56 = .ok (.aload_n 0, 1) := by decide +kernel
theorem dX0_moved_57 : decode cX0_moved 57 = .ok (.getfield 10, 3) := by decide +kernel
theorem dX0_moved_60 : decode cX0_moved 60 = .ok (.lload_n 1, 1) := by decide +kernel
theorem dX0_moved_61 : decode cX0_moved 61 = .ok (.iload_n 3, 1) := by decide +kernel
theorem dX0_moved_62 : decode cX0_moved 62 = .ok (.invokevirtual 36, 3) := by decide +kernel
theorem dX0_moved_65 : decode cX0_moved 65 = .ok (.goto 11, 3) := by decide +kernel
theorem dX0_moved_68 : decode cX0_moved 68 = .ok (.aload_n 0, 1) := by decide +kernel
theorem dX0_moved_69 : decode cX0_moved 69 = .ok (.getfield 10, 3) := by decide +kernel
theorem dX0_moved_72 : decode cX0_moved 72 = .ok (.lload_n 1, 1) := by decide +kernel
theorem dX0_moved_73 : decode cX0_moved 73 = .ok (.invokevirtual 40, 3) := by decide +kernel
theorem dX0_moved_76 : decode cX0_moved 76 = .ok (.iload 4, 2) := by decide +kernel
theorem dX0_moved_78 : decode cX0_moved 78 = .ok (.invokestatic 22, 3) := by decide +kernel
theorem dX0_moved_81 : decode cX0_moved 81 = .ok (.ifCond .eq 15, 3) := by decide +kernel
theorem dX0_moved_84 : decode cX0_moved 84 = .ok (.aload_n 0, 1) := by decide +kernel
theorem dX0_moved_85 : decode cX0_moved 85 = .ok (.getfield 10, 3) := by decide +kernel
theorem dX0_moved_88 : decode cX0_moved 88 = .ok (.iload 4, 2) := by decide +kernel
theorem dX0_moved_90 : decode cX0_moved 90 = .ok (.invokevirtual 44, 3) := by decide +kernel
theorem dX0_moved_93 : decode cX0_moved 93 = .ok (.goto 12, 3) := by decide +kernel
theorem dX0_moved_96 : decode cX0_moved 96 = .ok (.aload_n 0, 1) := by decide +kernel
theorem dX0_moved_97 : decode cX0_moved 97 = .ok (.getfield 10, 3) := by decide +kernel
theorem dX0_moved_100 : decode cX0_moved 100 = .ok (.iload 4, 2) := by decide +kernel
theorem dX0_moved_102 : decode cX0_moved 102 = .ok (.invokestatic 48, 3) := by decide +kernel
theorem dX0_moved_105 : decode cX0_moved 105 = .ok (.lreturn, 1) := by decide +kernel
theorem dX0_wholeOf_0 : decode cX0_wholeOf 0 = .ok (.aload_n 0, 1) := by decide +kernel
theorem dX0_wholeOf_1 : decode cX0_wholeOf 1 = .ok (.invokevirtual 52, 3) := by decide +kernel
theorem dX0_wholeOf_4 : decode cX0_wholeOf 4 = .ok (.lstore_n 2, 1) := by decide +kernel
theorem dX0_wholeOf_5 : decode cX0_wholeOf 5 = .ok (.iload_n 1, 1) := by decide +kernel
theorem dX0_wholeOf_6 : decode cX0_wholeOf 6 = .ok (.iconst 3, 1) := by decide +kernel
theorem dX0_wholeOf_7 : decode cX0_wholeOf 7 = .ok (.if_icmp .ne 5, 3) := by decide +kernel
theorem dX0_wholeOf_10 : decode cX0_wholeOf 10 = .ok (.lload_n 2, 1) := by decide +kernel
theorem dX0_wholeOf_11 : decode cX0_wholeOf 11 = .ok (.lreturn, 1) := by decide +kernel
theorem dX0_wholeOf_12 : decode cX0_wholeOf 12 = .ok (.ldc2_w 58, 3) := by decide +kernel
theorem dX0_wholeOf_15 : decode cX0_wholeOf 15 = .ok (.ldc2_w 60, 3) := by decide +kernel
theorem dX0_wholeOf_18 : decode cX0_wholeOf 18 = .ok (.lload_n 2, 1) := by decide +kernel
theorem dX0_wholeOf_19 : decode cX0_wholeOf 19 = .ok (.invokestatic 62, 3) := by decide +kernel
theorem dX0_wholeOf_22 : decode cX0_wholeOf 22 = .ok (.invokestatic 68, 3) := by decide +kernel
theorem dX0_wholeOf_25 : decode cX0_wholeOf 25 = .ok (.lstore 4, 2) := by decide +kernel
theorem dX0_wholeOf_27 : decode cX0_wholeOf 27 = .ok (.lload 4, 2) := by decide +kernel
theorem dX0_wholeOf_29 : decode cX0_wholeOf 29 = .ok (.iload_n 1, 1) := by decide +kernel
theorem dX0_wholeOf_30 : decode cX0_wholeOf 30 = .ok (.invokestatic 32, 3) := by decide +kernel
theorem dX0_wholeOf_33 : decode cX0_wholeOf 33 = .ok (.lreturn, 1) := by decide +kernel
theorem dX0_ofTwo_0 : decode cX0_ofTwo 0 = .ok (.iload_n 1, 1) := by decide +kernel
theorem dX0_ofTwo_1 : decode cX0_ofTwo 1 = .ok (.invokestatic 71, 3) := by decide +kernel
theorem dX0_ofTwo_4 : decode cX0_ofTwo 4 = .ok (.ifCond .eq 20, 3) := by decide +kernel
theorem dX0_ofTwo_7 : decode cX0_ofTwo 7 = .ok (.iload_n 1, 1) := by decide +kernel
theorem dX0_ofTwo_8 : decode cX0_ofTwo 8 = .ok (.iload_n 2, 1) := by decide +kernel
theorem dX0_ofTwo_9 : decode cX0_ofTwo 9 = .ok (.lload_n 3, 1) := by decide +kernel
theorem dX0_ofTwo_10 : decode cX0_ofTwo 10 = .ok (.lload 5, 2) := by decide +kernel
theorem dX0_ofTwo_12 : decode cX0_ofTwo 12 = .ok (.invokestatic 74, 3) := by decide +kernel
theorem dX0_ofTwo_15 : decode cX0_ofTwo 15 = .ok (.ifCond .eq 7, 3) := by decide +kernel
theorem dX0_ofTwo_18 : decode cX0_ofTwo 18 = .ok (.lconst 1, 1) := by decide +kernel
theorem dX0_ofTwo_19 : decode cX0_ofTwo 19 = .ok (.goto 4, 3) := by decide +kernel
theorem dX0_ofTwo_22 : decode cX0_ofTwo 22 = .ok (.lconst 0, 1) := by decide +kernel
theorem dX0_ofTwo_23 : decode cX0_ofTwo 23 = .ok (.lreturn, 1) := by decide +kernel
theorem dX0_ofTwo_24 : decode cX0_ofTwo 24 = .ok (.iload_n 1, 1) := by decide +kernel
theorem dX0_ofTwo_25 : decode cX0_ofTwo 25 = .ok (.bipush 8, 2) := by decide +kernel
theorem dX0_ofTwo_27 : decode cX0_ofTwo 27 = .ok (.if_icmp .lt 18, 3) := by decide +kernel
theorem dX0_ofTwo_30 : decode cX0_ofTwo 30 = .ok (.iload_n 1, 1) := by decide +kernel
theorem dX0_ofTwo_31 : decode cX0_ofTwo 31 = .ok (.bipush 11, 2) := by decide +kernel
theorem dX0_ofTwo_33 : decode cX0_ofTwo 33 = .ok (.if_icmp .gt 12, 3) := by decide +kernel
theorem dX0_ofTwo_36 : decode cX0_ofTwo 36 = .ok (.iload_n 1, 1) := by decide +kernel
theorem dX0_ofTwo_37 : decode cX0_ofTwo 37 = .ok (.iload_n 2, 1) := by decide +kernel
theorem dX0_ofTwo_38 : decode cX0_ofTwo 38 = .ok (.lload_n 3, 1) := by decide +kernel
theorem dX0_ofTwo_39 : decode cX0_ofTwo 39 = .ok (.lload 5, 2) := by decide +kernel
theorem dX0_ofTwo_41 : decode cX0_ofTwo 41 = .ok (.invokestatic 78, 3) := by decide +kernel
theorem dX0_ofTwo_44 : decode cX0_ofTwo 44 = .ok (.lreturn, 1) := by decide +kernel
theorem dX0_ofTwo_45 : decode cX0_ofTwo 45 = .ok (.iload_n 1, 1) := by decide +kernel
theorem dX0_ofTwo_46 : decode cX0_ofTwo 46 = .ok (.bipush 22, 2) := by decide +kernel
theorem dX0_ofTwo_48 : decode cX0_ofTwo 48 = .ok (.if_icmp .ne 29, 3) := by decide +kernel
theorem dX0_ofTwo_51 : decode cX0_ofTwo 51 = .ok (.lload_n 3, 1) := by decide +kernel
theorem dX0_ofTwo_52 : decode cX0_ofTwo 52 = .ok (.iload_n 2, 1) := by decide +kernel
theorem dX0_ofTwo_53 : decode cX0_ofTwo 53 = .ok (.invokestatic 82, 3) := by decide +kernel
theorem dX0_ofTwo_56 : decode cX0_ofTwo 56 = .ok (.lstore 7, 2) := by decide +kernel
theorem dX0_ofTwo_58 : decode cX0_ofTwo 58 = .ok (.lload 5, 2) := by decide +kernel
theorem dX0_ofTwo_60 : decode cX0_ofTwo 60 = .ok (.lconst 0, 1) := by decide +kernel
theorem dX0_ofTwo_61 : decode cX0_ofTwo 61 = .ok (.lcmp, 1) := by decide +kernel
theorem dX0_ofTwo_62 : decode cX0_ofTwo 62 = .ok (.ifCond .ge 12, 3) := by decide +kernel
theorem dX0_ofTwo_65 : decode cX0_ofTwo 65 = .ok (.lload 7, 2) := by decide +kernel
theorem dX0_ofTwo_67 : decode cX0_ofTwo 67 = .ok (.iload_n 2, 1) := by decide +kernel
theorem dX0_ofTwo_68 : decode cX0_ofTwo 68 = .ok (.invokestatic 85, 3) := by decide +kernel
theorem dX0_ofTwo_71 : decode cX0_ofTwo 71 = .ok (.goto 5, 3) := by decide +kernel
theorem dX0_ofTwo_74 : decode cX0_ofTwo 74 = .ok (.lload 7, 2) := by decide +kernel
theorem dX0_ofTwo_76 : decode cX0_ofTwo 76 = .ok (.lreturn, 1) := by decide +kernel
theorem dX0_ofTwo_77 : decode cX0_ofTwo 77 = .ok (.iload_n 2, 1) := by decide +kernel
theorem dX0_ofTwo_78 : decode cX0_ofTwo 78 = .ok (.invokestatic 22, 3) := by decide +kernel
theorem dX0_ofTwo_81 : decode cX0_ofTwo 81 = .ok (.ifCond .eq 15, 3) := by decide +kernel
theorem dX0_ofTwo_84 : decode cX0_ofTwo 84 = .ok (.aload_n 0, 1) := by decide +kernel
theorem dX0_ofTwo_85 : decode cX0_ofTwo 85 = .ok (.iload_n 1, 1) := by decide +kernel
theorem dX0_ofTwo_86 : decode cX0_ofTwo 86 = .ok (.iload_n 2, 1) := by decide +kernel
theorem dX0_ofTwo_87 : decode cX0_ofTwo 87 = .ok (.lload_n 3, 1) := by decide +kernel
theorem dX0_ofTwo_88 : decode cX0_ofTwo 88 = .ok (.lload 5, 2) := by decide +kernel
theorem dX0_ofTwo_90 : decode cX0_ofTwo 90 = .ok (.invokevirtual 88, 3) := by decide +kernel
theorem dX0_ofTwo_93 : decode cX0_ofTwo 93 = .ok (.goto 15, 3) := by decide +kernel
theorem dX0_ofTwo_96 : decode cX0_ofTwo 96 = .ok (.iload_n 1, 1) := by decide +kernel
theorem dX0_ofTwo_97 : decode cX0_ofTwo 97 = .ok (.iload_n 2, 1) := by decide +kernel
theorem dX0_ofTwo_98 : decode cX0_ofTwo 98 = .ok (.lload_n 3, 1) := by decide +kernel
theorem dX0_ofTwo_99 : decode cX0_ofTwo 99 = .ok (.lload 5, 2) := by decide +kernel
theorem dX0_ofTwo_101 : decode cX0_ofTwo 101 = .ok (.invokestatic 91, 3) := by decide +kernel
theorem dX0_ofTwo_104 : decode cX0_ofTwo 104 = .ok (.iload_n 2, 1) := by decide +kernel
theorem dX0_ofTwo_105 : decode cX0_ofTwo 105 = .ok (.invokestatic 32, 3) := by decide +kernel
theorem dX0_ofTwo_108 : decode cX0_ofTwo 108 = .ok (.lreturn, 1) := by decide +kernel
theorem dX0_compares_0 : decode cX0_compares 0 = .ok (.lload_n 2, 1) := by decide +kernel
theorem dX0_compares_1 : decode cX0_compares 1 = .ok (.iload_n 1, 1) := by decide +kernel
theorem dX0_compares_2 : decode cX0_compares 2 = .ok (.invokestatic 94, 3) := by decide +kernel
theorem dX0_compares_5 : decode cX0_compares 5 = .ok (.ifCond .ne 12, 3) := by decide +kernel
theorem dX0_compares_8 : decode cX0_compares 8 = .ok (.lload 4, 2) := by decide +kernel
theorem dX0_compares_10 : decode cX0_compares 10 = .ok (.iload_n 1, 1) := by decide +kernel
theorem dX0_compares_11 : decode cX0_compares 11 = .ok (.invokestatic 94, 3) := by decide +kernel
theorem dX0_compares_14 : decode cX0_compares 14 = .ok (.ifCond .eq 15, 3) := by decide +kernel
theorem dX0_compares_17 : decode cX0_compares 17 = .ok (.iload_n 0, 1) := by decide +kernel
theorem dX0_compares_18 : decode cX0_compares 18 = .ok (.bipush 21, 2) := by decide +kernel
theorem dX0_compares_20 : decode cX0_compares 20 = .ok (.if_icmp .ne 7, 3) := by decide +kernel
theorem dX0_compares_23 : decode cX0_compares 23 = .ok (.iconst 1, 1) := by decide +kernel
theorem dX0_compares_24 : decode cX0_compares 24 = .ok (.goto 4, 3) := by decide +kernel
theorem dX0_compares_27 : decode cX0_compares 27 = .ok (.iconst 0, 1) := by decide +kernel
theorem dX0_compares_28 : decode cX0_compares 28 = .ok (.ireturn, 1) := by decide +kernel
theorem dX0_compares_29 : decode cX0_compares 29 = .ok (.lload_n 2, 1) := by decide +kernel
theorem dX0_compares_30 : decode cX0_compares 30 = .ok (.iload_n 1, 1) := by decide +kernel
theorem dX0_compares_31 : decode cX0_compares 31 = .ok (.invokestatic 28, 3) := by decide +kernel
theorem dX0_compares_34 : decode cX0_compares 34 = .ok (.ifCond .eq 7, 3) := by decide +kernel
theorem dX0_compares_37 : decode cX0_compares 37 = .ok (.lconst 0, 1) := by decide +kernel
theorem dX0_compares_38 : decode cX0_compares 38 = .ok (.goto 8, 3) := by decide +kernel
theorem dX0_compares_41 : decode cX0_compares 41 = .ok (.lload_n 2, 1) := by decide +kernel
theorem dX0_compares_42 : decode cX0_compares 42 = .ok (.iload_n 1, 1) := by decide +kernel
theorem dX0_compares_43 : decode cX0_compares 43 = .ok (.invokestatic 97, 3) := by decide +kernel
theorem dX0_compares_46 : decode cX0_compares 46 = .ok (.lstore 6, 2) := by decide +kernel
theorem dX0_compares_48 : decode cX0_compares 48 = .ok (.lload 4, 2) := by decide +kernel
theorem dX0_compares_50 : decode cX0_compares 50 = .ok (.iload_n 1, 1) := by decide +kernel
theorem dX0_compares_51 : decode cX0_compares 51 = .ok (.invokestatic 28, 3) := by decide +kernel
theorem dX0_compares_54 : decode cX0_compares 54 = .ok (.ifCond .eq 7, 3) := by decide +kernel
theorem dX0_compares_57 : decode cX0_compares 57 = .ok (.lconst 0, 1) := by decide +kernel
theorem dX0_compares_58 : decode cX0_compares 58 = .ok (.goto 9, 3) := by decide +kernel
theorem dX0_compares_61 : decode cX0_compares 61 = .ok (.lload 4, 2) := by decide +kernel
theorem dX0_compares_63 : decode cX0_compares 63 = .ok (.iload_n 1, 1) := by decide +kernel
theorem dX0_compares_64 : decode cX0_compares 64 = .ok (.invokestatic 97, 3) := by decide +kernel
theorem dX0_compares_67 : decode cX0_compares 67 = .ok (.lstore 8, 2) := by decide +kernel
theorem dX0_compares_69 : decode cX0_compares 69 = .ok (.iload_n 0, 1) := by decide +kernel
theorem dX0_compares_70 : decode cX0_compares 70 = .ok (.tableswitch 68 18 20 #[26, 40, 54], 26) := by decide +kernel
theorem dX0_compares_96 : decode cX0_compares 96 = .ok (.lload 6, 2) := by decide +kernel
theorem dX0_compares_98 : decode cX0_compares 98 = .ok (.lload 8, 2) := by decide +kernel
theorem dX0_compares_100 : decode cX0_compares 100 = .ok (.lcmp, 1) := by decide +kernel
theorem dX0_compares_101 : decode cX0_compares 101 = .ok (.ifCond .ge 7, 3) := by decide +kernel
theorem dX0_compares_104 : decode cX0_compares 104 = .ok (.iconst 1, 1) := by decide +kernel
theorem dX0_compares_105 : decode cX0_compares 105 = .ok (.goto 4, 3) := by decide +kernel
theorem dX0_compares_108 : decode cX0_compares 108 = .ok (.iconst 0, 1) := by decide +kernel
theorem dX0_compares_109 : decode cX0_compares 109 = .ok (.ireturn, 1) := by decide +kernel
theorem dX0_compares_110 : decode cX0_compares 110 = .ok (.lload 6, 2) := by decide +kernel
theorem dX0_compares_112 : decode cX0_compares 112 = .ok (.lload 8, 2) := by decide +kernel
theorem dX0_compares_114 : decode cX0_compares 114 = .ok (.lcmp, 1) := by decide +kernel
theorem dX0_compares_115 : decode cX0_compares 115 = .ok (.ifCond .gt 7, 3) := by decide +kernel
theorem dX0_compares_118 : decode cX0_compares 118 = .ok (.iconst 1, 1) := by decide +kernel
theorem dX0_compares_119 : decode cX0_compares 119 = .ok (.goto 4, 3) := by decide +kernel
theorem dX0_compares_122 : decode cX0_compares 122 = .ok (.iconst 0, 1) := by decide +kernel
theorem dX0_compares_123 : decode cX0_compares 123 = .ok (.ireturn, 1) := by decide +kernel
theorem dX0_compares_124 : decode cX0_compares 124 = .ok (.lload 6, 2) := by decide +kernel
theorem dX0_compares_126 : decode cX0_compares 126 = .ok (.lload 8, 2) := by decide +kernel
theorem dX0_compares_128 : decode cX0_compares 128 = .ok (.lcmp, 1) := by decide +kernel
theorem dX0_compares_129 : decode cX0_compares 129 = .ok (.ifCond .ne 7, 3) := by decide +kernel
theorem dX0_compares_132 : decode cX0_compares 132 = .ok (.iconst 1, 1) := by decide +kernel
theorem dX0_compares_133 : decode cX0_compares 133 = .ok (.goto 4, 3) := by decide +kernel
theorem dX0_compares_136 : decode cX0_compares 136 = .ok (.iconst 0, 1) := by decide +kernel
theorem dX0_compares_137 : decode cX0_compares 137 = .ok (.ireturn, 1) := by decide +kernel
theorem dX0_compares_138 : decode cX0_compares 138 = .ok (.lload 6, 2) := by decide +kernel
theorem dX0_compares_140 : decode cX0_compares 140 = .ok (.lload 8, 2) := by decide +kernel
theorem dX0_compares_142 : decode cX0_compares 142 = .ok (.lcmp, 1) := by decide +kernel
theorem dX0_compares_143 : decode cX0_compares 143 = .ok (.ifCond .eq 7, 3) := by decide +kernel
theorem dX0_compares_146 : decode cX0_compares 146 = .ok (.iconst 1, 1) := by decide +kernel
theorem dX0_compares_147 : decode cX0_compares 147 = .ok (.goto 4, 3) := by decide +kernel
theorem dX0_compares_150 : decode cX0_compares 150 = .ok (.iconst 0, 1) := by decide +kernel
theorem dX0_compares_151 : decode cX0_compares 151 = .ok (.ireturn, 1) := by decide +kernel
theorem dX0_chosen_0 : decode cX0_chosen 0 = .ok (.lload_n 2, 1) := by decide +kernel
theorem dX0_chosen_1 : decode cX0_chosen 1 = .ok (.iload_n 1, 1) := by decide +kernel
theorem dX0_chosen_2 : decode cX0_chosen 2 = .ok (.invokestatic 94, 3) := by decide +kernel
theorem dX0_chosen_5 : decode cX0_chosen 5 = .ok (.istore 6, 2) := by decide +kernel
theorem dX0_chosen_7 : decode cX0_chosen 7 = .ok (.iload 6, 2) := by decide +kernel
theorem dX0_chosen_9 : decode cX0_chosen 9 = .ok (.ifCond .ne 12, 3) := by decide +kernel
theorem dX0_chosen_12 : decode cX0_chosen 12 = .ok (.lload 4, 2) := by decide +kernel
theorem dX0_chosen_14 : decode cX0_chosen 14 = .ok (.iload_n 1, 1) := by decide +kernel
theorem dX0_chosen_15 : decode cX0_chosen 15 = .ok (.invokestatic 94, 3) := by decide +kernel
theorem dX0_chosen_18 : decode cX0_chosen 18 = .ok (.ifCond .eq 46, 3) := by decide +kernel
theorem dX0_chosen_21 : decode cX0_chosen 21 = .ok (.iload_n 0, 1) := by decide +kernel
theorem dX0_chosen_22 : decode cX0_chosen 22 = .ok (.bipush 10, 2) := by decide +kernel
theorem dX0_chosen_24 : decode cX0_chosen 24 = .ok (.if_icmp .eq 9, 3) := by decide +kernel
theorem dX0_chosen_27 : decode cX0_chosen 27 = .ok (.iload_n 0, 1) := by decide +kernel
theorem dX0_chosen_28 : decode cX0_chosen 28 = .ok (.bipush 11, 2) := by decide +kernel
theorem dX0_chosen_30 : decode cX0_chosen 30 = .ok (.if_icmp .ne 7, 3) := by decide +kernel
theorem dX0_chosen_33 : decode cX0_chosen 33 = .ok (.iconst 1, 1) := by decide +kernel
theorem dX0_chosen_34 : decode cX0_chosen 34 = .ok (.goto 4, 3) := by decide +kernel
theorem dX0_chosen_37 : decode cX0_chosen 37 = .ok (.iconst 0, 1) := by decide +kernel
theorem dX0_chosen_38 : decode cX0_chosen 38 = .ok (.istore 7, 2) := by decide +kernel
theorem dX0_chosen_40 : decode cX0_chosen 40 = .ok (.iload 7, 2) := by decide +kernel
theorem dX0_chosen_42 : decode cX0_chosen 42 = .ok (.ifCond .ne 10, 3) := by decide +kernel
theorem dX0_chosen_45 : decode cX0_chosen 45 = .ok (.iload_n 1, 1) := by decide +kernel
theorem dX0_chosen_46 : decode cX0_chosen 46 = .ok (.invokestatic 100, 3) := by decide +kernel
theorem dX0_chosen_49 : decode cX0_chosen 49 = .ok (.goto 14, 3) := by decide +kernel
theorem dX0_chosen_52 : decode cX0_chosen 52 = .ok (.iload 6, 2) := by decide +kernel
theorem dX0_chosen_54 : decode cX0_chosen 54 = .ok (.ifCond .eq 8, 3) := by decide +kernel
theorem dX0_chosen_57 : decode cX0_chosen 57 = .ok (.lload 4, 2) := by decide +kernel
theorem dX0_chosen_59 : decode cX0_chosen 59 = .ok (.goto 4, 3) := by decide +kernel
theorem dX0_chosen_62 : decode cX0_chosen 62 = .ok (.lload_n 2, 1) := by decide +kernel
theorem dX0_chosen_63 : decode cX0_chosen 63 = .ok (.lreturn, 1) := by decide +kernel
theorem dX0_chosen_64 : decode cX0_chosen 64 = .ok (.iload_n 0, 1) := by decide +kernel
theorem dX0_chosen_65 : decode cX0_chosen 65 = .ok (.bipush 8, 2) := by decide +kernel
theorem dX0_chosen_67 : decode cX0_chosen 67 = .ok (.if_icmp .eq 9, 3) := by decide +kernel
theorem dX0_chosen_70 : decode cX0_chosen 70 = .ok (.iload_n 0, 1) := by decide +kernel
theorem dX0_chosen_71 : decode cX0_chosen 71 = .ok (.bipush 10, 2) := by decide +kernel
theorem dX0_chosen_73 : decode cX0_chosen 73 = .ok (.if_icmp .ne 7, 3) := by decide +kernel
theorem dX0_chosen_76 : decode cX0_chosen 76 = .ok (.iconst 1, 1) := by decide +kernel
theorem dX0_chosen_77 : decode cX0_chosen 77 = .ok (.goto 4, 3) := by decide +kernel
theorem dX0_chosen_80 : decode cX0_chosen 80 = .ok (.iconst 0, 1) := by decide +kernel
theorem dX0_chosen_81 : decode cX0_chosen 81 = .ok (.istore 7, 2) := by decide +kernel
theorem dX0_chosen_83 : decode cX0_chosen 83 = .ok (.lload_n 2, 1) := by decide +kernel
theorem dX0_chosen_84 : decode cX0_chosen 84 = .ok (.iload_n 1, 1) := by decide +kernel
theorem dX0_chosen_85 : decode cX0_chosen 85 = .ok (.invokestatic 97, 3) := by decide +kernel
theorem dX0_chosen_88 : decode cX0_chosen 88 = .ok (.lload 4, 2) := by decide +kernel
theorem dX0_chosen_90 : decode cX0_chosen 90 = .ok (.iload_n 1, 1) := by decide +kernel
theorem dX0_chosen_91 : decode cX0_chosen 91 = .ok (.invokestatic 97, 3) := by decide +kernel
theorem dX0_chosen_94 : decode cX0_chosen 94 = .ok (.lcmp, 1) := by decide +kernel
theorem dX0_chosen_95 : decode cX0_chosen 95 = .ok (.ifCond .ge 7, 3) := by decide +kernel
theorem dX0_chosen_98 : decode cX0_chosen 98 = .ok (.iconst 1, 1) := by decide +kernel
theorem dX0_chosen_99 : decode cX0_chosen 99 = .ok (.goto 4, 3) := by decide +kernel
theorem dX0_chosen_102 : decode cX0_chosen 102 = .ok (.iconst 0, 1) := by decide +kernel
theorem dX0_chosen_103 : decode cX0_chosen 103 = .ok (.istore 8, 2) := by decide +kernel
theorem dX0_chosen_105 : decode cX0_chosen 105 = .ok (.iload 7, 2) := by decide +kernel
theorem dX0_chosen_107 : decode cX0_chosen 107 = .ok (.iload 8, 2) := by decide +kernel
theorem dX0_chosen_109 : decode cX0_chosen 109 = .ok (.if_icmp .ne 7, 3) := by decide +kernel
theorem dX0_chosen_112 : decode cX0_chosen 112 = .ok (.lload_n 2, 1) := by decide +kernel
theorem dX0_chosen_113 : decode cX0_chosen 113 = .ok (.goto 5, 3) := by decide +kernel
theorem dX0_chosen_116 : decode cX0_chosen 116 = .ok (.lload 4, 2) := by decide +kernel
theorem dX0_chosen_118 : decode cX0_chosen 118 = .ok (.lreturn, 1) := by decide +kernel
theorem dX0_rankOf_0 : decode cX0_rankOf 0 = .ok (.lload_n 0, 1) := by decide +kernel
theorem dX0_rankOf_1 : decode cX0_rankOf 1 = .ok (.lconst 0, 1) := by decide +kernel
theorem dX0_rankOf_2 : decode cX0_rankOf 2 = .ok (.lcmp, 1) := by decide +kernel
theorem dX0_rankOf_3 : decode cX0_rankOf 3 = .ok (.ifCond .ge 18, 3) := by decide +kernel
theorem dX0_rankOf_6 : decode cX0_rankOf 6 = .ok (.iload_n 2, 1) := by decide +kernel
theorem dX0_rankOf_7 : decode cX0_rankOf 7 = .ok (.invokestatic 22, 3) := by decide +kernel
theorem dX0_rankOf_10 : decode cX0_rankOf 10 = .ok (.ifCond .eq 11, 3) := by decide +kernel
theorem dX0_rankOf_13 : decode cX0_rankOf 13 = .ok (.lload_n 0, 1) := by decide +kernel
theorem dX0_rankOf_14 : decode cX0_rankOf 14 = .ok (.ldc2_w 105, 3) := by decide +kernel
theorem dX0_rankOf_17 : decode cX0_rankOf 17 = .ok (.lxor, 1) := by decide +kernel
theorem dX0_rankOf_18 : decode cX0_rankOf 18 = .ok (.goto 4, 3) := by decide +kernel
theorem dX0_rankOf_21 : decode cX0_rankOf 21 = .ok (.lload_n 0, 1) := by decide +kernel
theorem dX0_rankOf_22 : decode cX0_rankOf 22 = .ok (.lreturn, 1) := by decide +kernel
theorem dX0_negativeOf_0 : decode cX0_negativeOf 0 = .ok (.lload_n 0, 1) := by decide +kernel
theorem dX0_negativeOf_1 : decode cX0_negativeOf 1 = .ok (.iload_n 2, 1) := by decide +kernel
theorem dX0_negativeOf_2 : decode cX0_negativeOf 2 = .ok (.invokestatic 94, 3) := by decide +kernel
theorem dX0_negativeOf_5 : decode cX0_negativeOf 5 = .ok (.ifCond .eq 5, 3) := by decide +kernel
theorem dX0_negativeOf_8 : decode cX0_negativeOf 8 = .ok (.lload_n 0, 1) := by decide +kernel
theorem dX0_negativeOf_9 : decode cX0_negativeOf 9 = .ok (.lreturn, 1) := by decide +kernel
theorem dX0_negativeOf_10 : decode cX0_negativeOf 10 = .ok (.iload_n 2, 1) := by decide +kernel
theorem dX0_negativeOf_11 : decode cX0_negativeOf 11 = .ok (.lookupswitch 38 #[(4, 25), (5, 32)], 25) := by decide +kernel
theorem dX0_negativeOf_36 : decode cX0_negativeOf 36 = .ok (.lload_n 0, 1) := by decide +kernel
theorem dX0_negativeOf_37 : decode cX0_negativeOf 37 = .ok (.l2i, 1) := by decide +kernel
theorem dX0_negativeOf_38 : decode cX0_negativeOf 38 = .ok (.ldc 107, 2) := by decide +kernel
theorem dX0_negativeOf_40 : decode cX0_negativeOf 40 = .ok (.ixor, 1) := by decide +kernel
theorem dX0_negativeOf_41 : decode cX0_negativeOf 41 = .ok (.i2l, 1) := by decide +kernel
theorem dX0_negativeOf_42 : decode cX0_negativeOf 42 = .ok (.lreturn, 1) := by decide +kernel
theorem dX0_negativeOf_43 : decode cX0_negativeOf 43 = .ok (.lload_n 0, 1) := by decide +kernel
theorem dX0_negativeOf_44 : decode cX0_negativeOf 44 = .ok (.ldc2_w 108, 3) := by decide +kernel
theorem dX0_negativeOf_47 : decode cX0_negativeOf 47 = .ok (.lxor, 1) := by decide +kernel
theorem dX0_negativeOf_48 : decode cX0_negativeOf 48 = .ok (.lreturn, 1) := by decide +kernel
theorem dX0_negativeOf_49 : decode cX0_negativeOf 49 = .ok (.lload_n 0, 1) := by decide +kernel
theorem dX0_negativeOf_50 : decode cX0_negativeOf 50 = .ok (.lneg, 1) := by decide +kernel
theorem dX0_negativeOf_51 : decode cX0_negativeOf 51 = .ok (.iload_n 2, 1) := by decide +kernel
theorem dX0_negativeOf_52 : decode cX0_negativeOf 52 = .ok (.invokestatic 32, 3) := by decide +kernel
theorem dX0_negativeOf_55 : decode cX0_negativeOf 55 = .ok (.lreturn, 1) := by decide +kernel
theorem dX0_sizeOf_0 : decode cX0_sizeOf 0 = .ok (.lload_n 0, 1) := by decide +kernel
theorem dX0_sizeOf_1 : decode cX0_sizeOf 1 = .ok (.lconst 0, 1) := by decide +kernel
theorem dX0_sizeOf_2 : decode cX0_sizeOf 2 = .ok (.lcmp, 1) := by decide +kernel
theorem dX0_sizeOf_3 : decode cX0_sizeOf 3 = .ok (.ifCond .ge 11, 3) := by decide +kernel
theorem dX0_sizeOf_6 : decode cX0_sizeOf 6 = .ok (.lload_n 0, 1) := by decide +kernel
theorem dX0_sizeOf_7 : decode cX0_sizeOf 7 = .ok (.iload_n 2, 1) := by decide +kernel
theorem dX0_sizeOf_8 : decode cX0_sizeOf 8 = .ok (.invokestatic 85, 3) := by decide +kernel
theorem dX0_sizeOf_11 : decode cX0_sizeOf 11 = .ok (.goto 4, 3) := by decide +kernel
theorem dX0_sizeOf_14 : decode cX0_sizeOf 14 = .ok (.lload_n 0, 1) := by decide +kernel
theorem dX0_sizeOf_15 : decode cX0_sizeOf 15 = .ok (.lreturn, 1) := by decide +kernel
theorem dX0_signOf_0 : decode cX0_signOf 0 = .ok (.lload_n 0, 1) := by decide +kernel
theorem dX0_signOf_1 : decode cX0_signOf 1 = .ok (.iload_n 2, 1) := by decide +kernel
theorem dX0_signOf_2 : decode cX0_signOf 2 = .ok (.invokestatic 94, 3) := by decide +kernel
theorem dX0_signOf_5 : decode cX0_signOf 5 = .ok (.ifCond .ne 11, 3) := by decide +kernel
theorem dX0_signOf_8 : decode cX0_signOf 8 = .ok (.lload_n 0, 1) := by decide +kernel
theorem dX0_signOf_9 : decode cX0_signOf 9 = .ok (.iload_n 2, 1) := by decide +kernel
theorem dX0_signOf_10 : decode cX0_signOf 10 = .ok (.invokestatic 28, 3) := by decide +kernel
theorem dX0_signOf_13 : decode cX0_signOf 13 = .ok (.ifCond .eq 5, 3) := by decide +kernel
theorem dX0_signOf_16 : decode cX0_signOf 16 = .ok (.lload_n 0, 1) := by decide +kernel
theorem dX0_signOf_17 : decode cX0_signOf 17 = .ok (.lreturn, 1) := by decide +kernel
theorem dX0_signOf_18 : decode cX0_signOf 18 = .ok (.iload_n 2, 1) := by decide +kernel
theorem dX0_signOf_19 : decode cX0_signOf 19 = .ok (.iconst 4, 1) := by decide +kernel
theorem dX0_signOf_20 : decode cX0_signOf 20 = .ok (.if_icmp .ne 9, 3) := by decide +kernel
theorem dX0_signOf_23 : decode cX0_signOf 23 = .ok (.ldc2_w 110, 3) := by decide +kernel
theorem dX0_signOf_26 : decode cX0_signOf 26 = .ok (.goto 15, 3) := by decide +kernel
theorem dX0_signOf_29 : decode cX0_signOf 29 = .ok (.iload_n 2, 1) := by decide +kernel
theorem dX0_signOf_30 : decode cX0_signOf 30 = .ok (.iconst 5, 1) := by decide +kernel
theorem dX0_signOf_31 : decode cX0_signOf 31 = .ok (.if_icmp .ne 9, 3) := by decide +kernel
theorem dX0_signOf_34 : decode cX0_signOf 34 = .ok (.ldc2_w 112, 3) := by decide +kernel
theorem dX0_signOf_37 : decode cX0_signOf 37 = .ok (.goto 4, 3) := by decide +kernel
theorem dX0_signOf_40 : decode cX0_signOf 40 = .ok (.lconst 1, 1) := by decide +kernel
theorem dX0_signOf_41 : decode cX0_signOf 41 = .ok (.lstore_n 3, 1) := by decide +kernel
theorem dX0_signOf_42 : decode cX0_signOf 42 = .ok (.lload_n 0, 1) := by decide +kernel
theorem dX0_signOf_43 : decode cX0_signOf 43 = .ok (.lconst 0, 1) := by decide +kernel
theorem dX0_signOf_44 : decode cX0_signOf 44 = .ok (.lcmp, 1) := by decide +kernel
theorem dX0_signOf_45 : decode cX0_signOf 45 = .ok (.ifCond .ge 11, 3) := by decide +kernel
theorem dX0_signOf_48 : decode cX0_signOf 48 = .ok (.lload_n 3, 1) := by decide +kernel
theorem dX0_signOf_49 : decode cX0_signOf 49 = .ok (.iload_n 2, 1) := by decide +kernel
theorem dX0_signOf_50 : decode cX0_signOf 50 = .ok (.invokestatic 85, 3) := by decide +kernel
theorem dX0_signOf_53 : decode cX0_signOf 53 = .ok (.goto 4, 3) := by decide +kernel
theorem dX0_signOf_56 : decode cX0_signOf 56 = .ok (.lload_n 3, 1) := by decide +kernel
theorem dX0_signOf_57 : decode cX0_signOf 57 = .ok (.lreturn, 1) := by decide +kernel
theorem dX0_ofWholes_0 : decode cX0_ofWholes 0 = .ok (.lload 4, 2) := by decide +kernel
theorem dX0_ofWholes_2 : decode cX0_ofWholes 2 = .ok (.l2i, 1) := by decide +kernel
theorem dX0_ofWholes_3 : decode cX0_ofWholes 3 = .ok (.iload_n 1, 1) := by decide +kernel
theorem dX0_ofWholes_4 : decode cX0_ofWholes 4 = .ok (.iconst 1, 1) := by decide +kernel
theorem dX0_ofWholes_5 : decode cX0_ofWholes 5 = .ok (.if_icmp .ne 8, 3) := by decide +kernel
theorem dX0_ofWholes_8 : decode cX0_ofWholes 8 = .ok (.bipush 7, 2) := by decide +kernel
theorem dX0_ofWholes_10 : decode cX0_ofWholes 10 = .ok (.goto 15, 3) := by decide +kernel
theorem dX0_ofWholes_13 : decode cX0_ofWholes 13 = .ok (.iload_n 1, 1) := by decide +kernel
theorem dX0_ofWholes_14 : decode cX0_ofWholes 14 = .ok (.iconst 2, 1) := by decide +kernel
theorem dX0_ofWholes_15 : decode cX0_ofWholes 15 = .ok (.if_icmp .ne 8, 3) := by decide +kernel
theorem dX0_ofWholes_18 : decode cX0_ofWholes 18 = .ok (.bipush 31, 2) := by decide +kernel
theorem dX0_ofWholes_20 : decode cX0_ofWholes 20 = .ok (.goto 5, 3) := by decide +kernel
theorem dX0_ofWholes_23 : decode cX0_ofWholes 23 = .ok (.bipush 63, 2) := by decide +kernel
theorem dX0_ofWholes_25 : decode cX0_ofWholes 25 = .ok (.iand, 1) := by decide +kernel
theorem dX0_ofWholes_26 : decode cX0_ofWholes 26 = .ok (.istore 6, 2) := by decide +kernel
theorem dX0_ofWholes_28 : decode cX0_ofWholes 28 = .ok (.iload_n 0, 1) := by decide +kernel
theorem dX0_ofWholes_29 : decode cX0_ofWholes 29 = .ok (.tableswitch 191 0 16 #[83, 88, 93, 191, 98, 114, 132, 148, 191, 191, 191, 191, 166, 171, 176, 181, 186], 83) := by decide +kernel
theorem dX0_ofWholes_112 : decode cX0_ofWholes 112 = .ok (.lload_n 2, 1) := by decide +kernel
theorem dX0_ofWholes_113 : decode cX0_ofWholes 113 = .ok (.lload 4, 2) := by decide +kernel
theorem dX0_ofWholes_115 : decode cX0_ofWholes 115 = .ok (.ladd, 1) := by decide +kernel
theorem dX0_ofWholes_116 : decode cX0_ofWholes 116 = .ok (.lreturn, 1) := by decide +kernel
theorem dX0_ofWholes_117 : decode cX0_ofWholes 117 = .ok (.lload_n 2, 1) := by decide +kernel
theorem dX0_ofWholes_118 : decode cX0_ofWholes 118 = .ok (.lload 4, 2) := by decide +kernel
theorem dX0_ofWholes_120 : decode cX0_ofWholes 120 = .ok (.lsub, 1) := by decide +kernel
theorem dX0_ofWholes_121 : decode cX0_ofWholes 121 = .ok (.lreturn, 1) := by decide +kernel
theorem dX0_ofWholes_122 : decode cX0_ofWholes 122 = .ok (.lload_n 2, 1) := by decide +kernel
theorem dX0_ofWholes_123 : decode cX0_ofWholes 123 = .ok (.lload 4, 2) := by decide +kernel
theorem dX0_ofWholes_125 : decode cX0_ofWholes 125 = .ok (.lmul, 1) := by decide +kernel
theorem dX0_ofWholes_126 : decode cX0_ofWholes 126 = .ok (.lreturn, 1) := by decide +kernel
theorem dX0_ofWholes_127 : decode cX0_ofWholes 127 = .ok (.lload 4, 2) := by decide +kernel
theorem dX0_ofWholes_129 : decode cX0_ofWholes 129 = .ok (.lconst 0, 1) := by decide +kernel
theorem dX0_ofWholes_130 : decode cX0_ofWholes 130 = .ok (.lcmp, 1) := by decide +kernel
theorem dX0_ofWholes_131 : decode cX0_ofWholes 131 = .ok (.ifCond .ne 7, 3) := by decide +kernel
theorem dX0_ofWholes_134 : decode cX0_ofWholes 134 = .ok (.lconst 0, 1) := by decide +kernel
theorem dX0_ofWholes_135 : decode cX0_ofWholes 135 = .ok (.goto 7, 3) := by decide +kernel
theorem dX0_ofWholes_138 : decode cX0_ofWholes 138 = .ok (.lload_n 2, 1) := by decide +kernel
theorem dX0_ofWholes_139 : decode cX0_ofWholes 139 = .ok (.lload 4, 2) := by decide +kernel
theorem dX0_ofWholes_141 : decode cX0_ofWholes 141 = .ok (.ldiv, 1) := by decide +kernel
theorem dX0_ofWholes_142 : decode cX0_ofWholes 142 = .ok (.lreturn, 1) := by decide +kernel
theorem dX0_ofWholes_143 : decode cX0_ofWholes 143 = .ok (.lload 4, 2) := by decide +kernel
theorem dX0_ofWholes_145 : decode cX0_ofWholes 145 = .ok (.lconst 0, 1) := by decide +kernel
theorem dX0_ofWholes_146 : decode cX0_ofWholes 146 = .ok (.lcmp, 1) := by decide +kernel
theorem dX0_ofWholes_147 : decode cX0_ofWholes 147 = .ok (.ifCond .ne 7, 3) := by decide +kernel
theorem dX0_ofWholes_150 : decode cX0_ofWholes 150 = .ok (.lconst 0, 1) := by decide +kernel
theorem dX0_ofWholes_151 : decode cX0_ofWholes 151 = .ok (.goto 9, 3) := by decide +kernel
theorem dX0_ofWholes_154 : decode cX0_ofWholes 154 = .ok (.lload_n 2, 1) := by decide +kernel
theorem dX0_ofWholes_155 : decode cX0_ofWholes 155 = .ok (.lload 4, 2) := by decide +kernel
theorem dX0_ofWholes_157 : decode cX0_ofWholes 157 = .ok (.invokestatic 114, 3) := by decide +kernel
theorem dX0_ofWholes_160 : decode cX0_ofWholes 160 = .ok (.lreturn, 1) := by decide +kernel
theorem dX0_ofWholes_161 : decode cX0_ofWholes 161 = .ok (.lload 4, 2) := by decide +kernel
theorem dX0_ofWholes_163 : decode cX0_ofWholes 163 = .ok (.lconst 0, 1) := by decide +kernel
theorem dX0_ofWholes_164 : decode cX0_ofWholes 164 = .ok (.lcmp, 1) := by decide +kernel
theorem dX0_ofWholes_165 : decode cX0_ofWholes 165 = .ok (.ifCond .ne 7, 3) := by decide +kernel
theorem dX0_ofWholes_168 : decode cX0_ofWholes 168 = .ok (.lconst 0, 1) := by decide +kernel
theorem dX0_ofWholes_169 : decode cX0_ofWholes 169 = .ok (.goto 7, 3) := by decide +kernel
theorem dX0_ofWholes_172 : decode cX0_ofWholes 172 = .ok (.lload_n 2, 1) := by decide +kernel
theorem dX0_ofWholes_173 : decode cX0_ofWholes 173 = .ok (.lload 4, 2) := by decide +kernel
theorem dX0_ofWholes_175 : decode cX0_ofWholes 175 = .ok (.lrem, 1) := by decide +kernel
theorem dX0_ofWholes_176 : decode cX0_ofWholes 176 = .ok (.lreturn, 1) := by decide +kernel
theorem dX0_ofWholes_177 : decode cX0_ofWholes 177 = .ok (.lload 4, 2) := by decide +kernel
theorem dX0_ofWholes_179 : decode cX0_ofWholes 179 = .ok (.lconst 0, 1) := by decide +kernel
theorem dX0_ofWholes_180 : decode cX0_ofWholes 180 = .ok (.lcmp, 1) := by decide +kernel
theorem dX0_ofWholes_181 : decode cX0_ofWholes 181 = .ok (.ifCond .ne 7, 3) := by decide +kernel
theorem dX0_ofWholes_184 : decode cX0_ofWholes 184 = .ok (.lconst 0, 1) := by decide +kernel
theorem dX0_ofWholes_185 : decode cX0_ofWholes 185 = .ok (.goto 9, 3) := by decide +kernel
theorem dX0_ofWholes_188 : decode cX0_ofWholes 188 = .ok (.lload_n 2, 1) := by decide +kernel
theorem dX0_ofWholes_189 : decode cX0_ofWholes 189 = .ok (.lload 4, 2) := by decide +kernel
theorem dX0_ofWholes_191 : decode cX0_ofWholes 191 = .ok (.invokestatic 117, 3) := by decide +kernel
theorem dX0_ofWholes_194 : decode cX0_ofWholes 194 = .ok (.lreturn, 1) := by decide +kernel
theorem dX0_ofWholes_195 : decode cX0_ofWholes 195 = .ok (.lload_n 2, 1) := by decide +kernel
theorem dX0_ofWholes_196 : decode cX0_ofWholes 196 = .ok (.lload 4, 2) := by decide +kernel
theorem dX0_ofWholes_198 : decode cX0_ofWholes 198 = .ok (.land, 1) := by decide +kernel
theorem dX0_ofWholes_199 : decode cX0_ofWholes 199 = .ok (.lreturn, 1) := by decide +kernel
theorem dX0_ofWholes_200 : decode cX0_ofWholes 200 = .ok (.lload_n 2, 1) := by decide +kernel
theorem dX0_ofWholes_201 : decode cX0_ofWholes 201 = .ok (.lload 4, 2) := by decide +kernel
theorem dX0_ofWholes_203 : decode cX0_ofWholes 203 = .ok (.lor, 1) := by decide +kernel
theorem dX0_ofWholes_204 : decode cX0_ofWholes 204 = .ok (.lreturn, 1) := by decide +kernel
theorem dX0_ofWholes_205 : decode cX0_ofWholes 205 = .ok (.lload_n 2, 1) := by decide +kernel
theorem dX0_ofWholes_206 : decode cX0_ofWholes 206 = .ok (.lload 4, 2) := by decide +kernel
theorem dX0_ofWholes_208 : decode cX0_ofWholes 208 = .ok (.lxor, 1) := by decide +kernel
theorem dX0_ofWholes_209 : decode cX0_ofWholes 209 = .ok (.lreturn, 1) := by decide +kernel
theorem dX0_ofWholes_210 : decode cX0_ofWholes 210 = .ok (.lload_n 2, 1) := by decide +kernel
theorem dX0_ofWholes_211 : decode cX0_ofWholes 211 = .ok (.iload 6, 2) := by decide +kernel
theorem dX0_ofWholes_213 : decode cX0_ofWholes 213 = .ok (.lshl, 1) := by decide +kernel
theorem dX0_ofWholes_214 : decode cX0_ofWholes 214 = .ok (.lreturn, 1) := by decide +kernel
theorem dX0_ofWholes_215 : decode cX0_ofWholes 215 = .ok (.lload_n 2, 1) := by decide +kernel
theorem dX0_ofWholes_216 : decode cX0_ofWholes 216 = .ok (.iload 6, 2) := by decide +kernel
theorem dX0_ofWholes_218 : decode cX0_ofWholes 218 = .ok (.lshr, 1) := by decide +kernel
theorem dX0_ofWholes_219 : decode cX0_ofWholes 219 = .ok (.lreturn, 1) := by decide +kernel
theorem dX0_ofWholes_220 : decode cX0_ofWholes 220 = .ok (.lload_n 2, 1) := by decide +kernel
theorem dX0_ofWholes_221 : decode cX0_ofWholes 221 = .ok (.iload_n 1, 1) := by decide +kernel
theorem dX0_ofWholes_222 : decode cX0_ofWholes 222 = .ok (.invokestatic 120, 3) := by decide +kernel
theorem dX0_ofWholes_225 : decode cX0_ofWholes 225 = .ok (.iload 6, 2) := by decide +kernel
theorem dX0_ofWholes_227 : decode cX0_ofWholes 227 = .ok (.lushr, 1) := by decide +kernel
theorem dX0_ofWholes_228 : decode cX0_ofWholes 228 = .ok (.lreturn, 1) := by decide +kernel
theorem dX0_withoutSign_0 : decode cX0_withoutSign 0 = .ok (.iload_n 2, 1) := by decide +kernel
theorem dX0_withoutSign_1 : decode cX0_withoutSign 1 = .ok (.iconst 1, 1) := by decide +kernel
theorem dX0_withoutSign_2 : decode cX0_withoutSign 2 = .ok (.if_icmp .ne 11, 3) := by decide +kernel
theorem dX0_withoutSign_5 : decode cX0_withoutSign 5 = .ok (.lload_n 0, 1) := by decide +kernel
theorem dX0_withoutSign_6 : decode cX0_withoutSign 6 = .ok (.ldc2_w 123, 3) := by decide +kernel
theorem dX0_withoutSign_9 : decode cX0_withoutSign 9 = .ok (.land, 1) := by decide +kernel
theorem dX0_withoutSign_10 : decode cX0_withoutSign 10 = .ok (.goto 17, 3) := by decide +kernel
theorem dX0_withoutSign_13 : decode cX0_withoutSign 13 = .ok (.iload_n 2, 1) := by decide +kernel
theorem dX0_withoutSign_14 : decode cX0_withoutSign 14 = .ok (.iconst 2, 1) := by decide +kernel
theorem dX0_withoutSign_15 : decode cX0_withoutSign 15 = .ok (.if_icmp .ne 11, 3) := by decide +kernel
theorem dX0_withoutSign_18 : decode cX0_withoutSign 18 = .ok (.lload_n 0, 1) := by decide +kernel
theorem dX0_withoutSign_19 : decode cX0_withoutSign 19 = .ok (.ldc2_w 125, 3) := by decide +kernel
theorem dX0_withoutSign_22 : decode cX0_withoutSign 22 = .ok (.land, 1) := by decide +kernel
theorem dX0_withoutSign_23 : decode cX0_withoutSign 23 = .ok (.goto 4, 3) := by decide +kernel
theorem dX0_withoutSign_26 : decode cX0_withoutSign 26 = .ok (.lload_n 0, 1) := by decide +kernel
theorem dX0_withoutSign_27 : decode cX0_withoutSign 27 = .ok (.lreturn, 1) := by decide +kernel
theorem dX0_ofReals_0 : decode cX0_ofReals 0 = .ok (.aload_n 0, 1) := by decide +kernel
theorem dX0_ofReals_1 : decode cX0_ofReals 1 = .ok (.getfield 10, 3) := by decide +kernel
theorem dX0_ofReals_4 : decode cX0_ofReals 4 = .ok (.lload_n 3, 1) := by decide +kernel
theorem dX0_ofReals_5 : decode cX0_ofReals 5 = .ok (.iload_n 2, 1) := by decide +kernel
theorem dX0_ofReals_6 : decode cX0_ofReals 6 = .ok (.invokevirtual 36, 3) := by decide +kernel
theorem dX0_ofReals_9 : decode cX0_ofReals 9 = .ok (.aload_n 0, 1) := by decide +kernel
theorem dX0_ofReals_10 : decode cX0_ofReals 10 = .ok (.getfield 16, 3) := by decide +kernel
theorem dX0_ofReals_13 : decode cX0_ofReals 13 = .ok (.lload 5, 2) := by decide +kernel
theorem dX0_ofReals_15 : decode cX0_ofReals 15 = .ok (.iload_n 2, 1) := by decide +kernel
theorem dX0_ofReals_16 : decode cX0_ofReals 16 = .ok (.invokevirtual 36, 3) := by decide +kernel
theorem dX0_ofReals_19 : decode cX0_ofReals 19 = .ok (.iload_n 1, 1) := by decide +kernel
theorem dX0_ofReals_20 : decode cX0_ofReals 20 = .ok (.tableswitch 208 0 6 #[44, 62, 102, 120, 138, 138, 190], 44) := by decide +kernel
theorem dX0_ofReals_64 : decode cX0_ofReals 64 = .ok (.aload_n 0, 1) := by decide +kernel
theorem dX0_ofReals_65 : decode cX0_ofReals 65 = .ok (.getfield 19, 3) := by decide +kernel
theorem dX0_ofReals_68 : decode cX0_ofReals 68 = .ok (.aload_n 0, 1) := by decide +kernel
theorem dX0_ofReals_69 : decode cX0_ofReals 69 = .ok (.getfield 10, 3) := by decide +kernel
theorem dX0_ofReals_72 : decode cX0_ofReals 72 = .ok (.aload_n 0, 1) := by decide +kernel
theorem dX0_ofReals_73 : decode cX0_ofReals 73 = .ok (.getfield 16, 3) := by decide +kernel
theorem dX0_ofReals_76 : decode cX0_ofReals 76 = .ok (.invokevirtual 127, 3) := by decide +kernel
theorem dX0_ofReals_79 : decode cX0_ofReals 79 = .ok (.goto 218, 3) := by decide +kernel
theorem dX0_ofReals_82 : decode cX0_ofReals 82 = .ok (.aload_n 0, 1) := by decide +kernel
theorem dX0_ofReals_83 : decode cX0_ofReals 83 = .ok (.getfield 16, 3) := by decide +kernel
theorem dX0_ofReals_86 : decode cX0_ofReals 86 = .ok (.aload_n 0, 1) := by decide +kernel
theorem dX0_ofReals_87 : decode cX0_ofReals 87 = .ok (.getfield 16, 3) := by decide +kernel
theorem dX0_ofReals_90 : decode cX0_ofReals 90 = .ok (.getfield 131, 3) := by decide +kernel
theorem dX0_ofReals_93 : decode cX0_ofReals 93 = .ok (.ifCond .ne 7, 3) := by decide +kernel
theorem dX0_ofReals_96 : decode cX0_ofReals 96 = .ok (.iconst 1, 1) := by decide +kernel
theorem dX0_ofReals_97 : decode cX0_ofReals 97 = .ok (.goto 4, 3) := by decide +kernel
theorem dX0_ofReals_100 : decode cX0_ofReals 100 = .ok (.iconst 0, 1) := by decide +kernel
theorem dX0_ofReals_101 : decode cX0_ofReals 101 = .ok (.putfield 131, 3) := by decide +kernel
theorem dX0_ofReals_104 : decode cX0_ofReals 104 = .ok (.aload_n 0, 1) := by decide +kernel
theorem dX0_ofReals_105 : decode cX0_ofReals 105 = .ok (.getfield 19, 3) := by decide +kernel
theorem dX0_ofReals_108 : decode cX0_ofReals 108 = .ok (.aload_n 0, 1) := by decide +kernel
theorem dX0_ofReals_109 : decode cX0_ofReals 109 = .ok (.getfield 10, 3) := by decide +kernel
theorem dX0_ofReals_112 : decode cX0_ofReals 112 = .ok (.aload_n 0, 1) := by decide +kernel
theorem dX0_ofReals_113 : decode cX0_ofReals 113 = .ok (.getfield 16, 3) := by decide +kernel
theorem dX0_ofReals_116 : decode cX0_ofReals 116 = .ok (.invokevirtual 127, 3) := by decide +kernel
theorem dX0_ofReals_119 : decode cX0_ofReals 119 = .ok (.goto 178, 3) := by decide +kernel
theorem dX0_ofReals_122 : decode cX0_ofReals 122 = .ok (.aload_n 0, 1) := by decide +kernel
theorem dX0_ofReals_123 : decode cX0_ofReals 123 = .ok (.getfield 19, 3) := by decide +kernel
theorem dX0_ofReals_126 : decode cX0_ofReals 126 = .ok (.aload_n 0, 1) := by decide +kernel
theorem dX0_ofReals_127 : decode cX0_ofReals 127 = .ok (.getfield 10, 3) := by decide +kernel
theorem dX0_ofReals_130 : decode cX0_ofReals 130 = .ok (.aload_n 0, 1) := by decide +kernel
theorem dX0_ofReals_131 : decode cX0_ofReals 131 = .ok (.getfield 16, 3) := by decide +kernel
theorem dX0_ofReals_134 : decode cX0_ofReals 134 = .ok (.invokevirtual 135, 3) := by decide +kernel
theorem dX0_ofReals_137 : decode cX0_ofReals 137 = .ok (.goto 160, 3) := by decide +kernel
theorem dX0_ofReals_140 : decode cX0_ofReals 140 = .ok (.aload_n 0, 1) := by decide +kernel
theorem dX0_ofReals_141 : decode cX0_ofReals 141 = .ok (.getfield 19, 3) := by decide +kernel
theorem dX0_ofReals_144 : decode cX0_ofReals 144 = .ok (.aload_n 0, 1) := by decide +kernel
theorem dX0_ofReals_145 : decode cX0_ofReals 145 = .ok (.getfield 10, 3) := by decide +kernel
theorem dX0_ofReals_148 : decode cX0_ofReals 148 = .ok (.aload_n 0, 1) := by decide +kernel
theorem dX0_ofReals_149 : decode cX0_ofReals 149 = .ok (.getfield 16, 3) := by decide +kernel
theorem dX0_ofReals_152 : decode cX0_ofReals 152 = .ok (.invokevirtual 138, 3) := by decide +kernel
theorem dX0_ofReals_155 : decode cX0_ofReals 155 = .ok (.goto 142, 3) := by decide +kernel
theorem dX0_ofReals_158 : decode cX0_ofReals 158 = .ok (.aload_n 0, 1) := by decide +kernel
theorem dX0_ofReals_159 : decode cX0_ofReals 159 = .ok (.getfield 19, 3) := by decide +kernel
theorem dX0_ofReals_162 : decode cX0_ofReals 162 = .ok (.aload_n 0, 1) := by decide +kernel
theorem dX0_ofReals_163 : decode cX0_ofReals 163 = .ok (.getfield 10, 3) := by decide +kernel
theorem dX0_ofReals_166 : decode cX0_ofReals 166 = .ok (.aload_n 0, 1) := by decide +kernel
theorem dX0_ofReals_167 : decode cX0_ofReals 167 = .ok (.getfield 16, 3) := by decide +kernel
theorem dX0_ofReals_170 : decode cX0_ofReals 170 = .ok (.invokevirtual 138, 3) := by decide +kernel
theorem dX0_ofReals_173 : decode cX0_ofReals 173 = .ok (.aload_n 0, 1) := by decide +kernel
theorem dX0_ofReals_174 : decode cX0_ofReals 174 = .ok (.getfield 19, 3) := by decide +kernel
theorem dX0_ofReals_177 : decode cX0_ofReals 177 = .ok (.aload_n 0, 1) := by decide +kernel
theorem dX0_ofReals_178 : decode cX0_ofReals 178 = .ok (.getfield 19, 3) := by decide +kernel
theorem dX0_ofReals_181 : decode cX0_ofReals 181 = .ok (.iload_n 2, 1) := by decide +kernel
theorem dX0_ofReals_182 : decode cX0_ofReals 182 = .ok (.invokevirtual 44, 3) := by decide +kernel
theorem dX0_ofReals_185 : decode cX0_ofReals 185 = .ok (.iload_n 2, 1) := by decide +kernel
theorem dX0_ofReals_186 : decode cX0_ofReals 186 = .ok (.invokevirtual 36, 3) := by decide +kernel
theorem dX0_ofReals_189 : decode cX0_ofReals 189 = .ok (.aload_n 0, 1) := by decide +kernel
theorem dX0_ofReals_190 : decode cX0_ofReals 190 = .ok (.getfield 19, 3) := by decide +kernel
theorem dX0_ofReals_193 : decode cX0_ofReals 193 = .ok (.iload_n 1, 1) := by decide +kernel
theorem dX0_ofReals_194 : decode cX0_ofReals 194 = .ok (.iconst 4, 1) := by decide +kernel
theorem dX0_ofReals_195 : decode cX0_ofReals 195 = .ok (.if_icmp .ne 8, 3) := by decide +kernel
theorem dX0_ofReals_198 : decode cX0_ofReals 198 = .ok (.bipush 6, 2) := by decide +kernel
theorem dX0_ofReals_200 : decode cX0_ofReals 200 = .ok (.goto 4, 3) := by decide +kernel
theorem dX0_ofReals_203 : decode cX0_ofReals 203 = .ok (.iconst 3, 1) := by decide +kernel
theorem dX0_ofReals_204 : decode cX0_ofReals 204 = .ok (.invokevirtual 141, 3) := by decide +kernel
theorem dX0_ofReals_207 : decode cX0_ofReals 207 = .ok (.goto 90, 3) := by decide +kernel
theorem dX0_ofReals_210 : decode cX0_ofReals 210 = .ok (.aload_n 0, 1) := by decide +kernel
theorem dX0_ofReals_211 : decode cX0_ofReals 211 = .ok (.getfield 19, 3) := by decide +kernel
theorem dX0_ofReals_214 : decode cX0_ofReals 214 = .ok (.aload_n 0, 1) := by decide +kernel
theorem dX0_ofReals_215 : decode cX0_ofReals 215 = .ok (.getfield 10, 3) := by decide +kernel
theorem dX0_ofReals_218 : decode cX0_ofReals 218 = .ok (.aload_n 0, 1) := by decide +kernel
theorem dX0_ofReals_219 : decode cX0_ofReals 219 = .ok (.getfield 16, 3) := by decide +kernel
theorem dX0_ofReals_222 : decode cX0_ofReals 222 = .ok (.invokevirtual 145, 3) := by decide +kernel
theorem dX0_ofReals_225 : decode cX0_ofReals 225 = .ok (.goto 72, 3) := by decide +kernel
theorem dX0_ofReals_228 : decode cX0_ofReals 228 = .ok (.aload_n 0, 1) := by decide +kernel
theorem dX0_ofReals_229 : decode cX0_ofReals 229 = .ok (.getfield 19, 3) := by decide +kernel
theorem dX0_ofReals_232 : decode cX0_ofReals 232 = .ok (.aload_n 0, 1) := by decide +kernel
theorem dX0_ofReals_233 : decode cX0_ofReals 233 = .ok (.getfield 10, 3) := by decide +kernel
theorem dX0_ofReals_236 : decode cX0_ofReals 236 = .ok (.aload_n 0, 1) := by decide +kernel
theorem dX0_ofReals_237 : decode cX0_ofReals 237 = .ok (.getfield 16, 3) := by decide +kernel
theorem dX0_ofReals_240 : decode cX0_ofReals 240 = .ok (.invokevirtual 145, 3) := by decide +kernel
theorem dX0_ofReals_243 : decode cX0_ofReals 243 = .ok (.aload_n 0, 1) := by decide +kernel
theorem dX0_ofReals_244 : decode cX0_ofReals 244 = .ok (.getfield 19, 3) := by decide +kernel
theorem dX0_ofReals_247 : decode cX0_ofReals 247 = .ok (.getfield 148, 3) := by decide +kernel
theorem dX0_ofReals_250 : decode cX0_ofReals 250 = .ok (.iconst 1, 1) := by decide +kernel
theorem dX0_ofReals_251 : decode cX0_ofReals 251 = .ok (.if_icmp .ne 46, 3) := by decide +kernel
theorem dX0_ofReals_254 : decode cX0_ofReals 254 = .ok (.aload_n 0, 1) := by decide +kernel
theorem dX0_ofReals_255 : decode cX0_ofReals 255 = .ok (.getfield 19, 3) := by decide +kernel
theorem dX0_ofReals_258 : decode cX0_ofReals 258 = .ok (.getfield 131, 3) := by decide +kernel
theorem dX0_ofReals_261 : decode cX0_ofReals 261 = .ok (.aload_n 0, 1) := by decide +kernel
theorem dX0_ofReals_262 : decode cX0_ofReals 262 = .ok (.getfield 16, 3) := by decide +kernel
theorem dX0_ofReals_265 : decode cX0_ofReals 265 = .ok (.getfield 131, 3) := by decide +kernel
theorem dX0_ofReals_268 : decode cX0_ofReals 268 = .ok (.if_icmp .eq 29, 3) := by decide +kernel
theorem dX0_ofReals_271 : decode cX0_ofReals 271 = .ok (.aload_n 0, 1) := by decide +kernel
theorem dX0_ofReals_272 : decode cX0_ofReals 272 = .ok (.getfield 10, 3) := by decide +kernel
theorem dX0_ofReals_275 : decode cX0_ofReals 275 = .ok (.aload_n 0, 1) := by decide +kernel
theorem dX0_ofReals_276 : decode cX0_ofReals 276 = .ok (.getfield 19, 3) := by decide +kernel
theorem dX0_ofReals_279 : decode cX0_ofReals 279 = .ok (.invokevirtual 152, 3) := by decide +kernel
theorem dX0_ofReals_282 : decode cX0_ofReals 282 = .ok (.aload_n 0, 1) := by decide +kernel
theorem dX0_ofReals_283 : decode cX0_ofReals 283 = .ok (.getfield 19, 3) := by decide +kernel
theorem dX0_ofReals_286 : decode cX0_ofReals 286 = .ok (.aload_n 0, 1) := by decide +kernel
theorem dX0_ofReals_287 : decode cX0_ofReals 287 = .ok (.getfield 10, 3) := by decide +kernel
theorem dX0_ofReals_290 : decode cX0_ofReals 290 = .ok (.aload_n 0, 1) := by decide +kernel
theorem dX0_ofReals_291 : decode cX0_ofReals 291 = .ok (.getfield 16, 3) := by decide +kernel
theorem dX0_ofReals_294 : decode cX0_ofReals 294 = .ok (.invokevirtual 127, 3) := by decide +kernel
theorem dX0_ofReals_297 : decode cX0_ofReals 297 = .ok (.aload_n 0, 1) := by decide +kernel
theorem dX0_ofReals_298 : decode cX0_ofReals 298 = .ok (.getfield 19, 3) := by decide +kernel
theorem dX0_ofReals_301 : decode cX0_ofReals 301 = .ok (.iload_n 2, 1) := by decide +kernel
theorem dX0_ofReals_302 : decode cX0_ofReals 302 = .ok (.invokevirtual 44, 3) := by decide +kernel
theorem dX0_ofReals_305 : decode cX0_ofReals 305 = .ok (.lreturn, 1) := by decide +kernel
theorem dX0_ofOne_0 : decode cX0_ofOne 0 = .ok (.iload_n 1, 1) := by decide +kernel
theorem dX0_ofOne_1 : decode cX0_ofOne 1 = .ok (.tableswitch 93 0 8 #[51, 57, 63, 93, 93, 93, 93, 69, 79], 51) := by decide +kernel
theorem dX0_ofOne_52 : decode cX0_ofOne 52 = .ok (.lload_n 3, 1) := by decide +kernel
theorem dX0_ofOne_53 : decode cX0_ofOne 53 = .ok (.iload_n 2, 1) := by decide +kernel
theorem dX0_ofOne_54 : decode cX0_ofOne 54 = .ok (.invokestatic 85, 3) := by decide +kernel
theorem dX0_ofOne_57 : decode cX0_ofOne 57 = .ok (.lreturn, 1) := by decide +kernel
theorem dX0_ofOne_58 : decode cX0_ofOne 58 = .ok (.lload_n 3, 1) := by decide +kernel
theorem dX0_ofOne_59 : decode cX0_ofOne 59 = .ok (.iload_n 2, 1) := by decide +kernel
theorem dX0_ofOne_60 : decode cX0_ofOne 60 = .ok (.invokestatic 82, 3) := by decide +kernel
theorem dX0_ofOne_63 : decode cX0_ofOne 63 = .ok (.lreturn, 1) := by decide +kernel
theorem dX0_ofOne_64 : decode cX0_ofOne 64 = .ok (.lload_n 3, 1) := by decide +kernel
theorem dX0_ofOne_65 : decode cX0_ofOne 65 = .ok (.iload_n 2, 1) := by decide +kernel
theorem dX0_ofOne_66 : decode cX0_ofOne 66 = .ok (.invokestatic 156, 3) := by decide +kernel
theorem dX0_ofOne_69 : decode cX0_ofOne 69 = .ok (.lreturn, 1) := by decide +kernel
theorem dX0_ofOne_70 : decode cX0_ofOne 70 = .ok (.lload_n 3, 1) := by decide +kernel
theorem dX0_ofOne_71 : decode cX0_ofOne 71 = .ok (.ldc2_w 159, 3) := by decide +kernel
theorem dX0_ofOne_74 : decode cX0_ofOne 74 = .ok (.lxor, 1) := by decide +kernel
theorem dX0_ofOne_75 : decode cX0_ofOne 75 = .ok (.iload_n 2, 1) := by decide +kernel
theorem dX0_ofOne_76 : decode cX0_ofOne 76 = .ok (.invokestatic 32, 3) := by decide +kernel
theorem dX0_ofOne_79 : decode cX0_ofOne 79 = .ok (.lreturn, 1) := by decide +kernel
theorem dX0_ofOne_80 : decode cX0_ofOne 80 = .ok (.lload_n 3, 1) := by decide +kernel
theorem dX0_ofOne_81 : decode cX0_ofOne 81 = .ok (.iload_n 2, 1) := by decide +kernel
theorem dX0_ofOne_82 : decode cX0_ofOne 82 = .ok (.invokestatic 94, 3) := by decide +kernel
theorem dX0_ofOne_85 : decode cX0_ofOne 85 = .ok (.ifCond .eq 7, 3) := by decide +kernel
theorem dX0_ofOne_88 : decode cX0_ofOne 88 = .ok (.lconst 1, 1) := by decide +kernel
theorem dX0_ofOne_89 : decode cX0_ofOne 89 = .ok (.goto 4, 3) := by decide +kernel
theorem dX0_ofOne_92 : decode cX0_ofOne 92 = .ok (.lconst 0, 1) := by decide +kernel
theorem dX0_ofOne_93 : decode cX0_ofOne 93 = .ok (.lreturn, 1) := by decide +kernel
theorem dX0_ofOne_94 : decode cX0_ofOne 94 = .ok (.aload_n 0, 1) := by decide +kernel
theorem dX0_ofOne_95 : decode cX0_ofOne 95 = .ok (.iload_n 1, 1) := by decide +kernel
theorem dX0_ofOne_96 : decode cX0_ofOne 96 = .ok (.iload_n 2, 1) := by decide +kernel
theorem dX0_ofOne_97 : decode cX0_ofOne 97 = .ok (.lload_n 3, 1) := by decide +kernel
theorem dX0_ofOne_98 : decode cX0_ofOne 98 = .ok (.invokevirtual 161, 3) := by decide +kernel
theorem dX0_ofOne_101 : decode cX0_ofOne 101 = .ok (.lreturn, 1) := by decide +kernel
theorem dX0_roundedTo_0 : decode cX0_roundedTo 0 = .ok (.iload_n 2, 1) := by decide +kernel
theorem dX0_roundedTo_1 : decode cX0_roundedTo 1 = .ok (.invokestatic 22, 3) := by decide +kernel
theorem dX0_roundedTo_4 : decode cX0_roundedTo 4 = .ok (.ifCond .ne 5, 3) := by decide +kernel
theorem dX0_roundedTo_7 : decode cX0_roundedTo 7 = .ok (.lload_n 3, 1) := by decide +kernel
theorem dX0_roundedTo_8 : decode cX0_roundedTo 8 = .ok (.lreturn, 1) := by decide +kernel
theorem dX0_roundedTo_9 : decode cX0_roundedTo 9 = .ok (.aload_n 0, 1) := by decide +kernel
theorem dX0_roundedTo_10 : decode cX0_roundedTo 10 = .ok (.getfield 19, 3) := by decide +kernel
theorem dX0_roundedTo_13 : decode cX0_roundedTo 13 = .ok (.lload_n 3, 1) := by decide +kernel
theorem dX0_roundedTo_14 : decode cX0_roundedTo 14 = .ok (.iload_n 2, 1) := by decide +kernel
theorem dX0_roundedTo_15 : decode cX0_roundedTo 15 = .ok (.invokevirtual 36, 3) := by decide +kernel
theorem dX0_roundedTo_18 : decode cX0_roundedTo 18 = .ok (.aload_n 0, 1) := by decide +kernel
theorem dX0_roundedTo_19 : decode cX0_roundedTo 19 = .ok (.getfield 19, 3) := by decide +kernel
theorem dX0_roundedTo_22 : decode cX0_roundedTo 22 = .ok (.iload_n 1, 1) := by decide +kernel
theorem dX0_roundedTo_23 : decode cX0_roundedTo 23 = .ok (.invokevirtual 141, 3) := by decide +kernel
theorem dX0_roundedTo_26 : decode cX0_roundedTo 26 = .ok (.aload_n 0, 1) := by decide +kernel
theorem dX0_roundedTo_27 : decode cX0_roundedTo 27 = .ok (.getfield 19, 3) := by decide +kernel
theorem dX0_roundedTo_30 : decode cX0_roundedTo 30 = .ok (.iload_n 2, 1) := by decide +kernel
theorem dX0_roundedTo_31 : decode cX0_roundedTo 31 = .ok (.invokevirtual 44, 3) := by decide +kernel
theorem dX0_roundedTo_34 : decode cX0_roundedTo 34 = .ok (.lreturn, 1) := by decide +kernel
theorem dX1_isLane_0 : decode cX1_isLane 0 = .ok (.iload_n 0, 1) := by decide +kernel
theorem dX1_isLane_1 : decode cX1_isLane 1 = .ok (.ifCond .lt 12, 3) := by decide +kernel
theorem dX1_isLane_4 : decode cX1_isLane 4 = .ok (.iload_n 0, 1) := by decide +kernel
theorem dX1_isLane_5 : decode cX1_isLane 5 = .ok (.iconst 5, 1) := by decide +kernel
theorem dX1_isLane_6 : decode cX1_isLane 6 = .ok (.if_icmp .gt 7, 3) := by decide +kernel
theorem dX1_isLane_9 : decode cX1_isLane 9 = .ok (.iconst 1, 1) := by decide +kernel
theorem dX1_isLane_10 : decode cX1_isLane 10 = .ok (.goto 4, 3) := by decide +kernel
theorem dX1_isLane_13 : decode cX1_isLane 13 = .ok (.iconst 0, 1) := by decide +kernel
theorem dX1_isLane_14 : decode cX1_isLane 14 = .ok (.ireturn, 1) := by decide +kernel
theorem dX1_isReal_0 : decode cX1_isReal 0 = .ok (.iload_n 0, 1) := by decide +kernel
theorem dX1_isReal_1 : decode cX1_isReal 1 = .ok (.iconst 4, 1) := by decide +kernel
theorem dX1_isReal_2 : decode cX1_isReal 2 = .ok (.if_icmp .eq 8, 3) := by decide +kernel
theorem dX1_isReal_5 : decode cX1_isReal 5 = .ok (.iload_n 0, 1) := by decide +kernel
theorem dX1_isReal_6 : decode cX1_isReal 6 = .ok (.iconst 5, 1) := by decide +kernel
theorem dX1_isReal_7 : decode cX1_isReal 7 = .ok (.if_icmp .ne 7, 3) := by decide +kernel
theorem dX1_isReal_10 : decode cX1_isReal 10 = .ok (.iconst 1, 1) := by decide +kernel
theorem dX1_isReal_11 : decode cX1_isReal 11 = .ok (.goto 4, 3) := by decide +kernel
theorem dX1_isReal_14 : decode cX1_isReal 14 = .ok (.iconst 0, 1) := by decide +kernel
theorem dX1_isReal_15 : decode cX1_isReal 15 = .ok (.ireturn, 1) := by decide +kernel
theorem dX1_joined_0 : decode cX1_joined 0 = .ok (.iload_n 0, 1) := by decide +kernel
theorem dX1_joined_1 : decode cX1_joined 1 = .ok (.iload_n 1, 1) := by decide +kernel
theorem dX1_joined_2 : decode cX1_joined 2 = .ok (.invokestatic 11, 3) := by decide +kernel
theorem dX1_joined_5 : decode cX1_joined 5 = .ok (.istore_n 2, 1) := by decide +kernel
theorem dX1_joined_6 : decode cX1_joined 6 = .ok (.iload_n 0, 1) := by decide +kernel
theorem dX1_joined_7 : decode cX1_joined 7 = .ok (.iload_n 1, 1) := by decide +kernel
theorem dX1_joined_8 : decode cX1_joined 8 = .ok (.invokestatic 17, 3) := by decide +kernel
theorem dX1_joined_11 : decode cX1_joined 11 = .ok (.istore_n 3, 1) := by decide +kernel
theorem dX1_joined_12 : decode cX1_joined 12 = .ok (.iload_n 2, 1) := by decide +kernel
theorem dX1_joined_13 : decode cX1_joined 13 = .ok (.iconst 4, 1) := by decide +kernel
theorem dX1_joined_14 : decode cX1_joined 14 = .ok (.if_icmp .ne 17, 3) := by decide +kernel
theorem dX1_joined_17 : decode cX1_joined 17 = .ok (.iload_n 3, 1) := by decide +kernel
theorem dX1_joined_18 : decode cX1_joined 18 = .ok (.iconst 2, 1) := by decide +kernel
theorem dX1_joined_19 : decode cX1_joined 19 = .ok (.if_icmp .eq 8, 3) := by decide +kernel
theorem dX1_joined_22 : decode cX1_joined 22 = .ok (.iload_n 3, 1) := by decide +kernel
theorem dX1_joined_23 : decode cX1_joined 23 = .ok (.iconst 3, 1) := by decide +kernel
theorem dX1_joined_24 : decode cX1_joined 24 = .ok (.if_icmp .ne 7, 3) := by decide +kernel
theorem dX1_joined_27 : decode cX1_joined 27 = .ok (.iconst 5, 1) := by decide +kernel
theorem dX1_joined_28 : decode cX1_joined 28 = .ok (.goto 4, 3) := by decide +kernel
theorem dX1_joined_31 : decode cX1_joined 31 = .ok (.iload_n 2, 1) := by decide +kernel
theorem dX1_joined_32 : decode cX1_joined 32 = .ok (.ireturn, 1) := by decide +kernel
theorem dX1_mayHold_0 : decode cX1_mayHold 0 = .ok (.iload_n 0, 1) := by decide +kernel
theorem dX1_mayHold_1 : decode cX1_mayHold 1 = .ok (.iload_n 1, 1) := by decide +kernel
theorem dX1_mayHold_2 : decode cX1_mayHold 2 = .ok (.invokestatic 20, 3) := by decide +kernel
theorem dX1_mayHold_5 : decode cX1_mayHold 5 = .ok (.iload_n 0, 1) := by decide +kernel
theorem dX1_mayHold_6 : decode cX1_mayHold 6 = .ok (.if_icmp .ne 7, 3) := by decide +kernel
theorem dX1_mayHold_9 : decode cX1_mayHold 9 = .ok (.iconst 1, 1) := by decide +kernel
theorem dX1_mayHold_10 : decode cX1_mayHold 10 = .ok (.goto 4, 3) := by decide +kernel
theorem dX1_mayHold_13 : decode cX1_mayHold 13 = .ok (.iconst 0, 1) := by decide +kernel
theorem dX1_mayHold_14 : decode cX1_mayHold 14 = .ok (.ireturn, 1) := by decide +kernel
theorem dX1_ofAct_0 : decode cX1_ofAct 0 = .ok (.iload_n 1, 1) := by decide +kernel
theorem dX1_ofAct_1 : decode cX1_ofAct 1 = .ok (.iload_n 2, 1) := by decide +kernel
theorem dX1_ofAct_2 : decode cX1_ofAct 2 = .ok (.invokestatic 20, 3) := by decide +kernel
theorem dX1_ofAct_5 : decode cX1_ofAct 5 = .ok (.istore_n 3, 1) := by decide +kernel
theorem dX1_ofAct_6 : decode cX1_ofAct 6 = .ok (.iload_n 3, 1) := by decide +kernel
theorem dX1_ofAct_7 : decode cX1_ofAct 7 = .ok (.invokestatic 23, 3) := by decide +kernel
theorem dX1_ofAct_10 : decode cX1_ofAct 10 = .ok (.ifCond .eq 22, 3) := by decide +kernel
theorem dX1_ofAct_13 : decode cX1_ofAct 13 = .ok (.iload_n 0, 1) := by decide +kernel
theorem dX1_ofAct_14 : decode cX1_ofAct 14 = .ok (.bipush 12, 2) := by decide +kernel
theorem dX1_ofAct_16 : decode cX1_ofAct 16 = .ok (.if_icmp .lt 14, 3) := by decide +kernel
theorem dX1_ofAct_19 : decode cX1_ofAct 19 = .ok (.iload_n 0, 1) := by decide +kernel
theorem dX1_ofAct_20 : decode cX1_ofAct 20 = .ok (.bipush 17, 2) := by decide +kernel
theorem dX1_ofAct_22 : decode cX1_ofAct 22 = .ok (.if_icmp .gt 8, 3) := by decide +kernel
theorem dX1_ofAct_25 : decode cX1_ofAct 25 = .ok (.bipush (-3), 2) := by decide +kernel
theorem dX1_ofAct_27 : decode cX1_ofAct 27 = .ok (.goto 4, 3) := by decide +kernel
theorem dX1_ofAct_30 : decode cX1_ofAct 30 = .ok (.iload_n 3, 1) := by decide +kernel
theorem dX1_ofAct_31 : decode cX1_ofAct 31 = .ok (.ireturn, 1) := by decide +kernel
theorem dX1_ofAct_32 : decode cX1_ofAct 32 = .ok (.iload_n 0, 1) := by decide +kernel
theorem dX1_ofAct_33 : decode cX1_ofAct 33 = .ok (.iconst 3, 1) := by decide +kernel
theorem dX1_ofAct_34 : decode cX1_ofAct 34 = .ok (.if_icmp .ne 5, 3) := by decide +kernel
theorem dX1_ofAct_37 : decode cX1_ofAct 37 = .ok (.iconst 5, 1) := by decide +kernel
theorem dX1_ofAct_38 : decode cX1_ofAct 38 = .ok (.ireturn, 1) := by decide +kernel
theorem dX1_ofAct_39 : decode cX1_ofAct 39 = .ok (.iload_n 0, 1) := by decide +kernel
theorem dX1_ofAct_40 : decode cX1_ofAct 40 = .ok (.bipush 8, 2) := by decide +kernel
theorem dX1_ofAct_42 : decode cX1_ofAct 42 = .ok (.if_icmp .lt 9, 3) := by decide +kernel
theorem dX1_ofAct_45 : decode cX1_ofAct 45 = .ok (.iload_n 0, 1) := by decide +kernel
theorem dX1_ofAct_46 : decode cX1_ofAct 46 = .ok (.bipush 14, 2) := by decide +kernel
theorem dX1_ofAct_48 : decode cX1_ofAct 48 = .ok (.if_icmp .le 10, 3) := by decide +kernel
theorem dX1_ofAct_51 : decode cX1_ofAct 51 = .ok (.iload_n 0, 1) := by decide +kernel
theorem dX1_ofAct_52 : decode cX1_ofAct 52 = .ok (.invokestatic 29, 3) := by decide +kernel
theorem dX1_ofAct_55 : decode cX1_ofAct 55 = .ok (.ifCond .eq 7, 3) := by decide +kernel
theorem dX1_ofAct_58 : decode cX1_ofAct 58 = .ok (.iconst 1, 1) := by decide +kernel
theorem dX1_ofAct_59 : decode cX1_ofAct 59 = .ok (.goto 4, 3) := by decide +kernel
theorem dX1_ofAct_62 : decode cX1_ofAct 62 = .ok (.iconst 0, 1) := by decide +kernel
theorem dX1_ofAct_63 : decode cX1_ofAct 63 = .ok (.istore 4, 2) := by decide +kernel
theorem dX1_ofAct_65 : decode cX1_ofAct 65 = .ok (.iload_n 3, 1) := by decide +kernel
theorem dX1_ofAct_66 : decode cX1_ofAct 66 = .ok (.ifCond .ne 12, 3) := by decide +kernel
theorem dX1_ofAct_69 : decode cX1_ofAct 69 = .ok (.iload 4, 2) := by decide +kernel
theorem dX1_ofAct_71 : decode cX1_ofAct 71 = .ok (.ifCond .ne 7, 3) := by decide +kernel
theorem dX1_ofAct_74 : decode cX1_ofAct 74 = .ok (.iconst 2, 1) := by decide +kernel
theorem dX1_ofAct_75 : decode cX1_ofAct 75 = .ok (.goto 4, 3) := by decide +kernel
theorem dX1_ofAct_78 : decode cX1_ofAct 78 = .ok (.iload_n 3, 1) := by decide +kernel
theorem dX1_ofAct_79 : decode cX1_ofAct 79 = .ok (.ireturn, 1) := by decide +kernel
theorem dX1_ofResult_0 : decode cX1_ofResult 0 = .ok (.iload_n 0, 1) := by decide +kernel
theorem dX1_ofResult_1 : decode cX1_ofResult 1 = .ok (.invokestatic 29, 3) := by decide +kernel
theorem dX1_ofResult_4 : decode cX1_ofResult 4 = .ok (.ifCond .eq 7, 3) := by decide +kernel
theorem dX1_ofResult_7 : decode cX1_ofResult 7 = .ok (.iconst 0, 1) := by decide +kernel
theorem dX1_ofResult_8 : decode cX1_ofResult 8 = .ok (.goto 4, 3) := by decide +kernel
theorem dX1_ofResult_11 : decode cX1_ofResult 11 = .ok (.iload_n 1, 1) := by decide +kernel
theorem dX1_ofResult_12 : decode cX1_ofResult 12 = .ok (.ireturn, 1) := by decide +kernel
theorem dX1_ofOne_0 : decode cX1_ofOne 0 = .ok (.iload_n 0, 1) := by decide +kernel
theorem dX1_ofOne_1 : decode cX1_ofOne 1 = .ok (.bipush 7, 2) := by decide +kernel
theorem dX1_ofOne_3 : decode cX1_ofOne 3 = .ok (.if_icmp .ne 13, 3) := by decide +kernel
theorem dX1_ofOne_6 : decode cX1_ofOne 6 = .ok (.iload_n 1, 1) := by decide +kernel
theorem dX1_ofOne_7 : decode cX1_ofOne 7 = .ok (.invokestatic 23, 3) := by decide +kernel
theorem dX1_ofOne_10 : decode cX1_ofOne 10 = .ok (.ifCond .eq 6, 3) := by decide +kernel
theorem dX1_ofOne_13 : decode cX1_ofOne 13 = .ok (.bipush (-3), 2) := by decide +kernel
theorem dX1_ofOne_15 : decode cX1_ofOne 15 = .ok (.ireturn, 1) := by decide +kernel
theorem dX1_ofOne_16 : decode cX1_ofOne 16 = .ok (.iload_n 1, 1) := by decide +kernel
theorem dX1_ofOne_17 : decode cX1_ofOne 17 = .ok (.ifCond .ne 12, 3) := by decide +kernel
theorem dX1_ofOne_20 : decode cX1_ofOne 20 = .ok (.iload_n 0, 1) := by decide +kernel
theorem dX1_ofOne_21 : decode cX1_ofOne 21 = .ok (.iconst 2, 1) := by decide +kernel
theorem dX1_ofOne_22 : decode cX1_ofOne 22 = .ok (.if_icmp .gt 7, 3) := by decide +kernel
theorem dX1_ofOne_25 : decode cX1_ofOne 25 = .ok (.iconst 2, 1) := by decide +kernel
theorem dX1_ofOne_26 : decode cX1_ofOne 26 = .ok (.goto 4, 3) := by decide +kernel
theorem dX1_ofOne_29 : decode cX1_ofOne 29 = .ok (.iload_n 1, 1) := by decide +kernel
theorem dX1_ofOne_30 : decode cX1_ofOne 30 = .ok (.ireturn, 1) := by decide +kernel
theorem dX1_noNumber_0 : decode cX1_noNumber 0 = .ok (.iload_n 0, 1) := by decide +kernel
theorem dX1_noNumber_1 : decode cX1_noNumber 1 = .ok (.iconst 4, 1) := by decide +kernel
theorem dX1_noNumber_2 : decode cX1_noNumber 2 = .ok (.if_icmp .ne 9, 3) := by decide +kernel
theorem dX1_noNumber_5 : decode cX1_noNumber 5 = .ok (.ldc2_w 32, 3) := by decide +kernel
theorem dX1_noNumber_8 : decode cX1_noNumber 8 = .ok (.goto 6, 3) := by decide +kernel
theorem dX1_noNumber_11 : decode cX1_noNumber 11 = .ok (.ldc2_w 34, 3) := by decide +kernel
theorem dX1_noNumber_14 : decode cX1_noNumber 14 = .ok (.lreturn, 1) := by decide +kernel
theorem dX1_isNoNumber_0 : decode cX1_isNoNumber 0 = .ok (.iload_n 2, 1) := by decide +kernel
theorem dX1_isNoNumber_1 : decode cX1_isNoNumber 1 = .ok (.invokestatic 23, 3) := by decide +kernel
theorem dX1_isNoNumber_4 : decode cX1_isNoNumber 4 = .ok (.ifCond .eq 16, 3) := by decide +kernel
theorem dX1_isNoNumber_7 : decode cX1_isNoNumber 7 = .ok (.lload_n 0, 1) := by decide +kernel
theorem dX1_isNoNumber_8 : decode cX1_isNoNumber 8 = .ok (.iload_n 2, 1) := by decide +kernel
theorem dX1_isNoNumber_9 : decode cX1_isNoNumber 9 = .ok (.invokestatic 36, 3) := by decide +kernel
theorem dX1_isNoNumber_12 : decode cX1_isNoNumber 12 = .ok (.lcmp, 1) := by decide +kernel
theorem dX1_isNoNumber_13 : decode cX1_isNoNumber 13 = .ok (.ifCond .ne 7, 3) := by decide +kernel
theorem dX1_isNoNumber_16 : decode cX1_isNoNumber 16 = .ok (.iconst 1, 1) := by decide +kernel
theorem dX1_isNoNumber_17 : decode cX1_isNoNumber 17 = .ok (.goto 4, 3) := by decide +kernel
theorem dX1_isNoNumber_20 : decode cX1_isNoNumber 20 = .ok (.iconst 0, 1) := by decide +kernel
theorem dX1_isNoNumber_21 : decode cX1_isNoNumber 21 = .ok (.ireturn, 1) := by decide +kernel
theorem dX1_isZero_0 : decode cX1_isZero 0 = .ok (.lload_n 0, 1) := by decide +kernel
theorem dX1_isZero_1 : decode cX1_isZero 1 = .ok (.lconst 0, 1) := by decide +kernel
theorem dX1_isZero_2 : decode cX1_isZero 2 = .ok (.lcmp, 1) := by decide +kernel
theorem dX1_isZero_3 : decode cX1_isZero 3 = .ok (.ifCond .eq 29, 3) := by decide +kernel
theorem dX1_isZero_6 : decode cX1_isZero 6 = .ok (.iload_n 2, 1) := by decide +kernel
theorem dX1_isZero_7 : decode cX1_isZero 7 = .ok (.iconst 4, 1) := by decide +kernel
theorem dX1_isZero_8 : decode cX1_isZero 8 = .ok (.if_icmp .ne 11, 3) := by decide +kernel
theorem dX1_isZero_11 : decode cX1_isZero 11 = .ok (.lload_n 0, 1) := by decide +kernel
theorem dX1_isZero_12 : decode cX1_isZero 12 = .ok (.ldc2_w 42, 3) := by decide +kernel
theorem dX1_isZero_15 : decode cX1_isZero 15 = .ok (.lcmp, 1) := by decide +kernel
theorem dX1_isZero_16 : decode cX1_isZero 16 = .ok (.ifCond .eq 16, 3) := by decide +kernel
theorem dX1_isZero_19 : decode cX1_isZero 19 = .ok (.iload_n 2, 1) := by decide +kernel
theorem dX1_isZero_20 : decode cX1_isZero 20 = .ok (.iconst 5, 1) := by decide +kernel
theorem dX1_isZero_21 : decode cX1_isZero 21 = .ok (.if_icmp .ne 15, 3) := by decide +kernel
theorem dX1_isZero_24 : decode cX1_isZero 24 = .ok (.lload_n 0, 1) := by decide +kernel
theorem dX1_isZero_25 : decode cX1_isZero 25 = .ok (.ldc2_w 46, 3) := by decide +kernel
theorem dX1_isZero_28 : decode cX1_isZero 28 = .ok (.lcmp, 1) := by decide +kernel
theorem dX1_isZero_29 : decode cX1_isZero 29 = .ok (.ifCond .ne 7, 3) := by decide +kernel
theorem dX1_isZero_32 : decode cX1_isZero 32 = .ok (.iconst 1, 1) := by decide +kernel
theorem dX1_isZero_33 : decode cX1_isZero 33 = .ok (.goto 4, 3) := by decide +kernel
theorem dX1_isZero_36 : decode cX1_isZero 36 = .ok (.iconst 0, 1) := by decide +kernel
theorem dX1_isZero_37 : decode cX1_isZero 37 = .ok (.ireturn, 1) := by decide +kernel
theorem dX1_lowestBits_0 : decode cX1_lowestBits 0 = .ok (.iload_n 2, 1) := by decide +kernel
theorem dX1_lowestBits_1 : decode cX1_lowestBits 1 = .ok (.tableswitch 94 0 5 #[39, 43, 48, 94, 52, 74], 39) := by decide +kernel
theorem dX1_lowestBits_40 : decode cX1_lowestBits 40 = .ok (.lload_n 0, 1) := by decide +kernel
theorem dX1_lowestBits_41 : decode cX1_lowestBits 41 = .ok (.lconst 1, 1) := by decide +kernel
theorem dX1_lowestBits_42 : decode cX1_lowestBits 42 = .ok (.land, 1) := by decide +kernel
theorem dX1_lowestBits_43 : decode cX1_lowestBits 43 = .ok (.lreturn, 1) := by decide +kernel
theorem dX1_lowestBits_44 : decode cX1_lowestBits 44 = .ok (.lload_n 0, 1) := by decide +kernel
theorem dX1_lowestBits_45 : decode cX1_lowestBits 45 = .ok (.l2i, 1) := by decide +kernel
theorem dX1_lowestBits_46 : decode cX1_lowestBits 46 = .ok (.i2b, 1) := by decide +kernel
theorem dX1_lowestBits_47 : decode cX1_lowestBits 47 = .ok (.i2l, 1) := by decide +kernel
theorem dX1_lowestBits_48 : decode cX1_lowestBits 48 = .ok (.lreturn, 1) := by decide +kernel
theorem dX1_lowestBits_49 : decode cX1_lowestBits 49 = .ok (.lload_n 0, 1) := by decide +kernel
theorem dX1_lowestBits_50 : decode cX1_lowestBits 50 = .ok (.l2i, 1) := by decide +kernel
theorem dX1_lowestBits_51 : decode cX1_lowestBits 51 = .ok (.i2l, 1) := by decide +kernel
theorem dX1_lowestBits_52 : decode cX1_lowestBits 52 = .ok (.lreturn, 1) := by decide +kernel
theorem dX1_lowestBits_53 : decode cX1_lowestBits 53 = .ok (.lload_n 0, 1) := by decide +kernel
theorem dX1_lowestBits_54 : decode cX1_lowestBits 54 = .ok (.ldc2_w 48, 3) := by decide +kernel
theorem dX1_lowestBits_57 : decode cX1_lowestBits 57 = .ok (.land, 1) := by decide +kernel
theorem dX1_lowestBits_58 : decode cX1_lowestBits 58 = .ok (.ldc2_w 50, 3) := by decide +kernel
theorem dX1_lowestBits_61 : decode cX1_lowestBits 61 = .ok (.lcmp, 1) := by decide +kernel
theorem dX1_lowestBits_62 : decode cX1_lowestBits 62 = .ok (.ifCond .le 9, 3) := by decide +kernel
theorem dX1_lowestBits_65 : decode cX1_lowestBits 65 = .ok (.ldc2_w 32, 3) := by decide +kernel
theorem dX1_lowestBits_68 : decode cX1_lowestBits 68 = .ok (.goto 6, 3) := by decide +kernel
theorem dX1_lowestBits_71 : decode cX1_lowestBits 71 = .ok (.lload_n 0, 1) := by decide +kernel
theorem dX1_lowestBits_72 : decode cX1_lowestBits 72 = .ok (.l2i, 1) := by decide +kernel
theorem dX1_lowestBits_73 : decode cX1_lowestBits 73 = .ok (.i2l, 1) := by decide +kernel
theorem dX1_lowestBits_74 : decode cX1_lowestBits 74 = .ok (.lreturn, 1) := by decide +kernel
theorem dX1_lowestBits_75 : decode cX1_lowestBits 75 = .ok (.lload_n 0, 1) := by decide +kernel
theorem dX1_lowestBits_76 : decode cX1_lowestBits 76 = .ok (.ldc2_w 52, 3) := by decide +kernel
theorem dX1_lowestBits_79 : decode cX1_lowestBits 79 = .ok (.land, 1) := by decide +kernel
theorem dX1_lowestBits_80 : decode cX1_lowestBits 80 = .ok (.ldc2_w 54, 3) := by decide +kernel
theorem dX1_lowestBits_83 : decode cX1_lowestBits 83 = .ok (.lcmp, 1) := by decide +kernel
theorem dX1_lowestBits_84 : decode cX1_lowestBits 84 = .ok (.ifCond .le 9, 3) := by decide +kernel
theorem dX1_lowestBits_87 : decode cX1_lowestBits 87 = .ok (.ldc2_w 34, 3) := by decide +kernel
theorem dX1_lowestBits_90 : decode cX1_lowestBits 90 = .ok (.goto 4, 3) := by decide +kernel
theorem dX1_lowestBits_93 : decode cX1_lowestBits 93 = .ok (.lload_n 0, 1) := by decide +kernel
theorem dX1_lowestBits_94 : decode cX1_lowestBits 94 = .ok (.lreturn, 1) := by decide +kernel
theorem dX1_lowestBits_95 : decode cX1_lowestBits 95 = .ok (.lload_n 0, 1) := by decide +kernel
theorem dX1_lowestBits_96 : decode cX1_lowestBits 96 = .ok (.lreturn, 1) := by decide +kernel
theorem dX2_init_0 : decode cX2_init 0 = .ok (.aload_n 0, 1) := by decide +kernel
theorem dX2_init_1 : decode cX2_init 1 = .ok (.invokespecial 1, 3) := by decide +kernel
theorem dX2_init_4 : decode cX2_init 4 = .ok (.aload_n 0, 1) := by decide +kernel
theorem dX2_init_5 : decode cX2_init 5 = .ok (.iconst 0, 1) := by decide +kernel
theorem dX2_init_6 : decode cX2_init 6 = .ok (.putfield 9, 3) := by decide +kernel
theorem dX2_init_9 : decode cX2_init 9 = .ok (.aload_n 0, 1) := by decide +kernel
theorem dX2_init_10 : decode cX2_init 10 = .ok (.iconst 0, 1) := by decide +kernel
theorem dX2_init_11 : decode cX2_init 11 = .ok (.putfield 13, 3) := by decide +kernel
theorem dX2_init_14 : decode cX2_init 14 = .ok (.aload_n 0, 1) := by decide +kernel
theorem dX2_init_15 : decode cX2_init 15 = .ok (.lconst 0, 1) := by decide +kernel
theorem dX2_init_16 : decode cX2_init 16 = .ok (.putfield 17, 3) := by decide +kernel
theorem dX2_init_19 : decode cX2_init 19 = .ok (.aload_n 0, 1) := by decide +kernel
theorem dX2_init_20 : decode cX2_init 20 = .ok (.iconst 0, 1) := by decide +kernel
theorem dX2_init_21 : decode cX2_init 21 = .ok (.putfield 21, 3) := by decide +kernel
theorem dX2_init_24 : decode cX2_init 24 = .ok (.return_, 1) := by decide +kernel
theorem dX2_setAs_0 : decode cX2_setAs 0 = .ok (.aload_n 0, 1) := by decide +kernel
theorem dX2_setAs_1 : decode cX2_setAs 1 = .ok (.aload_n 1, 1) := by decide +kernel
theorem dX2_setAs_2 : decode cX2_setAs 2 = .ok (.getfield 9, 3) := by decide +kernel
theorem dX2_setAs_5 : decode cX2_setAs 5 = .ok (.putfield 9, 3) := by decide +kernel
theorem dX2_setAs_8 : decode cX2_setAs 8 = .ok (.aload_n 0, 1) := by decide +kernel
theorem dX2_setAs_9 : decode cX2_setAs 9 = .ok (.aload_n 1, 1) := by decide +kernel
theorem dX2_setAs_10 : decode cX2_setAs 10 = .ok (.getfield 13, 3) := by decide +kernel
theorem dX2_setAs_13 : decode cX2_setAs 13 = .ok (.putfield 13, 3) := by decide +kernel
theorem dX2_setAs_16 : decode cX2_setAs 16 = .ok (.aload_n 0, 1) := by decide +kernel
theorem dX2_setAs_17 : decode cX2_setAs 17 = .ok (.aload_n 1, 1) := by decide +kernel
theorem dX2_setAs_18 : decode cX2_setAs 18 = .ok (.getfield 17, 3) := by decide +kernel
theorem dX2_setAs_21 : decode cX2_setAs 21 = .ok (.putfield 17, 3) := by decide +kernel
theorem dX2_setAs_24 : decode cX2_setAs 24 = .ok (.aload_n 0, 1) := by decide +kernel
theorem dX2_setAs_25 : decode cX2_setAs 25 = .ok (.aload_n 1, 1) := by decide +kernel
theorem dX2_setAs_26 : decode cX2_setAs 26 = .ok (.getfield 21, 3) := by decide +kernel
theorem dX2_setAs_29 : decode cX2_setAs 29 = .ok (.putfield 21, 3) := by decide +kernel
theorem dX2_setAs_32 : decode cX2_setAs 32 = .ok (.return_, 1) := by decide +kernel
theorem dX2_setKind_0 : decode cX2_setKind 0 = .ok (.aload_n 0, 1) := by decide +kernel
theorem dX2_setKind_1 : decode cX2_setKind 1 = .ok (.iload_n 1, 1) := by decide +kernel
theorem dX2_setKind_2 : decode cX2_setKind 2 = .ok (.putfield 9, 3) := by decide +kernel
theorem dX2_setKind_5 : decode cX2_setKind 5 = .ok (.aload_n 0, 1) := by decide +kernel
theorem dX2_setKind_6 : decode cX2_setKind 6 = .ok (.iload_n 2, 1) := by decide +kernel
theorem dX2_setKind_7 : decode cX2_setKind 7 = .ok (.putfield 13, 3) := by decide +kernel
theorem dX2_setKind_10 : decode cX2_setKind 10 = .ok (.return_, 1) := by decide +kernel
theorem dX2_setFinite_0 : decode cX2_setFinite 0 = .ok (.aload_n 0, 1) := by decide +kernel
theorem dX2_setFinite_1 : decode cX2_setFinite 1 = .ok (.iconst 1, 1) := by decide +kernel
theorem dX2_setFinite_2 : decode cX2_setFinite 2 = .ok (.putfield 9, 3) := by decide +kernel
theorem dX2_setFinite_5 : decode cX2_setFinite 5 = .ok (.aload_n 0, 1) := by decide +kernel
theorem dX2_setFinite_6 : decode cX2_setFinite 6 = .ok (.iload_n 1, 1) := by decide +kernel
theorem dX2_setFinite_7 : decode cX2_setFinite 7 = .ok (.putfield 13, 3) := by decide +kernel
theorem dX2_setFinite_10 : decode cX2_setFinite 10 = .ok (.aload_n 0, 1) := by decide +kernel
theorem dX2_setFinite_11 : decode cX2_setFinite 11 = .ok (.lload_n 2, 1) := by decide +kernel
theorem dX2_setFinite_12 : decode cX2_setFinite 12 = .ok (.putfield 17, 3) := by decide +kernel
theorem dX2_setFinite_15 : decode cX2_setFinite 15 = .ok (.aload_n 0, 1) := by decide +kernel
theorem dX2_setFinite_16 : decode cX2_setFinite 16 = .ok (.iload 4, 2) := by decide +kernel
theorem dX2_setFinite_18 : decode cX2_setFinite 18 = .ok (.putfield 21, 3) := by decide +kernel
theorem dX2_setFinite_21 : decode cX2_setFinite 21 = .ok (.bipush 32, 2) := by decide +kernel
theorem dX2_setFinite_23 : decode cX2_setFinite 23 = .ok (.istore 5, 2) := by decide +kernel
theorem dX2_setFinite_25 : decode cX2_setFinite 25 = .ok (.iload 5, 2) := by decide +kernel
theorem dX2_setFinite_27 : decode cX2_setFinite 27 = .ok (.iconst 1, 1) := by decide +kernel
theorem dX2_setFinite_28 : decode cX2_setFinite 28 = .ok (.if_icmp .lt 49, 3) := by decide +kernel
theorem dX2_setFinite_31 : decode cX2_setFinite 31 = .ok (.aload_n 0, 1) := by decide +kernel
theorem dX2_setFinite_32 : decode cX2_setFinite 32 = .ok (.getfield 17, 3) := by decide +kernel
theorem dX2_setFinite_35 : decode cX2_setFinite 35 = .ok (.bipush 63, 2) := by decide +kernel
theorem dX2_setFinite_37 : decode cX2_setFinite 37 = .ok (.iload 5, 2) := by decide +kernel
theorem dX2_setFinite_39 : decode cX2_setFinite 39 = .ok (.isub, 1) := by decide +kernel
theorem dX2_setFinite_40 : decode cX2_setFinite 40 = .ok (.lushr, 1) := by decide +kernel
theorem dX2_setFinite_41 : decode cX2_setFinite 41 = .ok (.lconst 0, 1) := by decide +kernel
theorem dX2_setFinite_42 : decode cX2_setFinite 42 = .ok (.lcmp, 1) := by decide +kernel
theorem dX2_setFinite_43 : decode cX2_setFinite 43 = .ok (.ifCond .ne 25, 3) := by decide +kernel
theorem dX2_setFinite_46 : decode cX2_setFinite 46 = .ok (.aload_n 0, 1) := by decide +kernel
theorem dX2_setFinite_47 : decode cX2_setFinite 47 = .ok (.dup, 1) := by decide +kernel
theorem dX2_setFinite_48 : decode cX2_setFinite 48 = .ok (.getfield 17, 3) := by decide +kernel
theorem dX2_setFinite_51 : decode cX2_setFinite 51 = .ok (.iload 5, 2) := by decide +kernel
theorem dX2_setFinite_53 : decode cX2_setFinite 53 = .ok (.lshl, 1) := by decide +kernel
theorem dX2_setFinite_54 : decode cX2_setFinite 54 = .ok (.putfield 17, 3) := by decide +kernel
theorem dX2_setFinite_57 : decode cX2_setFinite 57 = .ok (.aload_n 0, 1) := by decide +kernel
theorem dX2_setFinite_58 : decode cX2_setFinite 58 = .ok (.dup, 1) := by decide +kernel
theorem dX2_setFinite_59 : decode cX2_setFinite 59 = .ok (.getfield 21, 3) := by decide +kernel
theorem dX2_setFinite_62 : decode cX2_setFinite 62 = .ok (.iload 5, 2) := by decide +kernel
theorem dX2_setFinite_64 : decode cX2_setFinite 64 = .ok (.isub, 1) := by decide +kernel
theorem dX2_setFinite_65 : decode cX2_setFinite 65 = .ok (.putfield 21, 3) := by decide +kernel
theorem dX2_setFinite_68 : decode cX2_setFinite 68 = .ok (.iload 5, 2) := by decide +kernel
theorem dX2_setFinite_70 : decode cX2_setFinite 70 = .ok (.iconst 2, 1) := by decide +kernel
theorem dX2_setFinite_71 : decode cX2_setFinite 71 = .ok (.idiv, 1) := by decide +kernel
theorem dX2_setFinite_72 : decode cX2_setFinite 72 = .ok (.istore 5, 2) := by decide +kernel
theorem dX2_setFinite_74 : decode cX2_setFinite 74 = .ok (.goto (-49), 3) := by decide +kernel
theorem dX2_setFinite_77 : decode cX2_setFinite 77 = .ok (.return_, 1) := by decide +kernel
theorem dX2_setWhole_0 : decode cX2_setWhole 0 = .ok (.lload_n 1, 1) := by decide +kernel
theorem dX2_setWhole_1 : decode cX2_setWhole 1 = .ok (.lconst 0, 1) := by decide +kernel
theorem dX2_setWhole_2 : decode cX2_setWhole 2 = .ok (.lcmp, 1) := by decide +kernel
theorem dX2_setWhole_3 : decode cX2_setWhole 3 = .ok (.ifCond .ne 12, 3) := by decide +kernel
theorem dX2_setWhole_6 : decode cX2_setWhole 6 = .ok (.aload_n 0, 1) := by decide +kernel
theorem dX2_setWhole_7 : decode cX2_setWhole 7 = .ok (.iconst 0, 1) := by decide +kernel
theorem dX2_setWhole_8 : decode cX2_setWhole 8 = .ok (.iconst 0, 1) := by decide +kernel
theorem dX2_setWhole_9 : decode cX2_setWhole 9 = .ok (.invokevirtual 24, 3) := by decide +kernel
theorem dX2_setWhole_12 : decode cX2_setWhole 12 = .ok (.goto 43, 3) := by decide +kernel
theorem dX2_setWhole_15 : decode cX2_setWhole 15 = .ok (.lload_n 1, 1) := by decide +kernel
theorem dX2_setWhole_16 : decode cX2_setWhole 16 = .ok (.ldc2_w 30, 3) := by decide +kernel
theorem dX2_setWhole_19 : decode cX2_setWhole 19 = .ok (.lcmp, 1) := by decide +kernel
theorem dX2_setWhole_20 : decode cX2_setWhole 20 = .ok (.ifCond .ne 15, 3) := by decide +kernel
theorem dX2_setWhole_23 : decode cX2_setWhole 23 = .ok (.aload_n 0, 1) := by decide +kernel
theorem dX2_setWhole_24 : decode cX2_setWhole 24 = .ok (.iconst 1, 1) := by decide +kernel
theorem dX2_setWhole_25 : decode cX2_setWhole 25 = .ok (.ldc2_w 32, 3) := by decide +kernel
theorem dX2_setWhole_28 : decode cX2_setWhole 28 = .ok (.iconst 1, 1) := by decide +kernel
theorem dX2_setWhole_29 : decode cX2_setWhole 29 = .ok (.invokevirtual 34, 3) := by decide +kernel
theorem dX2_setWhole_32 : decode cX2_setWhole 32 = .ok (.goto 23, 3) := by decide +kernel
theorem dX2_setWhole_35 : decode cX2_setWhole 35 = .ok (.aload_n 0, 1) := by decide +kernel
theorem dX2_setWhole_36 : decode cX2_setWhole 36 = .ok (.lload_n 1, 1) := by decide +kernel
theorem dX2_setWhole_37 : decode cX2_setWhole 37 = .ok (.lconst 0, 1) := by decide +kernel
theorem dX2_setWhole_38 : decode cX2_setWhole 38 = .ok (.lcmp, 1) := by decide +kernel
theorem dX2_setWhole_39 : decode cX2_setWhole 39 = .ok (.ifCond .ge 7, 3) := by decide +kernel
theorem dX2_setWhole_42 : decode cX2_setWhole 42 = .ok (.iconst 1, 1) := by decide +kernel
theorem dX2_setWhole_43 : decode cX2_setWhole 43 = .ok (.goto 4, 3) := by decide +kernel
theorem dX2_setWhole_46 : decode cX2_setWhole 46 = .ok (.iconst 0, 1) := by decide +kernel
theorem dX2_setWhole_47 : decode cX2_setWhole 47 = .ok (.lload_n 1, 1) := by decide +kernel
theorem dX2_setWhole_48 : decode cX2_setWhole 48 = .ok (.invokestatic 38, 3) := by decide +kernel
theorem dX2_setWhole_51 : decode cX2_setWhole 51 = .ok (.iconst 0, 1) := by decide +kernel
theorem dX2_setWhole_52 : decode cX2_setWhole 52 = .ok (.invokevirtual 34, 3) := by decide +kernel
theorem dX2_setWhole_55 : decode cX2_setWhole 55 = .ok (.return_, 1) := by decide +kernel
theorem dX2_setValue_0 : decode cX2_setValue 0 = .ok (.iload_n 3, 1) := by decide +kernel
theorem dX2_setValue_1 : decode cX2_setValue 1 = .ok (.iconst 4, 1) := by decide +kernel
theorem dX2_setValue_2 : decode cX2_setValue 2 = .ok (.if_icmp .ne 7, 3) := by decide +kernel
theorem dX2_setValue_5 : decode cX2_setValue 5 = .ok (.iconst 1, 1) := by decide +kernel
theorem dX2_setValue_6 : decode cX2_setValue 6 = .ok (.goto 4, 3) := by decide +kernel
theorem dX2_setValue_9 : decode cX2_setValue 9 = .ok (.iconst 0, 1) := by decide +kernel
theorem dX2_setValue_10 : decode cX2_setValue 10 = .ok (.istore 4, 2) := by decide +kernel
theorem dX2_setValue_12 : decode cX2_setValue 12 = .ok (.iload 4, 2) := by decide +kernel
theorem dX2_setValue_14 : decode cX2_setValue 14 = .ok (.ifCond .eq 8, 3) := by decide +kernel
theorem dX2_setValue_17 : decode cX2_setValue 17 = .ok (.bipush 23, 2) := by decide +kernel
theorem dX2_setValue_19 : decode cX2_setValue 19 = .ok (.goto 5, 3) := by decide +kernel
theorem dX2_setValue_22 : decode cX2_setValue 22 = .ok (.bipush 52, 2) := by decide +kernel
theorem dX2_setValue_24 : decode cX2_setValue 24 = .ok (.istore 5, 2) := by decide +kernel
theorem dX2_setValue_26 : decode cX2_setValue 26 = .ok (.iload 4, 2) := by decide +kernel
theorem dX2_setValue_28 : decode cX2_setValue 28 = .ok (.ifCond .eq 9, 3) := by decide +kernel
theorem dX2_setValue_31 : decode cX2_setValue 31 = .ok (.sipush 255, 3) := by decide +kernel
theorem dX2_setValue_34 : decode cX2_setValue 34 = .ok (.goto 6, 3) := by decide +kernel
theorem dX2_setValue_37 : decode cX2_setValue 37 = .ok (.sipush 2047, 3) := by decide +kernel
theorem dX2_setValue_40 : decode cX2_setValue 40 = .ok (.istore 6, 2) := by decide +kernel
theorem dX2_setValue_42 : decode cX2_setValue 42 = .ok (.lload_n 1, 1) := by decide +kernel
theorem dX2_setValue_43 : decode cX2_setValue 43 = .ok (.iload 5, 2) := by decide +kernel
theorem dX2_setValue_45 : decode cX2_setValue 45 = .ok (.lushr, 1) := by decide +kernel
theorem dX2_setValue_46 : decode cX2_setValue 46 = .ok (.l2i, 1) := by decide +kernel
theorem dX2_setValue_47 : decode cX2_setValue 47 = .ok (.iload 6, 2) := by decide +kernel
theorem dX2_setValue_49 : decode cX2_setValue 49 = .ok (.iand, 1) := by decide +kernel
theorem dX2_setValue_50 : decode cX2_setValue 50 = .ok (.istore 7, 2) := by decide +kernel
theorem dX2_setValue_52 : decode cX2_setValue 52 = .ok (.lload_n 1, 1) := by decide +kernel
theorem dX2_setValue_53 : decode cX2_setValue 53 = .ok (.lconst 1, 1) := by decide +kernel
theorem dX2_setValue_54 : decode cX2_setValue 54 = .ok (.iload 5, 2) := by decide +kernel
theorem dX2_setValue_56 : decode cX2_setValue 56 = .ok (.lshl, 1) := by decide +kernel
theorem dX2_setValue_57 : decode cX2_setValue 57 = .ok (.lconst 1, 1) := by decide +kernel
theorem dX2_setValue_58 : decode cX2_setValue 58 = .ok (.lsub, 1) := by decide +kernel
theorem dX2_setValue_59 : decode cX2_setValue 59 = .ok (.land, 1) := by decide +kernel
theorem dX2_setValue_60 : decode cX2_setValue 60 = .ok (.lstore 8, 2) := by decide +kernel
theorem dX2_setValue_62 : decode cX2_setValue 62 = .ok (.iconst 1, 1) := by decide +kernel
theorem dX2_setValue_63 : decode cX2_setValue 63 = .ok (.iload 6, 2) := by decide +kernel
theorem dX2_setValue_65 : decode cX2_setValue 65 = .ok (.iconst 2, 1) := by decide +kernel
theorem dX2_setValue_66 : decode cX2_setValue 66 = .ok (.idiv, 1) := by decide +kernel
theorem dX2_setValue_67 : decode cX2_setValue 67 = .ok (.isub, 1) := by decide +kernel
theorem dX2_setValue_68 : decode cX2_setValue 68 = .ok (.iload 5, 2) := by decide +kernel
theorem dX2_setValue_70 : decode cX2_setValue 70 = .ok (.isub, 1) := by decide +kernel
theorem dX2_setValue_71 : decode cX2_setValue 71 = .ok (.istore 10, 2) := by decide +kernel
theorem dX2_setValue_73 : decode cX2_setValue 73 = .ok (.iload 7, 2) := by decide +kernel
theorem dX2_setValue_75 : decode cX2_setValue 75 = .ok (.iload 6, 2) := by decide +kernel
theorem dX2_setValue_77 : decode cX2_setValue 77 = .ok (.if_icmp .ne 33, 3) := by decide +kernel
theorem dX2_setValue_80 : decode cX2_setValue 80 = .ok (.aload_n 0, 1) := by decide +kernel
theorem dX2_setValue_81 : decode cX2_setValue 81 = .ok (.lload 8, 2) := by decide +kernel
theorem dX2_setValue_83 : decode cX2_setValue 83 = .ok (.lconst 0, 1) := by decide +kernel
theorem dX2_setValue_84 : decode cX2_setValue 84 = .ok (.lcmp, 1) := by decide +kernel
theorem dX2_setValue_85 : decode cX2_setValue 85 = .ok (.ifCond .ne 7, 3) := by decide +kernel
theorem dX2_setValue_88 : decode cX2_setValue 88 = .ok (.iconst 2, 1) := by decide +kernel
theorem dX2_setValue_89 : decode cX2_setValue 89 = .ok (.goto 4, 3) := by decide +kernel
theorem dX2_setValue_92 : decode cX2_setValue 92 = .ok (.iconst 3, 1) := by decide +kernel
theorem dX2_setValue_93 : decode cX2_setValue 93 = .ok (.lload_n 1, 1) := by decide +kernel
theorem dX2_setValue_94 : decode cX2_setValue 94 = .ok (.lconst 0, 1) := by decide +kernel
theorem dX2_setValue_95 : decode cX2_setValue 95 = .ok (.lcmp, 1) := by decide +kernel
theorem dX2_setValue_96 : decode cX2_setValue 96 = .ok (.ifCond .ge 7, 3) := by decide +kernel
theorem dX2_setValue_99 : decode cX2_setValue 99 = .ok (.iconst 1, 1) := by decide +kernel
theorem dX2_setValue_100 : decode cX2_setValue 100 = .ok (.goto 4, 3) := by decide +kernel
theorem dX2_setValue_103 : decode cX2_setValue 103 = .ok (.iconst 0, 1) := by decide +kernel
theorem dX2_setValue_104 : decode cX2_setValue 104 = .ok (.invokevirtual 24, 3) := by decide +kernel
theorem dX2_setValue_107 : decode cX2_setValue 107 = .ok (.goto 85, 3) := by decide +kernel
theorem dX2_setValue_110 : decode cX2_setValue 110 = .ok (.iload 7, 2) := by decide +kernel
theorem dX2_setValue_112 : decode cX2_setValue 112 = .ok (.ifCond .eq 35, 3) := by decide +kernel
theorem dX2_setValue_115 : decode cX2_setValue 115 = .ok (.aload_n 0, 1) := by decide +kernel
theorem dX2_setValue_116 : decode cX2_setValue 116 = .ok (.lload_n 1, 1) := by decide +kernel
theorem dX2_setValue_117 : decode cX2_setValue 117 = .ok (.lconst 0, 1) := by decide +kernel
theorem dX2_setValue_118 : decode cX2_setValue 118 = .ok (.lcmp, 1) := by decide +kernel
theorem dX2_setValue_119 : decode cX2_setValue 119 = .ok (.ifCond .ge 7, 3) := by decide +kernel
theorem dX2_setValue_122 : decode cX2_setValue 122 = .ok (.iconst 1, 1) := by decide +kernel
theorem dX2_setValue_123 : decode cX2_setValue 123 = .ok (.goto 4, 3) := by decide +kernel
theorem dX2_setValue_126 : decode cX2_setValue 126 = .ok (.iconst 0, 1) := by decide +kernel
theorem dX2_setValue_127 : decode cX2_setValue 127 = .ok (.lload 8, 2) := by decide +kernel
theorem dX2_setValue_129 : decode cX2_setValue 129 = .ok (.lconst 1, 1) := by decide +kernel
theorem dX2_setValue_130 : decode cX2_setValue 130 = .ok (.iload 5, 2) := by decide +kernel
theorem dX2_setValue_132 : decode cX2_setValue 132 = .ok (.lshl, 1) := by decide +kernel
theorem dX2_setValue_133 : decode cX2_setValue 133 = .ok (.lor, 1) := by decide +kernel
theorem dX2_setValue_134 : decode cX2_setValue 134 = .ok (.iload 10, 2) := by decide +kernel
theorem dX2_setValue_136 : decode cX2_setValue 136 = .ok (.iload 7, 2) := by decide +kernel
theorem dX2_setValue_138 : decode cX2_setValue 138 = .ok (.iadd, 1) := by decide +kernel
theorem dX2_setValue_139 : decode cX2_setValue 139 = .ok (.iconst 1, 1) := by decide +kernel
theorem dX2_setValue_140 : decode cX2_setValue 140 = .ok (.isub, 1) := by decide +kernel
theorem dX2_setValue_141 : decode cX2_setValue 141 = .ok (.invokevirtual 34, 3) := by decide +kernel
theorem dX2_setValue_144 : decode cX2_setValue 144 = .ok (.goto 48, 3) := by decide +kernel
theorem dX2_setValue_147 : decode cX2_setValue 147 = .ok (.lload 8, 2) := by decide +kernel
theorem dX2_setValue_149 : decode cX2_setValue 149 = .ok (.lconst 0, 1) := by decide +kernel
theorem dX2_setValue_150 : decode cX2_setValue 150 = .ok (.lcmp, 1) := by decide +kernel
theorem dX2_setValue_151 : decode cX2_setValue 151 = .ok (.ifCond .eq 25, 3) := by decide +kernel
theorem dX2_setValue_154 : decode cX2_setValue 154 = .ok (.aload_n 0, 1) := by decide +kernel
theorem dX2_setValue_155 : decode cX2_setValue 155 = .ok (.lload_n 1, 1) := by decide +kernel
theorem dX2_setValue_156 : decode cX2_setValue 156 = .ok (.lconst 0, 1) := by decide +kernel
theorem dX2_setValue_157 : decode cX2_setValue 157 = .ok (.lcmp, 1) := by decide +kernel
theorem dX2_setValue_158 : decode cX2_setValue 158 = .ok (.ifCond .ge 7, 3) := by decide +kernel
theorem dX2_setValue_161 : decode cX2_setValue 161 = .ok (.iconst 1, 1) := by decide +kernel
theorem dX2_setValue_162 : decode cX2_setValue 162 = .ok (.goto 4, 3) := by decide +kernel
theorem dX2_setValue_165 : decode cX2_setValue 165 = .ok (.iconst 0, 1) := by decide +kernel
theorem dX2_setValue_166 : decode cX2_setValue 166 = .ok (.lload 8, 2) := by decide +kernel
theorem dX2_setValue_168 : decode cX2_setValue 168 = .ok (.iload 10, 2) := by decide +kernel
theorem dX2_setValue_170 : decode cX2_setValue 170 = .ok (.invokevirtual 34, 3) := by decide +kernel
theorem dX2_setValue_173 : decode cX2_setValue 173 = .ok (.goto 19, 3) := by decide +kernel
theorem dX2_setValue_176 : decode cX2_setValue 176 = .ok (.aload_n 0, 1) := by decide +kernel
theorem dX2_setValue_177 : decode cX2_setValue 177 = .ok (.iconst 0, 1) := by decide +kernel
theorem dX2_setValue_178 : decode cX2_setValue 178 = .ok (.lload_n 1, 1) := by decide +kernel
theorem dX2_setValue_179 : decode cX2_setValue 179 = .ok (.lconst 0, 1) := by decide +kernel
theorem dX2_setValue_180 : decode cX2_setValue 180 = .ok (.lcmp, 1) := by decide +kernel
theorem dX2_setValue_181 : decode cX2_setValue 181 = .ok (.ifCond .ge 7, 3) := by decide +kernel
theorem dX2_setValue_184 : decode cX2_setValue 184 = .ok (.iconst 1, 1) := by decide +kernel
theorem dX2_setValue_185 : decode cX2_setValue 185 = .ok (.goto 4, 3) := by decide +kernel
theorem dX2_setValue_188 : decode cX2_setValue 188 = .ok (.iconst 0, 1) := by decide +kernel
theorem dX2_setValue_189 : decode cX2_setValue 189 = .ok (.invokevirtual 24, 3) := by decide +kernel
theorem dX2_setValue_192 : decode cX2_setValue 192 = .ok (.return_, 1) := by decide +kernel
theorem dX2_toValue_0 : decode cX2_toValue 0 = .ok (.aload_n 0, 1) := by decide +kernel
theorem dX2_toValue_1 : decode cX2_toValue 1 = .ok (.getfield 9, 3) := by decide +kernel
theorem dX2_toValue_4 : decode cX2_toValue 4 = .ok (.iconst 3, 1) := by decide +kernel
theorem dX2_toValue_5 : decode cX2_toValue 5 = .ok (.if_icmp .ne 8, 3) := by decide +kernel
theorem dX2_toValue_8 : decode cX2_toValue 8 = .ok (.iload_n 1, 1) := by decide +kernel
theorem dX2_toValue_9 : decode cX2_toValue 9 = .ok (.invokestatic 46, 3) := by decide +kernel
theorem dX2_toValue_12 : decode cX2_toValue 12 = .ok (.lreturn, 1) := by decide +kernel
theorem dX2_toValue_13 : decode cX2_toValue 13 = .ok (.iload_n 1, 1) := by decide +kernel
theorem dX2_toValue_14 : decode cX2_toValue 14 = .ok (.iconst 4, 1) := by decide +kernel
theorem dX2_toValue_15 : decode cX2_toValue 15 = .ok (.if_icmp .ne 7, 3) := by decide +kernel
theorem dX2_toValue_18 : decode cX2_toValue 18 = .ok (.iconst 1, 1) := by decide +kernel
theorem dX2_toValue_19 : decode cX2_toValue 19 = .ok (.goto 4, 3) := by decide +kernel
theorem dX2_toValue_22 : decode cX2_toValue 22 = .ok (.iconst 0, 1) := by decide +kernel
theorem dX2_toValue_23 : decode cX2_toValue 23 = .ok (.istore_n 2, 1) := by decide +kernel
theorem dX2_toValue_24 : decode cX2_toValue 24 = .ok (.iload_n 2, 1) := by decide +kernel
theorem dX2_toValue_25 : decode cX2_toValue 25 = .ok (.ifCond .eq 15, 3) := by decide +kernel
theorem dX2_toValue_28 : decode cX2_toValue 28 = .ok (.aload_n 0, 1) := by decide +kernel
theorem dX2_toValue_29 : decode cX2_toValue 29 = .ok (.bipush 23, 2) := by decide +kernel
theorem dX2_toValue_31 : decode cX2_toValue 31 = .ok (.sipush 255, 3) := by decide +kernel
theorem dX2_toValue_34 : decode cX2_toValue 34 = .ok (.invokevirtual 50, 3) := by decide +kernel
theorem dX2_toValue_37 : decode cX2_toValue 37 = .ok (.goto 12, 3) := by decide +kernel
theorem dX2_toValue_40 : decode cX2_toValue 40 = .ok (.aload_n 0, 1) := by decide +kernel
theorem dX2_toValue_41 : decode cX2_toValue 41 = .ok (.bipush 52, 2) := by decide +kernel
theorem dX2_toValue_43 : decode cX2_toValue 43 = .ok (.sipush 2047, 3) := by decide +kernel
theorem dX2_toValue_46 : decode cX2_toValue 46 = .ok (.invokevirtual 50, 3) := by decide +kernel
theorem dX2_toValue_49 : decode cX2_toValue 49 = .ok (.lstore_n 3, 1) := by decide +kernel
theorem dX2_toValue_50 : decode cX2_toValue 50 = .ok (.aload_n 0, 1) := by decide +kernel
theorem dX2_toValue_51 : decode cX2_toValue 51 = .ok (.getfield 13, 3) := by decide +kernel
theorem dX2_toValue_54 : decode cX2_toValue 54 = .ok (.ifCond .ne 5, 3) := by decide +kernel
theorem dX2_toValue_57 : decode cX2_toValue 57 = .ok (.lload_n 3, 1) := by decide +kernel
theorem dX2_toValue_58 : decode cX2_toValue 58 = .ok (.lreturn, 1) := by decide +kernel
theorem dX2_toValue_59 : decode cX2_toValue 59 = .ok (.lload_n 3, 1) := by decide +kernel
theorem dX2_toValue_60 : decode cX2_toValue 60 = .ok (.iload_n 2, 1) := by decide +kernel
theorem dX2_toValue_61 : decode cX2_toValue 61 = .ok (.ifCond .eq 9, 3) := by decide +kernel
theorem dX2_toValue_64 : decode cX2_toValue 64 = .ok (.ldc2_w 56, 3) := by decide +kernel
theorem dX2_toValue_67 : decode cX2_toValue 67 = .ok (.goto 6, 3) := by decide +kernel
theorem dX2_toValue_70 : decode cX2_toValue 70 = .ok (.ldc2_w 30, 3) := by decide +kernel
theorem dX2_toValue_73 : decode cX2_toValue 73 = .ok (.lor, 1) := by decide +kernel
theorem dX2_toValue_74 : decode cX2_toValue 74 = .ok (.lreturn, 1) := by decide +kernel
theorem dX2_sizeInBits_0 : decode cX2_sizeInBits 0 = .ok (.iload_n 2, 1) := by decide +kernel
theorem dX2_sizeInBits_1 : decode cX2_sizeInBits 1 = .ok (.i2l, 1) := by decide +kernel
theorem dX2_sizeInBits_2 : decode cX2_sizeInBits 2 = .ok (.iload_n 1, 1) := by decide +kernel
theorem dX2_sizeInBits_3 : decode cX2_sizeInBits 3 = .ok (.lshl, 1) := by decide +kernel
theorem dX2_sizeInBits_4 : decode cX2_sizeInBits 4 = .ok (.lstore_n 3, 1) := by decide +kernel
theorem dX2_sizeInBits_5 : decode cX2_sizeInBits 5 = .ok (.aload_n 0, 1) := by decide +kernel
theorem dX2_sizeInBits_6 : decode cX2_sizeInBits 6 = .ok (.getfield 9, 3) := by decide +kernel
theorem dX2_sizeInBits_9 : decode cX2_sizeInBits 9 = .ok (.iconst 1, 1) := by decide +kernel
theorem dX2_sizeInBits_10 : decode cX2_sizeInBits 10 = .ok (.if_icmp .eq 16, 3) := by decide +kernel
theorem dX2_sizeInBits_13 : decode cX2_sizeInBits 13 = .ok (.aload_n 0, 1) := by decide +kernel
theorem dX2_sizeInBits_14 : decode cX2_sizeInBits 14 = .ok (.getfield 9, 3) := by decide +kernel
theorem dX2_sizeInBits_17 : decode cX2_sizeInBits 17 = .ok (.ifCond .ne 7, 3) := by decide +kernel
theorem dX2_sizeInBits_20 : decode cX2_sizeInBits 20 = .ok (.lconst 0, 1) := by decide +kernel
theorem dX2_sizeInBits_21 : decode cX2_sizeInBits 21 = .ok (.goto 4, 3) := by decide +kernel
theorem dX2_sizeInBits_24 : decode cX2_sizeInBits 24 = .ok (.lload_n 3, 1) := by decide +kernel
theorem dX2_sizeInBits_25 : decode cX2_sizeInBits 25 = .ok (.lreturn, 1) := by decide +kernel
theorem dX2_sizeInBits_26 : decode cX2_sizeInBits 26 = .ok (.aload_n 0, 1) := by decide +kernel
theorem dX2_sizeInBits_27 : decode cX2_sizeInBits 27 = .ok (.getfield 21, 3) := by decide +kernel
theorem dX2_sizeInBits_30 : decode cX2_sizeInBits 30 = .ok (.bipush 62, 2) := by decide +kernel
theorem dX2_sizeInBits_32 : decode cX2_sizeInBits 32 = .ok (.iadd, 1) := by decide +kernel
theorem dX2_sizeInBits_33 : decode cX2_sizeInBits 33 = .ok (.iload_n 2, 1) := by decide +kernel
theorem dX2_sizeInBits_34 : decode cX2_sizeInBits 34 = .ok (.iconst 2, 1) := by decide +kernel
theorem dX2_sizeInBits_35 : decode cX2_sizeInBits 35 = .ok (.idiv, 1) := by decide +kernel
theorem dX2_sizeInBits_36 : decode cX2_sizeInBits 36 = .ok (.iadd, 1) := by decide +kernel
theorem dX2_sizeInBits_37 : decode cX2_sizeInBits 37 = .ok (.istore 5, 2) := by decide +kernel
theorem dX2_sizeInBits_39 : decode cX2_sizeInBits 39 = .ok (.iload 5, 2) := by decide +kernel
theorem dX2_sizeInBits_41 : decode cX2_sizeInBits 41 = .ok (.iload_n 2, 1) := by decide +kernel
theorem dX2_sizeInBits_42 : decode cX2_sizeInBits 42 = .ok (.if_icmp .lt 5, 3) := by decide +kernel
theorem dX2_sizeInBits_45 : decode cX2_sizeInBits 45 = .ok (.lload_n 3, 1) := by decide +kernel
theorem dX2_sizeInBits_46 : decode cX2_sizeInBits 46 = .ok (.lreturn, 1) := by decide +kernel
theorem dX2_sizeInBits_47 : decode cX2_sizeInBits 47 = .ok (.bipush 62, 2) := by decide +kernel
theorem dX2_sizeInBits_49 : decode cX2_sizeInBits 49 = .ok (.iload_n 1, 1) := by decide +kernel
theorem dX2_sizeInBits_50 : decode cX2_sizeInBits 50 = .ok (.isub, 1) := by decide +kernel
theorem dX2_sizeInBits_51 : decode cX2_sizeInBits 51 = .ok (.istore 6, 2) := by decide +kernel
theorem dX2_sizeInBits_53 : decode cX2_sizeInBits 53 = .ok (.iload 5, 2) := by decide +kernel
theorem dX2_sizeInBits_55 : decode cX2_sizeInBits 55 = .ok (.iconst 1, 1) := by decide +kernel
theorem dX2_sizeInBits_56 : decode cX2_sizeInBits 56 = .ok (.if_icmp .ge 18, 3) := by decide +kernel
theorem dX2_sizeInBits_59 : decode cX2_sizeInBits 59 = .ok (.aload_n 0, 1) := by decide +kernel
theorem dX2_sizeInBits_60 : decode cX2_sizeInBits 60 = .ok (.getfield 17, 3) := by decide +kernel
theorem dX2_sizeInBits_63 : decode cX2_sizeInBits 63 = .ok (.iload 6, 2) := by decide +kernel
theorem dX2_sizeInBits_65 : decode cX2_sizeInBits 65 = .ok (.iconst 1, 1) := by decide +kernel
theorem dX2_sizeInBits_66 : decode cX2_sizeInBits 66 = .ok (.iadd, 1) := by decide +kernel
theorem dX2_sizeInBits_67 : decode cX2_sizeInBits 67 = .ok (.iload 5, 2) := by decide +kernel
theorem dX2_sizeInBits_69 : decode cX2_sizeInBits 69 = .ok (.isub, 1) := by decide +kernel
theorem dX2_sizeInBits_70 : decode cX2_sizeInBits 70 = .ok (.invokestatic 58, 3) := by decide +kernel
theorem dX2_sizeInBits_73 : decode cX2_sizeInBits 73 = .ok (.lreturn, 1) := by decide +kernel
theorem dX2_sizeInBits_74 : decode cX2_sizeInBits 74 = .ok (.iload 5, 2) := by decide +kernel
theorem dX2_sizeInBits_76 : decode cX2_sizeInBits 76 = .ok (.iconst 1, 1) := by decide +kernel
theorem dX2_sizeInBits_77 : decode cX2_sizeInBits 77 = .ok (.isub, 1) := by decide +kernel
theorem dX2_sizeInBits_78 : decode cX2_sizeInBits 78 = .ok (.i2l, 1) := by decide +kernel
theorem dX2_sizeInBits_79 : decode cX2_sizeInBits 79 = .ok (.iload_n 1, 1) := by decide +kernel
theorem dX2_sizeInBits_80 : decode cX2_sizeInBits 80 = .ok (.lshl, 1) := by decide +kernel
theorem dX2_sizeInBits_81 : decode cX2_sizeInBits 81 = .ok (.aload_n 0, 1) := by decide +kernel
theorem dX2_sizeInBits_82 : decode cX2_sizeInBits 82 = .ok (.getfield 17, 3) := by decide +kernel
theorem dX2_sizeInBits_85 : decode cX2_sizeInBits 85 = .ok (.iload 6, 2) := by decide +kernel
theorem dX2_sizeInBits_87 : decode cX2_sizeInBits 87 = .ok (.invokestatic 58, 3) := by decide +kernel
theorem dX2_sizeInBits_90 : decode cX2_sizeInBits 90 = .ok (.ladd, 1) := by decide +kernel
theorem dX2_sizeInBits_91 : decode cX2_sizeInBits 91 = .ok (.lreturn, 1) := by decide +kernel
theorem dX2_toLong_0 : decode cX2_toLong 0 = .ok (.aload_n 0, 1) := by decide +kernel
theorem dX2_toLong_1 : decode cX2_toLong 1 = .ok (.getfield 9, 3) := by decide +kernel
theorem dX2_toLong_4 : decode cX2_toLong 4 = .ok (.ifCond .eq 11, 3) := by decide +kernel
theorem dX2_toLong_7 : decode cX2_toLong 7 = .ok (.aload_n 0, 1) := by decide +kernel
theorem dX2_toLong_8 : decode cX2_toLong 8 = .ok (.getfield 9, 3) := by decide +kernel
theorem dX2_toLong_11 : decode cX2_toLong 11 = .ok (.iconst 3, 1) := by decide +kernel
theorem dX2_toLong_12 : decode cX2_toLong 12 = .ok (.if_icmp .ne 5, 3) := by decide +kernel
theorem dX2_toLong_15 : decode cX2_toLong 15 = .ok (.lconst 0, 1) := by decide +kernel
theorem dX2_toLong_16 : decode cX2_toLong 16 = .ok (.lreturn, 1) := by decide +kernel
theorem dX2_toLong_17 : decode cX2_toLong 17 = .ok (.aload_n 0, 1) := by decide +kernel
theorem dX2_toLong_18 : decode cX2_toLong 18 = .ok (.getfield 9, 3) := by decide +kernel
theorem dX2_toLong_21 : decode cX2_toLong 21 = .ok (.iconst 2, 1) := by decide +kernel
theorem dX2_toLong_22 : decode cX2_toLong 22 = .ok (.if_icmp .eq 10, 3) := by decide +kernel
theorem dX2_toLong_25 : decode cX2_toLong 25 = .ok (.aload_n 0, 1) := by decide +kernel
theorem dX2_toLong_26 : decode cX2_toLong 26 = .ok (.getfield 21, 3) := by decide +kernel
theorem dX2_toLong_29 : decode cX2_toLong 29 = .ok (.ifCond .le 20, 3) := by decide +kernel
theorem dX2_toLong_32 : decode cX2_toLong 32 = .ok (.aload_n 0, 1) := by decide +kernel
theorem dX2_toLong_33 : decode cX2_toLong 33 = .ok (.getfield 13, 3) := by decide +kernel
theorem dX2_toLong_36 : decode cX2_toLong 36 = .ok (.ifCond .eq 9, 3) := by decide +kernel
theorem dX2_toLong_39 : decode cX2_toLong 39 = .ok (.ldc2_w 30, 3) := by decide +kernel
theorem dX2_toLong_42 : decode cX2_toLong 42 = .ok (.goto 6, 3) := by decide +kernel
theorem dX2_toLong_45 : decode cX2_toLong 45 = .ok (.ldc2_w 62, 3) := by decide +kernel
theorem dX2_toLong_48 : decode cX2_toLong 48 = .ok (.lreturn, 1) := by decide +kernel
theorem dX2_toLong_49 : decode cX2_toLong 49 = .ok (.aload_n 0, 1) := by decide +kernel
theorem dX2_toLong_50 : decode cX2_toLong 50 = .ok (.getfield 21, 3) := by decide +kernel
theorem dX2_toLong_53 : decode cX2_toLong 53 = .ok (.bipush (-62), 2) := by decide +kernel
theorem dX2_toLong_55 : decode cX2_toLong 55 = .ok (.if_icmp .ge 7, 3) := by decide +kernel
theorem dX2_toLong_58 : decode cX2_toLong 58 = .ok (.lconst 0, 1) := by decide +kernel
theorem dX2_toLong_59 : decode cX2_toLong 59 = .ok (.goto 13, 3) := by decide +kernel
theorem dX2_toLong_62 : decode cX2_toLong 62 = .ok (.aload_n 0, 1) := by decide +kernel
theorem dX2_toLong_63 : decode cX2_toLong 63 = .ok (.getfield 17, 3) := by decide +kernel
theorem dX2_toLong_66 : decode cX2_toLong 66 = .ok (.aload_n 0, 1) := by decide +kernel
theorem dX2_toLong_67 : decode cX2_toLong 67 = .ok (.getfield 21, 3) := by decide +kernel
theorem dX2_toLong_70 : decode cX2_toLong 70 = .ok (.ineg, 1) := by decide +kernel
theorem dX2_toLong_71 : decode cX2_toLong 71 = .ok (.lushr, 1) := by decide +kernel
theorem dX2_toLong_72 : decode cX2_toLong 72 = .ok (.lstore_n 1, 1) := by decide +kernel
theorem dX2_toLong_73 : decode cX2_toLong 73 = .ok (.aload_n 0, 1) := by decide +kernel
theorem dX2_toLong_74 : decode cX2_toLong 74 = .ok (.getfield 13, 3) := by decide +kernel
theorem dX2_toLong_77 : decode cX2_toLong 77 = .ok (.ifCond .eq 8, 3) := by decide +kernel
theorem dX2_toLong_80 : decode cX2_toLong 80 = .ok (.lload_n 1, 1) := by decide +kernel
theorem dX2_toLong_81 : decode cX2_toLong 81 = .ok (.lneg, 1) := by decide +kernel
theorem dX2_toLong_82 : decode cX2_toLong 82 = .ok (.goto 4, 3) := by decide +kernel
theorem dX2_toLong_85 : decode cX2_toLong 85 = .ok (.lload_n 1, 1) := by decide +kernel
theorem dX2_toLong_86 : decode cX2_toLong 86 = .ok (.lreturn, 1) := by decide +kernel
theorem dX2_shiftedToNearest_0 : decode cX2_shiftedToNearest 0 = .ok (.iload_n 2, 1) := by decide +kernel
theorem dX2_shiftedToNearest_1 : decode cX2_shiftedToNearest 1 = .ok (.iconst 1, 1) := by decide +kernel
theorem dX2_shiftedToNearest_2 : decode cX2_shiftedToNearest 2 = .ok (.if_icmp .lt 9, 3) := by decide +kernel
theorem dX2_shiftedToNearest_5 : decode cX2_shiftedToNearest 5 = .ok (.iload_n 2, 1) := by decide +kernel
theorem dX2_shiftedToNearest_6 : decode cX2_shiftedToNearest 6 = .ok (.bipush 63, 2) := by decide +kernel
theorem dX2_shiftedToNearest_8 : decode cX2_shiftedToNearest 8 = .ok (.if_icmp .le 14, 3) := by decide +kernel
theorem dX2_shiftedToNearest_11 : decode cX2_shiftedToNearest 11 = .ok (.iload_n 2, 1) := by decide +kernel
theorem dX2_shiftedToNearest_12 : decode cX2_shiftedToNearest 12 = .ok (.iconst 1, 1) := by decide +kernel
theorem dX2_shiftedToNearest_13 : decode cX2_shiftedToNearest 13 = .ok (.if_icmp .ge 7, 3) := by decide +kernel
theorem dX2_shiftedToNearest_16 : decode cX2_shiftedToNearest 16 = .ok (.lload_n 0, 1) := by decide +kernel
theorem dX2_shiftedToNearest_17 : decode cX2_shiftedToNearest 17 = .ok (.goto 4, 3) := by decide +kernel
theorem dX2_shiftedToNearest_20 : decode cX2_shiftedToNearest 20 = .ok (.lconst 0, 1) := by decide +kernel
theorem dX2_shiftedToNearest_21 : decode cX2_shiftedToNearest 21 = .ok (.lreturn, 1) := by decide +kernel
theorem dX2_shiftedToNearest_22 : decode cX2_shiftedToNearest 22 = .ok (.lload_n 0, 1) := by decide +kernel
theorem dX2_shiftedToNearest_23 : decode cX2_shiftedToNearest 23 = .ok (.iload_n 2, 1) := by decide +kernel
theorem dX2_shiftedToNearest_24 : decode cX2_shiftedToNearest 24 = .ok (.lushr, 1) := by decide +kernel
theorem dX2_shiftedToNearest_25 : decode cX2_shiftedToNearest 25 = .ok (.lstore_n 3, 1) := by decide +kernel
theorem dX2_shiftedToNearest_26 : decode cX2_shiftedToNearest 26 = .ok (.lload_n 0, 1) := by decide +kernel
theorem dX2_shiftedToNearest_27 : decode cX2_shiftedToNearest 27 = .ok (.lconst 1, 1) := by decide +kernel
theorem dX2_shiftedToNearest_28 : decode cX2_shiftedToNearest 28 = .ok (.iload_n 2, 1) := by decide +kernel
theorem dX2_shiftedToNearest_29 : decode cX2_shiftedToNearest 29 = .ok (.lshl, 1) := by decide +kernel
theorem dX2_shiftedToNearest_30 : decode cX2_shiftedToNearest 30 = .ok (.lconst 1, 1) := by decide +kernel
theorem dX2_shiftedToNearest_31 : decode cX2_shiftedToNearest 31 = .ok (.lsub, 1) := by decide +kernel
theorem dX2_shiftedToNearest_32 : decode cX2_shiftedToNearest 32 = .ok (.land, 1) := by decide +kernel
theorem dX2_shiftedToNearest_33 : decode cX2_shiftedToNearest 33 = .ok (.lstore 5, 2) := by decide +kernel
theorem dX2_shiftedToNearest_35 : decode cX2_shiftedToNearest 35 = .ok (.lconst 1, 1) := by decide +kernel
theorem dX2_shiftedToNearest_36 : decode cX2_shiftedToNearest 36 = .ok (.iload_n 2, 1) := by decide +kernel
theorem dX2_shiftedToNearest_37 : decode cX2_shiftedToNearest 37 = .ok (.iconst 1, 1) := by decide +kernel
theorem dX2_shiftedToNearest_38 : decode cX2_shiftedToNearest 38 = .ok (.isub, 1) := by decide +kernel
theorem dX2_shiftedToNearest_39 : decode cX2_shiftedToNearest 39 = .ok (.lshl, 1) := by decide +kernel
theorem dX2_shiftedToNearest_40 : decode cX2_shiftedToNearest 40 = .ok (.lstore 7, 2) := by decide +kernel
theorem dX2_shiftedToNearest_42 : decode cX2_shiftedToNearest 42 = .ok (.lload 5, 2) := by decide +kernel
theorem dX2_shiftedToNearest_44 : decode cX2_shiftedToNearest 44 = .ok (.lload 7, 2) := by decide +kernel
theorem dX2_shiftedToNearest_46 : decode cX2_shiftedToNearest 46 = .ok (.lcmp, 1) := by decide +kernel
theorem dX2_shiftedToNearest_47 : decode cX2_shiftedToNearest 47 = .ok (.ifCond .gt 19, 3) := by decide +kernel
theorem dX2_shiftedToNearest_50 : decode cX2_shiftedToNearest 50 = .ok (.lload 5, 2) := by decide +kernel
theorem dX2_shiftedToNearest_52 : decode cX2_shiftedToNearest 52 = .ok (.lload 7, 2) := by decide +kernel
theorem dX2_shiftedToNearest_54 : decode cX2_shiftedToNearest 54 = .ok (.lcmp, 1) := by decide +kernel
theorem dX2_shiftedToNearest_55 : decode cX2_shiftedToNearest 55 = .ok (.ifCond .ne 17, 3) := by decide +kernel
theorem dX2_shiftedToNearest_58 : decode cX2_shiftedToNearest 58 = .ok (.lload_n 3, 1) := by decide +kernel
theorem dX2_shiftedToNearest_59 : decode cX2_shiftedToNearest 59 = .ok (.lconst 1, 1) := by decide +kernel
theorem dX2_shiftedToNearest_60 : decode cX2_shiftedToNearest 60 = .ok (.land, 1) := by decide +kernel
theorem dX2_shiftedToNearest_61 : decode cX2_shiftedToNearest 61 = .ok (.lconst 1, 1) := by decide +kernel
theorem dX2_shiftedToNearest_62 : decode cX2_shiftedToNearest 62 = .ok (.lcmp, 1) := by decide +kernel
theorem dX2_shiftedToNearest_63 : decode cX2_shiftedToNearest 63 = .ok (.ifCond .ne 9, 3) := by decide +kernel
theorem dX2_shiftedToNearest_66 : decode cX2_shiftedToNearest 66 = .ok (.lload_n 3, 1) := by decide +kernel
theorem dX2_shiftedToNearest_67 : decode cX2_shiftedToNearest 67 = .ok (.lconst 1, 1) := by decide +kernel
theorem dX2_shiftedToNearest_68 : decode cX2_shiftedToNearest 68 = .ok (.ladd, 1) := by decide +kernel
theorem dX2_shiftedToNearest_69 : decode cX2_shiftedToNearest 69 = .ok (.goto 4, 3) := by decide +kernel
theorem dX2_shiftedToNearest_72 : decode cX2_shiftedToNearest 72 = .ok (.lload_n 3, 1) := by decide +kernel
theorem dX2_shiftedToNearest_73 : decode cX2_shiftedToNearest 73 = .ok (.lreturn, 1) := by decide +kernel
theorem dX2_shiftedWithTrace_0 : decode cX2_shiftedWithTrace 0 = .ok (.iload_n 2, 1) := by decide +kernel
theorem dX2_shiftedWithTrace_1 : decode cX2_shiftedWithTrace 1 = .ok (.iconst 1, 1) := by decide +kernel
theorem dX2_shiftedWithTrace_2 : decode cX2_shiftedWithTrace 2 = .ok (.if_icmp .lt 9, 3) := by decide +kernel
theorem dX2_shiftedWithTrace_5 : decode cX2_shiftedWithTrace 5 = .ok (.iload_n 2, 1) := by decide +kernel
theorem dX2_shiftedWithTrace_6 : decode cX2_shiftedWithTrace 6 = .ok (.bipush 62, 2) := by decide +kernel
theorem dX2_shiftedWithTrace_8 : decode cX2_shiftedWithTrace 8 = .ok (.if_icmp .le 14, 3) := by decide +kernel
theorem dX2_shiftedWithTrace_11 : decode cX2_shiftedWithTrace 11 = .ok (.iload_n 2, 1) := by decide +kernel
theorem dX2_shiftedWithTrace_12 : decode cX2_shiftedWithTrace 12 = .ok (.iconst 1, 1) := by decide +kernel
theorem dX2_shiftedWithTrace_13 : decode cX2_shiftedWithTrace 13 = .ok (.if_icmp .ge 7, 3) := by decide +kernel
theorem dX2_shiftedWithTrace_16 : decode cX2_shiftedWithTrace 16 = .ok (.lload_n 0, 1) := by decide +kernel
theorem dX2_shiftedWithTrace_17 : decode cX2_shiftedWithTrace 17 = .ok (.goto 4, 3) := by decide +kernel
theorem dX2_shiftedWithTrace_20 : decode cX2_shiftedWithTrace 20 = .ok (.lconst 1, 1) := by decide +kernel
theorem dX2_shiftedWithTrace_21 : decode cX2_shiftedWithTrace 21 = .ok (.lreturn, 1) := by decide +kernel
theorem dX2_shiftedWithTrace_22 : decode cX2_shiftedWithTrace 22 = .ok (.lload_n 0, 1) := by decide +kernel
theorem dX2_shiftedWithTrace_23 : decode cX2_shiftedWithTrace 23 = .ok (.lconst 1, 1) := by decide +kernel
theorem dX2_shiftedWithTrace_24 : decode cX2_shiftedWithTrace 24 = .ok (.iload_n 2, 1) := by decide +kernel
theorem dX2_shiftedWithTrace_25 : decode cX2_shiftedWithTrace 25 = .ok (.lshl, 1) := by decide +kernel
theorem dX2_shiftedWithTrace_26 : decode cX2_shiftedWithTrace 26 = .ok (.lconst 1, 1) := by decide +kernel
theorem dX2_shiftedWithTrace_27 : decode cX2_shiftedWithTrace 27 = .ok (.lsub, 1) := by decide +kernel
theorem dX2_shiftedWithTrace_28 : decode cX2_shiftedWithTrace 28 = .ok (.land, 1) := by decide +kernel
theorem dX2_shiftedWithTrace_29 : decode cX2_shiftedWithTrace 29 = .ok (.lstore_n 3, 1) := by decide +kernel
theorem dX2_shiftedWithTrace_30 : decode cX2_shiftedWithTrace 30 = .ok (.lload_n 0, 1) := by decide +kernel
theorem dX2_shiftedWithTrace_31 : decode cX2_shiftedWithTrace 31 = .ok (.iload_n 2, 1) := by decide +kernel
theorem dX2_shiftedWithTrace_32 : decode cX2_shiftedWithTrace 32 = .ok (.lushr, 1) := by decide +kernel
theorem dX2_shiftedWithTrace_33 : decode cX2_shiftedWithTrace 33 = .ok (.lload_n 3, 1) := by decide +kernel
theorem dX2_shiftedWithTrace_34 : decode cX2_shiftedWithTrace 34 = .ok (.lconst 0, 1) := by decide +kernel
theorem dX2_shiftedWithTrace_35 : decode cX2_shiftedWithTrace 35 = .ok (.lcmp, 1) := by decide +kernel
theorem dX2_shiftedWithTrace_36 : decode cX2_shiftedWithTrace 36 = .ok (.ifCond .ne 7, 3) := by decide +kernel
theorem dX2_shiftedWithTrace_39 : decode cX2_shiftedWithTrace 39 = .ok (.iconst 0, 1) := by decide +kernel
theorem dX2_shiftedWithTrace_40 : decode cX2_shiftedWithTrace 40 = .ok (.goto 4, 3) := by decide +kernel
theorem dX2_shiftedWithTrace_43 : decode cX2_shiftedWithTrace 43 = .ok (.iconst 1, 1) := by decide +kernel
theorem dX2_shiftedWithTrace_44 : decode cX2_shiftedWithTrace 44 = .ok (.i2l, 1) := by decide +kernel
theorem dX2_shiftedWithTrace_45 : decode cX2_shiftedWithTrace 45 = .ok (.lor, 1) := by decide +kernel
theorem dX2_shiftedWithTrace_46 : decode cX2_shiftedWithTrace 46 = .ok (.lreturn, 1) := by decide +kernel
theorem dX2_setSum_0 : decode cX2_setSum 0 = .ok (.aload_n 1, 1) := by decide +kernel
theorem dX2_setSum_1 : decode cX2_setSum 1 = .ok (.getfield 13, 3) := by decide +kernel
theorem dX2_setSum_4 : decode cX2_setSum 4 = .ok (.aload_n 2, 1) := by decide +kernel
theorem dX2_setSum_5 : decode cX2_setSum 5 = .ok (.getfield 13, 3) := by decide +kernel
theorem dX2_setSum_8 : decode cX2_setSum 8 = .ok (.if_icmp .eq 7, 3) := by decide +kernel
theorem dX2_setSum_11 : decode cX2_setSum 11 = .ok (.iconst 1, 1) := by decide +kernel
theorem dX2_setSum_12 : decode cX2_setSum 12 = .ok (.goto 4, 3) := by decide +kernel
theorem dX2_setSum_15 : decode cX2_setSum 15 = .ok (.iconst 0, 1) := by decide +kernel
theorem dX2_setSum_16 : decode cX2_setSum 16 = .ok (.istore_n 3, 1) := by decide +kernel
theorem dX2_setSum_17 : decode cX2_setSum 17 = .ok (.aload_n 1, 1) := by decide +kernel
theorem dX2_setSum_18 : decode cX2_setSum 18 = .ok (.getfield 9, 3) := by decide +kernel
theorem dX2_setSum_21 : decode cX2_setSum 21 = .ok (.iconst 3, 1) := by decide +kernel
theorem dX2_setSum_22 : decode cX2_setSum 22 = .ok (.if_icmp .eq 31, 3) := by decide +kernel
theorem dX2_setSum_25 : decode cX2_setSum 25 = .ok (.aload_n 2, 1) := by decide +kernel
theorem dX2_setSum_26 : decode cX2_setSum 26 = .ok (.getfield 9, 3) := by decide +kernel
theorem dX2_setSum_29 : decode cX2_setSum 29 = .ok (.iconst 3, 1) := by decide +kernel
theorem dX2_setSum_30 : decode cX2_setSum 30 = .ok (.if_icmp .eq 23, 3) := by decide +kernel
theorem dX2_setSum_33 : decode cX2_setSum 33 = .ok (.aload_n 1, 1) := by decide +kernel
theorem dX2_setSum_34 : decode cX2_setSum 34 = .ok (.getfield 9, 3) := by decide +kernel
theorem dX2_setSum_37 : decode cX2_setSum 37 = .ok (.iconst 2, 1) := by decide +kernel
theorem dX2_setSum_38 : decode cX2_setSum 38 = .ok (.if_icmp .ne 24, 3) := by decide +kernel
theorem dX2_setSum_41 : decode cX2_setSum 41 = .ok (.aload_n 2, 1) := by decide +kernel
theorem dX2_setSum_42 : decode cX2_setSum 42 = .ok (.getfield 9, 3) := by decide +kernel
theorem dX2_setSum_45 : decode cX2_setSum 45 = .ok (.iconst 2, 1) := by decide +kernel
theorem dX2_setSum_46 : decode cX2_setSum 46 = .ok (.if_icmp .ne 16, 3) := by decide +kernel
theorem dX2_setSum_49 : decode cX2_setSum 49 = .ok (.iload_n 3, 1) := by decide +kernel
theorem dX2_setSum_50 : decode cX2_setSum 50 = .ok (.ifCond .eq 12, 3) := by decide +kernel
theorem dX2_setSum_53 : decode cX2_setSum 53 = .ok (.aload_n 0, 1) := by decide +kernel
theorem dX2_setSum_54 : decode cX2_setSum 54 = .ok (.iconst 3, 1) := by decide +kernel
theorem dX2_setSum_55 : decode cX2_setSum 55 = .ok (.iconst 0, 1) := by decide +kernel
theorem dX2_setSum_56 : decode cX2_setSum 56 = .ok (.invokevirtual 24, 3) := by decide +kernel
theorem dX2_setSum_59 : decode cX2_setSum 59 = .ok (.goto 116, 3) := by decide +kernel
theorem dX2_setSum_62 : decode cX2_setSum 62 = .ok (.aload_n 1, 1) := by decide +kernel
theorem dX2_setSum_63 : decode cX2_setSum 63 = .ok (.getfield 9, 3) := by decide +kernel
theorem dX2_setSum_66 : decode cX2_setSum 66 = .ok (.ifCond .ne 37, 3) := by decide +kernel
theorem dX2_setSum_69 : decode cX2_setSum 69 = .ok (.aload_n 2, 1) := by decide +kernel
theorem dX2_setSum_70 : decode cX2_setSum 70 = .ok (.getfield 9, 3) := by decide +kernel
theorem dX2_setSum_73 : decode cX2_setSum 73 = .ok (.ifCond .ne 30, 3) := by decide +kernel
theorem dX2_setSum_76 : decode cX2_setSum 76 = .ok (.aload_n 0, 1) := by decide +kernel
theorem dX2_setSum_77 : decode cX2_setSum 77 = .ok (.iconst 0, 1) := by decide +kernel
theorem dX2_setSum_78 : decode cX2_setSum 78 = .ok (.aload_n 1, 1) := by decide +kernel
theorem dX2_setSum_79 : decode cX2_setSum 79 = .ok (.getfield 13, 3) := by decide +kernel
theorem dX2_setSum_82 : decode cX2_setSum 82 = .ok (.ifCond .eq 14, 3) := by decide +kernel
theorem dX2_setSum_85 : decode cX2_setSum 85 = .ok (.aload_n 2, 1) := by decide +kernel
theorem dX2_setSum_86 : decode cX2_setSum 86 = .ok (.getfield 13, 3) := by decide +kernel
theorem dX2_setSum_89 : decode cX2_setSum 89 = .ok (.ifCond .eq 7, 3) := by decide +kernel
theorem dX2_setSum_92 : decode cX2_setSum 92 = .ok (.iconst 1, 1) := by decide +kernel
theorem dX2_setSum_93 : decode cX2_setSum 93 = .ok (.goto 4, 3) := by decide +kernel
theorem dX2_setSum_96 : decode cX2_setSum 96 = .ok (.iconst 0, 1) := by decide +kernel
theorem dX2_setSum_97 : decode cX2_setSum 97 = .ok (.invokevirtual 24, 3) := by decide +kernel
theorem dX2_setSum_100 : decode cX2_setSum 100 = .ok (.goto 75, 3) := by decide +kernel
theorem dX2_setSum_103 : decode cX2_setSum 103 = .ok (.aload_n 1, 1) := by decide +kernel
theorem dX2_setSum_104 : decode cX2_setSum 104 = .ok (.getfield 9, 3) := by decide +kernel
theorem dX2_setSum_107 : decode cX2_setSum 107 = .ok (.iconst 2, 1) := by decide +kernel
theorem dX2_setSum_108 : decode cX2_setSum 108 = .ok (.if_icmp .eq 10, 3) := by decide +kernel
theorem dX2_setSum_111 : decode cX2_setSum 111 = .ok (.aload_n 2, 1) := by decide +kernel
theorem dX2_setSum_112 : decode cX2_setSum 112 = .ok (.getfield 9, 3) := by decide +kernel
theorem dX2_setSum_115 : decode cX2_setSum 115 = .ok (.ifCond .ne 11, 3) := by decide +kernel
theorem dX2_setSum_118 : decode cX2_setSum 118 = .ok (.aload_n 0, 1) := by decide +kernel
theorem dX2_setSum_119 : decode cX2_setSum 119 = .ok (.aload_n 1, 1) := by decide +kernel
theorem dX2_setSum_120 : decode cX2_setSum 120 = .ok (.invokevirtual 64, 3) := by decide +kernel
theorem dX2_setSum_123 : decode cX2_setSum 123 = .ok (.goto 52, 3) := by decide +kernel
theorem dX2_setSum_126 : decode cX2_setSum 126 = .ok (.aload_n 2, 1) := by decide +kernel
theorem dX2_setSum_127 : decode cX2_setSum 127 = .ok (.getfield 9, 3) := by decide +kernel
theorem dX2_setSum_130 : decode cX2_setSum 130 = .ok (.iconst 2, 1) := by decide +kernel
theorem dX2_setSum_131 : decode cX2_setSum 131 = .ok (.if_icmp .eq 10, 3) := by decide +kernel
theorem dX2_setSum_134 : decode cX2_setSum 134 = .ok (.aload_n 1, 1) := by decide +kernel
theorem dX2_setSum_135 : decode cX2_setSum 135 = .ok (.getfield 9, 3) := by decide +kernel
theorem dX2_setSum_138 : decode cX2_setSum 138 = .ok (.ifCond .ne 11, 3) := by decide +kernel
theorem dX2_setSum_141 : decode cX2_setSum 141 = .ok (.aload_n 0, 1) := by decide +kernel
theorem dX2_setSum_142 : decode cX2_setSum 142 = .ok (.aload_n 2, 1) := by decide +kernel
theorem dX2_setSum_143 : decode cX2_setSum 143 = .ok (.invokevirtual 64, 3) := by decide +kernel
theorem dX2_setSum_146 : decode cX2_setSum 146 = .ok (.goto 29, 3) := by decide +kernel
theorem dX2_setSum_149 : decode cX2_setSum 149 = .ok (.aload_n 1, 1) := by decide +kernel
theorem dX2_setSum_150 : decode cX2_setSum 150 = .ok (.getfield 21, 3) := by decide +kernel
theorem dX2_setSum_153 : decode cX2_setSum 153 = .ok (.aload_n 2, 1) := by decide +kernel
theorem dX2_setSum_154 : decode cX2_setSum 154 = .ok (.getfield 21, 3) := by decide +kernel
theorem dX2_setSum_157 : decode cX2_setSum 157 = .ok (.if_icmp .lt 12, 3) := by decide +kernel
theorem dX2_setSum_160 : decode cX2_setSum 160 = .ok (.aload_n 0, 1) := by decide +kernel
theorem dX2_setSum_161 : decode cX2_setSum 161 = .ok (.aload_n 1, 1) := by decide +kernel
theorem dX2_setSum_162 : decode cX2_setSum 162 = .ok (.aload_n 2, 1) := by decide +kernel
theorem dX2_setSum_163 : decode cX2_setSum 163 = .ok (.invokevirtual 68, 3) := by decide +kernel
theorem dX2_setSum_166 : decode cX2_setSum 166 = .ok (.goto 9, 3) := by decide +kernel
theorem dX2_setSum_169 : decode cX2_setSum 169 = .ok (.aload_n 0, 1) := by decide +kernel
theorem dX2_setSum_170 : decode cX2_setSum 170 = .ok (.aload_n 2, 1) := by decide +kernel
theorem dX2_setSum_171 : decode cX2_setSum 171 = .ok (.aload_n 1, 1) := by decide +kernel
theorem dX2_setSum_172 : decode cX2_setSum 172 = .ok (.invokevirtual 68, 3) := by decide +kernel
theorem dX2_setSum_175 : decode cX2_setSum 175 = .ok (.return_, 1) := by decide +kernel
theorem dX2_setFiniteSum_0 : decode cX2_setFiniteSum 0 = .ok (.aload_n 1, 1) := by decide +kernel
theorem dX2_setFiniteSum_1 : decode cX2_setFiniteSum 1 = .ok (.getfield 17, 3) := by decide +kernel
theorem dX2_setFiniteSum_4 : decode cX2_setFiniteSum 4 = .ok (.iconst 1, 1) := by decide +kernel
theorem dX2_setFiniteSum_5 : decode cX2_setFiniteSum 5 = .ok (.lushr, 1) := by decide +kernel
theorem dX2_setFiniteSum_6 : decode cX2_setFiniteSum 6 = .ok (.lstore_n 3, 1) := by decide +kernel
theorem dX2_setFiniteSum_7 : decode cX2_setFiniteSum 7 = .ok (.aload_n 2, 1) := by decide +kernel
theorem dX2_setFiniteSum_8 : decode cX2_setFiniteSum 8 = .ok (.getfield 17, 3) := by decide +kernel
theorem dX2_setFiniteSum_11 : decode cX2_setFiniteSum 11 = .ok (.iconst 1, 1) := by decide +kernel
theorem dX2_setFiniteSum_12 : decode cX2_setFiniteSum 12 = .ok (.lushr, 1) := by decide +kernel
theorem dX2_setFiniteSum_13 : decode cX2_setFiniteSum 13 = .ok (.aload_n 1, 1) := by decide +kernel
theorem dX2_setFiniteSum_14 : decode cX2_setFiniteSum 14 = .ok (.getfield 21, 3) := by decide +kernel
theorem dX2_setFiniteSum_17 : decode cX2_setFiniteSum 17 = .ok (.aload_n 2, 1) := by decide +kernel
theorem dX2_setFiniteSum_18 : decode cX2_setFiniteSum 18 = .ok (.getfield 21, 3) := by decide +kernel
theorem dX2_setFiniteSum_21 : decode cX2_setFiniteSum 21 = .ok (.isub, 1) := by decide +kernel
theorem dX2_setFiniteSum_22 : decode cX2_setFiniteSum 22 = .ok (.invokestatic 72, 3) := by decide +kernel
theorem dX2_setFiniteSum_25 : decode cX2_setFiniteSum 25 = .ok (.lstore 5, 2) := by decide +kernel
theorem dX2_setFiniteSum_27 : decode cX2_setFiniteSum 27 = .ok (.aload_n 1, 1) := by decide +kernel
theorem dX2_setFiniteSum_28 : decode cX2_setFiniteSum 28 = .ok (.getfield 13, 3) := by decide +kernel
theorem dX2_setFiniteSum_31 : decode cX2_setFiniteSum 31 = .ok (.aload_n 2, 1) := by decide +kernel
theorem dX2_setFiniteSum_32 : decode cX2_setFiniteSum 32 = .ok (.getfield 13, 3) := by decide +kernel
theorem dX2_setFiniteSum_35 : decode cX2_setFiniteSum 35 = .ok (.if_icmp .ne 10, 3) := by decide +kernel
theorem dX2_setFiniteSum_38 : decode cX2_setFiniteSum 38 = .ok (.lload_n 3, 1) := by decide +kernel
theorem dX2_setFiniteSum_39 : decode cX2_setFiniteSum 39 = .ok (.lload 5, 2) := by decide +kernel
theorem dX2_setFiniteSum_41 : decode cX2_setFiniteSum 41 = .ok (.ladd, 1) := by decide +kernel
theorem dX2_setFiniteSum_42 : decode cX2_setFiniteSum 42 = .ok (.goto 7, 3) := by decide +kernel
theorem dX2_setFiniteSum_45 : decode cX2_setFiniteSum 45 = .ok (.lload_n 3, 1) := by decide +kernel
theorem dX2_setFiniteSum_46 : decode cX2_setFiniteSum 46 = .ok (.lload 5, 2) := by decide +kernel
theorem dX2_setFiniteSum_48 : decode cX2_setFiniteSum 48 = .ok (.lsub, 1) := by decide +kernel
theorem dX2_setFiniteSum_49 : decode cX2_setFiniteSum 49 = .ok (.lstore 7, 2) := by decide +kernel
theorem dX2_setFiniteSum_51 : decode cX2_setFiniteSum 51 = .ok (.lload 7, 2) := by decide +kernel
theorem dX2_setFiniteSum_53 : decode cX2_setFiniteSum 53 = .ok (.lconst 0, 1) := by decide +kernel
theorem dX2_setFiniteSum_54 : decode cX2_setFiniteSum 54 = .ok (.lcmp, 1) := by decide +kernel
theorem dX2_setFiniteSum_55 : decode cX2_setFiniteSum 55 = .ok (.ifCond .ne 12, 3) := by decide +kernel
theorem dX2_setFiniteSum_58 : decode cX2_setFiniteSum 58 = .ok (.aload_n 0, 1) := by decide +kernel
theorem dX2_setFiniteSum_59 : decode cX2_setFiniteSum 59 = .ok (.iconst 0, 1) := by decide +kernel
theorem dX2_setFiniteSum_60 : decode cX2_setFiniteSum 60 = .ok (.iconst 0, 1) := by decide +kernel
theorem dX2_setFiniteSum_61 : decode cX2_setFiniteSum 61 = .ok (.invokevirtual 24, 3) := by decide +kernel
theorem dX2_setFiniteSum_64 : decode cX2_setFiniteSum 64 = .ok (.goto 42, 3) := by decide +kernel
theorem dX2_setFiniteSum_67 : decode cX2_setFiniteSum 67 = .ok (.aload_n 0, 1) := by decide +kernel
theorem dX2_setFiniteSum_68 : decode cX2_setFiniteSum 68 = .ok (.aload_n 1, 1) := by decide +kernel
theorem dX2_setFiniteSum_69 : decode cX2_setFiniteSum 69 = .ok (.getfield 13, 3) := by decide +kernel
theorem dX2_setFiniteSum_72 : decode cX2_setFiniteSum 72 = .ok (.lload 7, 2) := by decide +kernel
theorem dX2_setFiniteSum_74 : decode cX2_setFiniteSum 74 = .ok (.lconst 0, 1) := by decide +kernel
theorem dX2_setFiniteSum_75 : decode cX2_setFiniteSum 75 = .ok (.lcmp, 1) := by decide +kernel
theorem dX2_setFiniteSum_76 : decode cX2_setFiniteSum 76 = .ok (.ifCond .ge 7, 3) := by decide +kernel
theorem dX2_setFiniteSum_79 : decode cX2_setFiniteSum 79 = .ok (.iconst 1, 1) := by decide +kernel
theorem dX2_setFiniteSum_80 : decode cX2_setFiniteSum 80 = .ok (.goto 4, 3) := by decide +kernel
theorem dX2_setFiniteSum_83 : decode cX2_setFiniteSum 83 = .ok (.iconst 0, 1) := by decide +kernel
theorem dX2_setFiniteSum_84 : decode cX2_setFiniteSum 84 = .ok (.if_icmp .eq 7, 3) := by decide +kernel
theorem dX2_setFiniteSum_87 : decode cX2_setFiniteSum 87 = .ok (.iconst 1, 1) := by decide +kernel
theorem dX2_setFiniteSum_88 : decode cX2_setFiniteSum 88 = .ok (.goto 4, 3) := by decide +kernel
theorem dX2_setFiniteSum_91 : decode cX2_setFiniteSum 91 = .ok (.iconst 0, 1) := by decide +kernel
theorem dX2_setFiniteSum_92 : decode cX2_setFiniteSum 92 = .ok (.lload 7, 2) := by decide +kernel
theorem dX2_setFiniteSum_94 : decode cX2_setFiniteSum 94 = .ok (.invokestatic 38, 3) := by decide +kernel
theorem dX2_setFiniteSum_97 : decode cX2_setFiniteSum 97 = .ok (.aload_n 1, 1) := by decide +kernel
theorem dX2_setFiniteSum_98 : decode cX2_setFiniteSum 98 = .ok (.getfield 21, 3) := by decide +kernel
theorem dX2_setFiniteSum_101 : decode cX2_setFiniteSum 101 = .ok (.iconst 1, 1) := by decide +kernel
theorem dX2_setFiniteSum_102 : decode cX2_setFiniteSum 102 = .ok (.iadd, 1) := by decide +kernel
theorem dX2_setFiniteSum_103 : decode cX2_setFiniteSum 103 = .ok (.invokevirtual 34, 3) := by decide +kernel
theorem dX2_setFiniteSum_106 : decode cX2_setFiniteSum 106 = .ok (.return_, 1) := by decide +kernel
theorem dX2_setProduct_0 : decode cX2_setProduct 0 = .ok (.aload_n 1, 1) := by decide +kernel
theorem dX2_setProduct_1 : decode cX2_setProduct 1 = .ok (.getfield 13, 3) := by decide +kernel
theorem dX2_setProduct_4 : decode cX2_setProduct 4 = .ok (.aload_n 2, 1) := by decide +kernel
theorem dX2_setProduct_5 : decode cX2_setProduct 5 = .ok (.getfield 13, 3) := by decide +kernel
theorem dX2_setProduct_8 : decode cX2_setProduct 8 = .ok (.if_icmp .eq 7, 3) := by decide +kernel
theorem dX2_setProduct_11 : decode cX2_setProduct 11 = .ok (.iconst 1, 1) := by decide +kernel
theorem dX2_setProduct_12 : decode cX2_setProduct 12 = .ok (.goto 4, 3) := by decide +kernel
theorem dX2_setProduct_15 : decode cX2_setProduct 15 = .ok (.iconst 0, 1) := by decide +kernel
theorem dX2_setProduct_16 : decode cX2_setProduct 16 = .ok (.istore_n 3, 1) := by decide +kernel
theorem dX2_setProduct_17 : decode cX2_setProduct 17 = .ok (.aload_n 1, 1) := by decide +kernel
theorem dX2_setProduct_18 : decode cX2_setProduct 18 = .ok (.getfield 9, 3) := by decide +kernel
theorem dX2_setProduct_21 : decode cX2_setProduct 21 = .ok (.ifCond .eq 10, 3) := by decide +kernel
theorem dX2_setProduct_24 : decode cX2_setProduct 24 = .ok (.aload_n 2, 1) := by decide +kernel
theorem dX2_setProduct_25 : decode cX2_setProduct 25 = .ok (.getfield 9, 3) := by decide +kernel
theorem dX2_setProduct_28 : decode cX2_setProduct 28 = .ok (.ifCond .ne 7, 3) := by decide +kernel
theorem dX2_setProduct_31 : decode cX2_setProduct 31 = .ok (.iconst 1, 1) := by decide +kernel
theorem dX2_setProduct_32 : decode cX2_setProduct 32 = .ok (.goto 4, 3) := by decide +kernel
theorem dX2_setProduct_35 : decode cX2_setProduct 35 = .ok (.iconst 0, 1) := by decide +kernel
theorem dX2_setProduct_36 : decode cX2_setProduct 36 = .ok (.istore 4, 2) := by decide +kernel
theorem dX2_setProduct_38 : decode cX2_setProduct 38 = .ok (.aload_n 1, 1) := by decide +kernel
theorem dX2_setProduct_39 : decode cX2_setProduct 39 = .ok (.getfield 9, 3) := by decide +kernel
theorem dX2_setProduct_42 : decode cX2_setProduct 42 = .ok (.iconst 2, 1) := by decide +kernel
theorem dX2_setProduct_43 : decode cX2_setProduct 43 = .ok (.if_icmp .eq 11, 3) := by decide +kernel
theorem dX2_setProduct_46 : decode cX2_setProduct 46 = .ok (.aload_n 2, 1) := by decide +kernel
theorem dX2_setProduct_47 : decode cX2_setProduct 47 = .ok (.getfield 9, 3) := by decide +kernel
theorem dX2_setProduct_50 : decode cX2_setProduct 50 = .ok (.iconst 2, 1) := by decide +kernel
theorem dX2_setProduct_51 : decode cX2_setProduct 51 = .ok (.if_icmp .ne 7, 3) := by decide +kernel
theorem dX2_setProduct_54 : decode cX2_setProduct 54 = .ok (.iconst 1, 1) := by decide +kernel
theorem dX2_setProduct_55 : decode cX2_setProduct 55 = .ok (.goto 4, 3) := by decide +kernel
theorem dX2_setProduct_58 : decode cX2_setProduct 58 = .ok (.iconst 0, 1) := by decide +kernel
theorem dX2_setProduct_59 : decode cX2_setProduct 59 = .ok (.istore 5, 2) := by decide +kernel
theorem dX2_setProduct_61 : decode cX2_setProduct 61 = .ok (.aload_n 1, 1) := by decide +kernel
theorem dX2_setProduct_62 : decode cX2_setProduct 62 = .ok (.getfield 9, 3) := by decide +kernel
theorem dX2_setProduct_65 : decode cX2_setProduct 65 = .ok (.iconst 3, 1) := by decide +kernel
theorem dX2_setProduct_66 : decode cX2_setProduct 66 = .ok (.if_icmp .eq 21, 3) := by decide +kernel
theorem dX2_setProduct_69 : decode cX2_setProduct 69 = .ok (.aload_n 2, 1) := by decide +kernel
theorem dX2_setProduct_70 : decode cX2_setProduct 70 = .ok (.getfield 9, 3) := by decide +kernel
theorem dX2_setProduct_73 : decode cX2_setProduct 73 = .ok (.iconst 3, 1) := by decide +kernel
theorem dX2_setProduct_74 : decode cX2_setProduct 74 = .ok (.if_icmp .eq 13, 3) := by decide +kernel
theorem dX2_setProduct_77 : decode cX2_setProduct 77 = .ok (.iload 4, 2) := by decide +kernel
theorem dX2_setProduct_79 : decode cX2_setProduct 79 = .ok (.ifCond .eq 17, 3) := by decide +kernel
theorem dX2_setProduct_82 : decode cX2_setProduct 82 = .ok (.iload 5, 2) := by decide +kernel
theorem dX2_setProduct_84 : decode cX2_setProduct 84 = .ok (.ifCond .eq 12, 3) := by decide +kernel
theorem dX2_setProduct_87 : decode cX2_setProduct 87 = .ok (.aload_n 0, 1) := by decide +kernel
theorem dX2_setProduct_88 : decode cX2_setProduct 88 = .ok (.iconst 3, 1) := by decide +kernel
theorem dX2_setProduct_89 : decode cX2_setProduct 89 = .ok (.iconst 0, 1) := by decide +kernel
theorem dX2_setProduct_90 : decode cX2_setProduct 90 = .ok (.invokevirtual 24, 3) := by decide +kernel
theorem dX2_setProduct_93 : decode cX2_setProduct 93 = .ok (.goto 38, 3) := by decide +kernel
theorem dX2_setProduct_96 : decode cX2_setProduct 96 = .ok (.iload 4, 2) := by decide +kernel
theorem dX2_setProduct_98 : decode cX2_setProduct 98 = .ok (.ifCond .ne 8, 3) := by decide +kernel
theorem dX2_setProduct_101 : decode cX2_setProduct 101 = .ok (.iload 5, 2) := by decide +kernel
theorem dX2_setProduct_103 : decode cX2_setProduct 103 = .ok (.ifCond .eq 21, 3) := by decide +kernel
theorem dX2_setProduct_106 : decode cX2_setProduct 106 = .ok (.aload_n 0, 1) := by decide +kernel
theorem dX2_setProduct_107 : decode cX2_setProduct 107 = .ok (.iload 4, 2) := by decide +kernel
theorem dX2_setProduct_109 : decode cX2_setProduct 109 = .ok (.ifCond .eq 7, 3) := by decide +kernel
theorem dX2_setProduct_112 : decode cX2_setProduct 112 = .ok (.iconst 0, 1) := by decide +kernel
theorem dX2_setProduct_113 : decode cX2_setProduct 113 = .ok (.goto 4, 3) := by decide +kernel
theorem dX2_setProduct_116 : decode cX2_setProduct 116 = .ok (.iconst 2, 1) := by decide +kernel
theorem dX2_setProduct_117 : decode cX2_setProduct 117 = .ok (.iload_n 3, 1) := by decide +kernel
theorem dX2_setProduct_118 : decode cX2_setProduct 118 = .ok (.invokevirtual 24, 3) := by decide +kernel
theorem dX2_setProduct_121 : decode cX2_setProduct 121 = .ok (.goto 10, 3) := by decide +kernel
theorem dX2_setProduct_124 : decode cX2_setProduct 124 = .ok (.aload_n 0, 1) := by decide +kernel
theorem dX2_setProduct_125 : decode cX2_setProduct 125 = .ok (.iload_n 3, 1) := by decide +kernel
theorem dX2_setProduct_126 : decode cX2_setProduct 126 = .ok (.aload_n 1, 1) := by decide +kernel
theorem dX2_setProduct_127 : decode cX2_setProduct 127 = .ok (.aload_n 2, 1) := by decide +kernel
theorem dX2_setProduct_128 : decode cX2_setProduct 128 = .ok (.invokevirtual 75, 3) := by decide +kernel
theorem dX2_setProduct_131 : decode cX2_setProduct 131 = .ok (.return_, 1) := by decide +kernel
theorem dX2_setFiniteProduct_0 : decode cX2_setFiniteProduct 0 = .ok (.bipush 27, 2) := by decide +kernel
theorem dX2_setFiniteProduct_2 : decode cX2_setFiniteProduct 2 = .ok (.istore 4, 2) := by decide +kernel
theorem dX2_setFiniteProduct_4 : decode cX2_setFiniteProduct 4 = .ok (.lconst 1, 1) := by decide +kernel
theorem dX2_setFiniteProduct_5 : decode cX2_setFiniteProduct 5 = .ok (.iload 4, 2) := by decide +kernel
theorem dX2_setFiniteProduct_7 : decode cX2_setFiniteProduct 7 = .ok (.lshl, 1) := by decide +kernel
theorem dX2_setFiniteProduct_8 : decode cX2_setFiniteProduct 8 = .ok (.lconst 1, 1) := by decide +kernel
theorem dX2_setFiniteProduct_9 : decode cX2_setFiniteProduct 9 = .ok (.lsub, 1) := by decide +kernel
theorem dX2_setFiniteProduct_10 : decode cX2_setFiniteProduct 10 = .ok (.lstore 5, 2) := by decide +kernel
theorem dX2_setFiniteProduct_12 : decode cX2_setFiniteProduct 12 = .ok (.aload_n 2, 1) := by decide +kernel
theorem dX2_setFiniteProduct_13 : decode cX2_setFiniteProduct 13 = .ok (.getfield 17, 3) := by decide +kernel
theorem dX2_setFiniteProduct_16 : decode cX2_setFiniteProduct 16 = .ok (.bipush 10, 2) := by decide +kernel
theorem dX2_setFiniteProduct_18 : decode cX2_setFiniteProduct 18 = .ok (.lushr, 1) := by decide +kernel
theorem dX2_setFiniteProduct_19 : decode cX2_setFiniteProduct 19 = .ok (.lstore 7, 2) := by decide +kernel
theorem dX2_setFiniteProduct_21 : decode cX2_setFiniteProduct 21 = .ok (.aload_n 3, 1) := by decide +kernel
theorem dX2_setFiniteProduct_22 : decode cX2_setFiniteProduct 22 = .ok (.getfield 17, 3) := by decide +kernel
theorem dX2_setFiniteProduct_25 : decode cX2_setFiniteProduct 25 = .ok (.bipush 10, 2) := by decide +kernel
theorem dX2_setFiniteProduct_27 : decode cX2_setFiniteProduct 27 = .ok (.lushr, 1) := by decide +kernel
theorem dX2_setFiniteProduct_28 : decode cX2_setFiniteProduct 28 = .ok (.lstore 9, 2) := by decide +kernel
theorem dX2_setFiniteProduct_30 : decode cX2_setFiniteProduct 30 = .ok (.lload 7, 2) := by decide +kernel
theorem dX2_setFiniteProduct_32 : decode cX2_setFiniteProduct 32 = .ok (.iload 4, 2) := by decide +kernel
theorem dX2_setFiniteProduct_34 : decode cX2_setFiniteProduct 34 = .ok (.lushr, 1) := by decide +kernel
theorem dX2_setFiniteProduct_35 : decode cX2_setFiniteProduct 35 = .ok (.lload 9, 2) := by decide +kernel
theorem dX2_setFiniteProduct_37 : decode cX2_setFiniteProduct 37 = .ok (.lload 5, 2) := by decide +kernel
theorem dX2_setFiniteProduct_39 : decode cX2_setFiniteProduct 39 = .ok (.land, 1) := by decide +kernel
theorem dX2_setFiniteProduct_40 : decode cX2_setFiniteProduct 40 = .ok (.lmul, 1) := by decide +kernel
theorem dX2_setFiniteProduct_41 : decode cX2_setFiniteProduct 41 = .ok (.lload 7, 2) := by decide +kernel
theorem dX2_setFiniteProduct_43 : decode cX2_setFiniteProduct 43 = .ok (.lload 5, 2) := by decide +kernel
theorem dX2_setFiniteProduct_45 : decode cX2_setFiniteProduct 45 = .ok (.land, 1) := by decide +kernel
theorem dX2_setFiniteProduct_46 : decode cX2_setFiniteProduct 46 = .ok (.lload 9, 2) := by decide +kernel
theorem dX2_setFiniteProduct_48 : decode cX2_setFiniteProduct 48 = .ok (.iload 4, 2) := by decide +kernel
theorem dX2_setFiniteProduct_50 : decode cX2_setFiniteProduct 50 = .ok (.lushr, 1) := by decide +kernel
theorem dX2_setFiniteProduct_51 : decode cX2_setFiniteProduct 51 = .ok (.lmul, 1) := by decide +kernel
theorem dX2_setFiniteProduct_52 : decode cX2_setFiniteProduct 52 = .ok (.ladd, 1) := by decide +kernel
theorem dX2_setFiniteProduct_53 : decode cX2_setFiniteProduct 53 = .ok (.lstore 11, 2) := by decide +kernel
theorem dX2_setFiniteProduct_55 : decode cX2_setFiniteProduct 55 = .ok (.lload 7, 2) := by decide +kernel
theorem dX2_setFiniteProduct_57 : decode cX2_setFiniteProduct 57 = .ok (.lload 5, 2) := by decide +kernel
theorem dX2_setFiniteProduct_59 : decode cX2_setFiniteProduct 59 = .ok (.land, 1) := by decide +kernel
theorem dX2_setFiniteProduct_60 : decode cX2_setFiniteProduct 60 = .ok (.lload 9, 2) := by decide +kernel
theorem dX2_setFiniteProduct_62 : decode cX2_setFiniteProduct 62 = .ok (.lload 5, 2) := by decide +kernel
theorem dX2_setFiniteProduct_64 : decode cX2_setFiniteProduct 64 = .ok (.land, 1) := by decide +kernel
theorem dX2_setFiniteProduct_65 : decode cX2_setFiniteProduct 65 = .ok (.lmul, 1) := by decide +kernel
theorem dX2_setFiniteProduct_66 : decode cX2_setFiniteProduct 66 = .ok (.lload 11, 2) := by decide +kernel
theorem dX2_setFiniteProduct_68 : decode cX2_setFiniteProduct 68 = .ok (.lload 5, 2) := by decide +kernel
theorem dX2_setFiniteProduct_70 : decode cX2_setFiniteProduct 70 = .ok (.land, 1) := by decide +kernel
theorem dX2_setFiniteProduct_71 : decode cX2_setFiniteProduct 71 = .ok (.iload 4, 2) := by decide +kernel
theorem dX2_setFiniteProduct_73 : decode cX2_setFiniteProduct 73 = .ok (.lshl, 1) := by decide +kernel
theorem dX2_setFiniteProduct_74 : decode cX2_setFiniteProduct 74 = .ok (.ladd, 1) := by decide +kernel
theorem dX2_setFiniteProduct_75 : decode cX2_setFiniteProduct 75 = .ok (.lstore 13, 2) := by decide +kernel
theorem dX2_setFiniteProduct_77 : decode cX2_setFiniteProduct 77 = .ok (.lload 7, 2) := by decide +kernel
theorem dX2_setFiniteProduct_79 : decode cX2_setFiniteProduct 79 = .ok (.iload 4, 2) := by decide +kernel
theorem dX2_setFiniteProduct_81 : decode cX2_setFiniteProduct 81 = .ok (.lushr, 1) := by decide +kernel
theorem dX2_setFiniteProduct_82 : decode cX2_setFiniteProduct 82 = .ok (.lload 9, 2) := by decide +kernel
theorem dX2_setFiniteProduct_84 : decode cX2_setFiniteProduct 84 = .ok (.iload 4, 2) := by decide +kernel
theorem dX2_setFiniteProduct_86 : decode cX2_setFiniteProduct 86 = .ok (.lushr, 1) := by decide +kernel
theorem dX2_setFiniteProduct_87 : decode cX2_setFiniteProduct 87 = .ok (.lmul, 1) := by decide +kernel
theorem dX2_setFiniteProduct_88 : decode cX2_setFiniteProduct 88 = .ok (.lload 11, 2) := by decide +kernel
theorem dX2_setFiniteProduct_90 : decode cX2_setFiniteProduct 90 = .ok (.iload 4, 2) := by decide +kernel
theorem dX2_setFiniteProduct_92 : decode cX2_setFiniteProduct 92 = .ok (.lushr, 1) := by decide +kernel
theorem dX2_setFiniteProduct_93 : decode cX2_setFiniteProduct 93 = .ok (.ladd, 1) := by decide +kernel
theorem dX2_setFiniteProduct_94 : decode cX2_setFiniteProduct 94 = .ok (.lload 13, 2) := by decide +kernel
theorem dX2_setFiniteProduct_96 : decode cX2_setFiniteProduct 96 = .ok (.iconst 2, 1) := by decide +kernel
theorem dX2_setFiniteProduct_97 : decode cX2_setFiniteProduct 97 = .ok (.iload 4, 2) := by decide +kernel
theorem dX2_setFiniteProduct_99 : decode cX2_setFiniteProduct 99 = .ok (.imul, 1) := by decide +kernel
theorem dX2_setFiniteProduct_100 : decode cX2_setFiniteProduct 100 = .ok (.lushr, 1) := by decide +kernel
theorem dX2_setFiniteProduct_101 : decode cX2_setFiniteProduct 101 = .ok (.ladd, 1) := by decide +kernel
theorem dX2_setFiniteProduct_102 : decode cX2_setFiniteProduct 102 = .ok (.lstore 15, 2) := by decide +kernel
theorem dX2_setFiniteProduct_104 : decode cX2_setFiniteProduct 104 = .ok (.lload 13, 2) := by decide +kernel
theorem dX2_setFiniteProduct_106 : decode cX2_setFiniteProduct 106 = .ok (.lconst 1, 1) := by decide +kernel
theorem dX2_setFiniteProduct_107 : decode cX2_setFiniteProduct 107 = .ok (.iconst 2, 1) := by decide +kernel
theorem dX2_setFiniteProduct_108 : decode cX2_setFiniteProduct 108 = .ok (.iload 4, 2) := by decide +kernel
theorem dX2_setFiniteProduct_110 : decode cX2_setFiniteProduct 110 = .ok (.imul, 1) := by decide +kernel
theorem dX2_setFiniteProduct_111 : decode cX2_setFiniteProduct 111 = .ok (.lshl, 1) := by decide +kernel
theorem dX2_setFiniteProduct_112 : decode cX2_setFiniteProduct 112 = .ok (.lconst 1, 1) := by decide +kernel
theorem dX2_setFiniteProduct_113 : decode cX2_setFiniteProduct 113 = .ok (.lsub, 1) := by decide +kernel
theorem dX2_setFiniteProduct_114 : decode cX2_setFiniteProduct 114 = .ok (.land, 1) := by decide +kernel
theorem dX2_setFiniteProduct_115 : decode cX2_setFiniteProduct 115 = .ok (.lstore 17, 2) := by decide +kernel
theorem dX2_setFiniteProduct_117 : decode cX2_setFiniteProduct 117 = .ok (.iconst 2, 1) := by decide +kernel
theorem dX2_setFiniteProduct_118 : decode cX2_setFiniteProduct 118 = .ok (.iload 4, 2) := by decide +kernel
theorem dX2_setFiniteProduct_120 : decode cX2_setFiniteProduct 120 = .ok (.imul, 1) := by decide +kernel
theorem dX2_setFiniteProduct_121 : decode cX2_setFiniteProduct 121 = .ok (.bipush 10, 2) := by decide +kernel
theorem dX2_setFiniteProduct_123 : decode cX2_setFiniteProduct 123 = .ok (.isub, 1) := by decide +kernel
theorem dX2_setFiniteProduct_124 : decode cX2_setFiniteProduct 124 = .ok (.istore 19, 2) := by decide +kernel
theorem dX2_setFiniteProduct_126 : decode cX2_setFiniteProduct 126 = .ok (.lload 15, 2) := by decide +kernel
theorem dX2_setFiniteProduct_128 : decode cX2_setFiniteProduct 128 = .ok (.bipush 10, 2) := by decide +kernel
theorem dX2_setFiniteProduct_130 : decode cX2_setFiniteProduct 130 = .ok (.lshl, 1) := by decide +kernel
theorem dX2_setFiniteProduct_131 : decode cX2_setFiniteProduct 131 = .ok (.lload 17, 2) := by decide +kernel
theorem dX2_setFiniteProduct_133 : decode cX2_setFiniteProduct 133 = .ok (.iload 19, 2) := by decide +kernel
theorem dX2_setFiniteProduct_135 : decode cX2_setFiniteProduct 135 = .ok (.invokestatic 72, 3) := by decide +kernel
theorem dX2_setFiniteProduct_138 : decode cX2_setFiniteProduct 138 = .ok (.lor, 1) := by decide +kernel
theorem dX2_setFiniteProduct_139 : decode cX2_setFiniteProduct 139 = .ok (.lstore 20, 2) := by decide +kernel
theorem dX2_setFiniteProduct_141 : decode cX2_setFiniteProduct 141 = .ok (.aload_n 0, 1) := by decide +kernel
theorem dX2_setFiniteProduct_142 : decode cX2_setFiniteProduct 142 = .ok (.iload_n 1, 1) := by decide +kernel
theorem dX2_setFiniteProduct_143 : decode cX2_setFiniteProduct 143 = .ok (.lload 20, 2) := by decide +kernel
theorem dX2_setFiniteProduct_145 : decode cX2_setFiniteProduct 145 = .ok (.aload_n 2, 1) := by decide +kernel
theorem dX2_setFiniteProduct_146 : decode cX2_setFiniteProduct 146 = .ok (.getfield 21, 3) := by decide +kernel
theorem dX2_setFiniteProduct_149 : decode cX2_setFiniteProduct 149 = .ok (.aload_n 3, 1) := by decide +kernel
theorem dX2_setFiniteProduct_150 : decode cX2_setFiniteProduct 150 = .ok (.getfield 21, 3) := by decide +kernel
theorem dX2_setFiniteProduct_153 : decode cX2_setFiniteProduct 153 = .ok (.iadd, 1) := by decide +kernel
theorem dX2_setFiniteProduct_154 : decode cX2_setFiniteProduct 154 = .ok (.bipush 20, 2) := by decide +kernel
theorem dX2_setFiniteProduct_156 : decode cX2_setFiniteProduct 156 = .ok (.iadd, 1) := by decide +kernel
theorem dX2_setFiniteProduct_157 : decode cX2_setFiniteProduct 157 = .ok (.iload 19, 2) := by decide +kernel
theorem dX2_setFiniteProduct_159 : decode cX2_setFiniteProduct 159 = .ok (.iadd, 1) := by decide +kernel
theorem dX2_setFiniteProduct_160 : decode cX2_setFiniteProduct 160 = .ok (.invokevirtual 34, 3) := by decide +kernel
theorem dX2_setFiniteProduct_163 : decode cX2_setFiniteProduct 163 = .ok (.return_, 1) := by decide +kernel
theorem dX2_setQuotient_0 : decode cX2_setQuotient 0 = .ok (.aload_n 1, 1) := by decide +kernel
theorem dX2_setQuotient_1 : decode cX2_setQuotient 1 = .ok (.getfield 13, 3) := by decide +kernel
theorem dX2_setQuotient_4 : decode cX2_setQuotient 4 = .ok (.aload_n 2, 1) := by decide +kernel
theorem dX2_setQuotient_5 : decode cX2_setQuotient 5 = .ok (.getfield 13, 3) := by decide +kernel
theorem dX2_setQuotient_8 : decode cX2_setQuotient 8 = .ok (.if_icmp .eq 7, 3) := by decide +kernel
theorem dX2_setQuotient_11 : decode cX2_setQuotient 11 = .ok (.iconst 1, 1) := by decide +kernel
theorem dX2_setQuotient_12 : decode cX2_setQuotient 12 = .ok (.goto 4, 3) := by decide +kernel
theorem dX2_setQuotient_15 : decode cX2_setQuotient 15 = .ok (.iconst 0, 1) := by decide +kernel
theorem dX2_setQuotient_16 : decode cX2_setQuotient 16 = .ok (.istore_n 3, 1) := by decide +kernel
theorem dX2_setQuotient_17 : decode cX2_setQuotient 17 = .ok (.aload_n 1, 1) := by decide +kernel
theorem dX2_setQuotient_18 : decode cX2_setQuotient 18 = .ok (.getfield 9, 3) := by decide +kernel
theorem dX2_setQuotient_21 : decode cX2_setQuotient 21 = .ok (.iconst 3, 1) := by decide +kernel
theorem dX2_setQuotient_22 : decode cX2_setQuotient 22 = .ok (.if_icmp .eq 11, 3) := by decide +kernel
theorem dX2_setQuotient_25 : decode cX2_setQuotient 25 = .ok (.aload_n 2, 1) := by decide +kernel
theorem dX2_setQuotient_26 : decode cX2_setQuotient 26 = .ok (.getfield 9, 3) := by decide +kernel
theorem dX2_setQuotient_29 : decode cX2_setQuotient 29 = .ok (.iconst 3, 1) := by decide +kernel
theorem dX2_setQuotient_30 : decode cX2_setQuotient 30 = .ok (.if_icmp .ne 7, 3) := by decide +kernel
theorem dX2_setQuotient_33 : decode cX2_setQuotient 33 = .ok (.iconst 1, 1) := by decide +kernel
theorem dX2_setQuotient_34 : decode cX2_setQuotient 34 = .ok (.goto 4, 3) := by decide +kernel
theorem dX2_setQuotient_37 : decode cX2_setQuotient 37 = .ok (.iconst 0, 1) := by decide +kernel
theorem dX2_setQuotient_38 : decode cX2_setQuotient 38 = .ok (.istore 4, 2) := by decide +kernel
theorem dX2_setQuotient_40 : decode cX2_setQuotient 40 = .ok (.iload 4, 2) := by decide +kernel
theorem dX2_setQuotient_42 : decode cX2_setQuotient 42 = .ok (.ifCond .ne 22, 3) := by decide +kernel
theorem dX2_setQuotient_45 : decode cX2_setQuotient 45 = .ok (.aload_n 1, 1) := by decide +kernel
theorem dX2_setQuotient_46 : decode cX2_setQuotient 46 = .ok (.getfield 9, 3) := by decide +kernel
theorem dX2_setQuotient_49 : decode cX2_setQuotient 49 = .ok (.aload_n 2, 1) := by decide +kernel
theorem dX2_setQuotient_50 : decode cX2_setQuotient 50 = .ok (.getfield 9, 3) := by decide +kernel
theorem dX2_setQuotient_53 : decode cX2_setQuotient 53 = .ok (.if_icmp .ne 20, 3) := by decide +kernel
theorem dX2_setQuotient_56 : decode cX2_setQuotient 56 = .ok (.aload_n 1, 1) := by decide +kernel
theorem dX2_setQuotient_57 : decode cX2_setQuotient 57 = .ok (.getfield 9, 3) := by decide +kernel
theorem dX2_setQuotient_60 : decode cX2_setQuotient 60 = .ok (.iconst 1, 1) := by decide +kernel
theorem dX2_setQuotient_61 : decode cX2_setQuotient 61 = .ok (.if_icmp .eq 12, 3) := by decide +kernel
theorem dX2_setQuotient_64 : decode cX2_setQuotient 64 = .ok (.aload_n 0, 1) := by decide +kernel
theorem dX2_setQuotient_65 : decode cX2_setQuotient 65 = .ok (.iconst 3, 1) := by decide +kernel
theorem dX2_setQuotient_66 : decode cX2_setQuotient 66 = .ok (.iconst 0, 1) := by decide +kernel
theorem dX2_setQuotient_67 : decode cX2_setQuotient 67 = .ok (.invokevirtual 24, 3) := by decide +kernel
theorem dX2_setQuotient_70 : decode cX2_setQuotient 70 = .ok (.goto 58, 3) := by decide +kernel
theorem dX2_setQuotient_73 : decode cX2_setQuotient 73 = .ok (.aload_n 1, 1) := by decide +kernel
theorem dX2_setQuotient_74 : decode cX2_setQuotient 74 = .ok (.getfield 9, 3) := by decide +kernel
theorem dX2_setQuotient_77 : decode cX2_setQuotient 77 = .ok (.ifCond .eq 11, 3) := by decide +kernel
theorem dX2_setQuotient_80 : decode cX2_setQuotient 80 = .ok (.aload_n 2, 1) := by decide +kernel
theorem dX2_setQuotient_81 : decode cX2_setQuotient 81 = .ok (.getfield 9, 3) := by decide +kernel
theorem dX2_setQuotient_84 : decode cX2_setQuotient 84 = .ok (.iconst 2, 1) := by decide +kernel
theorem dX2_setQuotient_85 : decode cX2_setQuotient 85 = .ok (.if_icmp .ne 12, 3) := by decide +kernel
theorem dX2_setQuotient_88 : decode cX2_setQuotient 88 = .ok (.aload_n 0, 1) := by decide +kernel
theorem dX2_setQuotient_89 : decode cX2_setQuotient 89 = .ok (.iconst 0, 1) := by decide +kernel
theorem dX2_setQuotient_90 : decode cX2_setQuotient 90 = .ok (.iload_n 3, 1) := by decide +kernel
theorem dX2_setQuotient_91 : decode cX2_setQuotient 91 = .ok (.invokevirtual 24, 3) := by decide +kernel
theorem dX2_setQuotient_94 : decode cX2_setQuotient 94 = .ok (.goto 34, 3) := by decide +kernel
theorem dX2_setQuotient_97 : decode cX2_setQuotient 97 = .ok (.aload_n 1, 1) := by decide +kernel
theorem dX2_setQuotient_98 : decode cX2_setQuotient 98 = .ok (.getfield 9, 3) := by decide +kernel
theorem dX2_setQuotient_101 : decode cX2_setQuotient 101 = .ok (.iconst 2, 1) := by decide +kernel
theorem dX2_setQuotient_102 : decode cX2_setQuotient 102 = .ok (.if_icmp .eq 10, 3) := by decide +kernel
theorem dX2_setQuotient_105 : decode cX2_setQuotient 105 = .ok (.aload_n 2, 1) := by decide +kernel
theorem dX2_setQuotient_106 : decode cX2_setQuotient 106 = .ok (.getfield 9, 3) := by decide +kernel
theorem dX2_setQuotient_109 : decode cX2_setQuotient 109 = .ok (.ifCond .ne 12, 3) := by decide +kernel
theorem dX2_setQuotient_112 : decode cX2_setQuotient 112 = .ok (.aload_n 0, 1) := by decide +kernel
theorem dX2_setQuotient_113 : decode cX2_setQuotient 113 = .ok (.iconst 2, 1) := by decide +kernel
theorem dX2_setQuotient_114 : decode cX2_setQuotient 114 = .ok (.iload_n 3, 1) := by decide +kernel
theorem dX2_setQuotient_115 : decode cX2_setQuotient 115 = .ok (.invokevirtual 24, 3) := by decide +kernel
theorem dX2_setQuotient_118 : decode cX2_setQuotient 118 = .ok (.goto 10, 3) := by decide +kernel
theorem dX2_setQuotient_121 : decode cX2_setQuotient 121 = .ok (.aload_n 0, 1) := by decide +kernel
theorem dX2_setQuotient_122 : decode cX2_setQuotient 122 = .ok (.iload_n 3, 1) := by decide +kernel
theorem dX2_setQuotient_123 : decode cX2_setQuotient 123 = .ok (.aload_n 1, 1) := by decide +kernel
theorem dX2_setQuotient_124 : decode cX2_setQuotient 124 = .ok (.aload_n 2, 1) := by decide +kernel
theorem dX2_setQuotient_125 : decode cX2_setQuotient 125 = .ok (.invokevirtual 79, 3) := by decide +kernel
theorem dX2_setQuotient_128 : decode cX2_setQuotient 128 = .ok (.return_, 1) := by decide +kernel
theorem dX2_setFiniteQuotient_0 : decode cX2_setFiniteQuotient 0 = .ok (.aload_n 3, 1) := by decide +kernel
theorem dX2_setFiniteQuotient_1 : decode cX2_setFiniteQuotient 1 = .ok (.getfield 17, 3) := by decide +kernel
theorem dX2_setFiniteQuotient_4 : decode cX2_setFiniteQuotient 4 = .ok (.bipush 10, 2) := by decide +kernel
theorem dX2_setFiniteQuotient_6 : decode cX2_setFiniteQuotient 6 = .ok (.lushr, 1) := by decide +kernel
theorem dX2_setFiniteQuotient_7 : decode cX2_setFiniteQuotient 7 = .ok (.lstore 4, 2) := by decide +kernel
theorem dX2_setFiniteQuotient_9 : decode cX2_setFiniteQuotient 9 = .ok (.lload 4, 2) := by decide +kernel
theorem dX2_setFiniteQuotient_11 : decode cX2_setFiniteQuotient 11 = .ok (.lconst 0, 1) := by decide +kernel
theorem dX2_setFiniteQuotient_12 : decode cX2_setFiniteQuotient 12 = .ok (.lcmp, 1) := by decide +kernel
theorem dX2_setFiniteQuotient_13 : decode cX2_setFiniteQuotient 13 = .ok (.ifCond .ne 10, 3) := by decide +kernel
theorem dX2_setFiniteQuotient_16 : decode cX2_setFiniteQuotient 16 = .ok (.aload_n 0, 1) := by decide +kernel
theorem dX2_setFiniteQuotient_17 : decode cX2_setFiniteQuotient 17 = .ok (.iconst 2, 1) := by decide +kernel
theorem dX2_setFiniteQuotient_18 : decode cX2_setFiniteQuotient 18 = .ok (.iload_n 1, 1) := by decide +kernel
theorem dX2_setFiniteQuotient_19 : decode cX2_setFiniteQuotient 19 = .ok (.invokevirtual 24, 3) := by decide +kernel
theorem dX2_setFiniteQuotient_22 : decode cX2_setFiniteQuotient 22 = .ok (.return_, 1) := by decide +kernel
theorem dX2_setFiniteQuotient_23 : decode cX2_setFiniteQuotient 23 = .ok (.aload_n 2, 1) := by decide +kernel
theorem dX2_setFiniteQuotient_24 : decode cX2_setFiniteQuotient 24 = .ok (.getfield 17, 3) := by decide +kernel
theorem dX2_setFiniteQuotient_27 : decode cX2_setFiniteQuotient 27 = .ok (.bipush 10, 2) := by decide +kernel
theorem dX2_setFiniteQuotient_29 : decode cX2_setFiniteQuotient 29 = .ok (.lushr, 1) := by decide +kernel
theorem dX2_setFiniteQuotient_30 : decode cX2_setFiniteQuotient 30 = .ok (.lstore 6, 2) := by decide +kernel
theorem dX2_setFiniteQuotient_32 : decode cX2_setFiniteQuotient 32 = .ok (.lload 6, 2) := by decide +kernel
theorem dX2_setFiniteQuotient_34 : decode cX2_setFiniteQuotient 34 = .ok (.lload 4, 2) := by decide +kernel
theorem dX2_setFiniteQuotient_36 : decode cX2_setFiniteQuotient 36 = .ok (.ldiv, 1) := by decide +kernel
theorem dX2_setFiniteQuotient_37 : decode cX2_setFiniteQuotient 37 = .ok (.lstore 8, 2) := by decide +kernel
theorem dX2_setFiniteQuotient_39 : decode cX2_setFiniteQuotient 39 = .ok (.lload 6, 2) := by decide +kernel
theorem dX2_setFiniteQuotient_41 : decode cX2_setFiniteQuotient 41 = .ok (.lload 4, 2) := by decide +kernel
theorem dX2_setFiniteQuotient_43 : decode cX2_setFiniteQuotient 43 = .ok (.lrem, 1) := by decide +kernel
theorem dX2_setFiniteQuotient_44 : decode cX2_setFiniteQuotient 44 = .ok (.lstore 6, 2) := by decide +kernel
theorem dX2_setFiniteQuotient_46 : decode cX2_setFiniteQuotient 46 = .ok (.bipush 6, 2) := by decide +kernel
theorem dX2_setFiniteQuotient_48 : decode cX2_setFiniteQuotient 48 = .ok (.istore 10, 2) := by decide +kernel
theorem dX2_setFiniteQuotient_50 : decode cX2_setFiniteQuotient 50 = .ok (.iconst 0, 1) := by decide +kernel
theorem dX2_setFiniteQuotient_51 : decode cX2_setFiniteQuotient 51 = .ok (.istore 11, 2) := by decide +kernel
theorem dX2_setFiniteQuotient_53 : decode cX2_setFiniteQuotient 53 = .ok (.iload 11, 2) := by decide +kernel
theorem dX2_setFiniteQuotient_55 : decode cX2_setFiniteQuotient 55 = .ok (.iload 10, 2) := by decide +kernel
theorem dX2_setFiniteQuotient_57 : decode cX2_setFiniteQuotient 57 = .ok (.if_icmp .ge 36, 3) := by decide +kernel
theorem dX2_setFiniteQuotient_60 : decode cX2_setFiniteQuotient 60 = .ok (.lload 6, 2) := by decide +kernel
theorem dX2_setFiniteQuotient_62 : decode cX2_setFiniteQuotient 62 = .ok (.bipush 10, 2) := by decide +kernel
theorem dX2_setFiniteQuotient_64 : decode cX2_setFiniteQuotient 64 = .ok (.lshl, 1) := by decide +kernel
theorem dX2_setFiniteQuotient_65 : decode cX2_setFiniteQuotient 65 = .ok (.lstore 6, 2) := by decide +kernel
theorem dX2_setFiniteQuotient_67 : decode cX2_setFiniteQuotient 67 = .ok (.lload 8, 2) := by decide +kernel
theorem dX2_setFiniteQuotient_69 : decode cX2_setFiniteQuotient 69 = .ok (.bipush 10, 2) := by decide +kernel
theorem dX2_setFiniteQuotient_71 : decode cX2_setFiniteQuotient 71 = .ok (.lshl, 1) := by decide +kernel
theorem dX2_setFiniteQuotient_72 : decode cX2_setFiniteQuotient 72 = .ok (.lload 6, 2) := by decide +kernel
theorem dX2_setFiniteQuotient_74 : decode cX2_setFiniteQuotient 74 = .ok (.lload 4, 2) := by decide +kernel
theorem dX2_setFiniteQuotient_76 : decode cX2_setFiniteQuotient 76 = .ok (.ldiv, 1) := by decide +kernel
theorem dX2_setFiniteQuotient_77 : decode cX2_setFiniteQuotient 77 = .ok (.lor, 1) := by decide +kernel
theorem dX2_setFiniteQuotient_78 : decode cX2_setFiniteQuotient 78 = .ok (.lstore 8, 2) := by decide +kernel
theorem dX2_setFiniteQuotient_80 : decode cX2_setFiniteQuotient 80 = .ok (.lload 6, 2) := by decide +kernel
theorem dX2_setFiniteQuotient_82 : decode cX2_setFiniteQuotient 82 = .ok (.lload 4, 2) := by decide +kernel
theorem dX2_setFiniteQuotient_84 : decode cX2_setFiniteQuotient 84 = .ok (.lrem, 1) := by decide +kernel
theorem dX2_setFiniteQuotient_85 : decode cX2_setFiniteQuotient 85 = .ok (.lstore 6, 2) := by decide +kernel
theorem dX2_setFiniteQuotient_87 : decode cX2_setFiniteQuotient 87 = .ok (.iinc 11 1, 3) := by decide +kernel
theorem dX2_setFiniteQuotient_90 : decode cX2_setFiniteQuotient 90 = .ok (.goto (-37), 3) := by decide +kernel
theorem dX2_setFiniteQuotient_93 : decode cX2_setFiniteQuotient 93 = .ok (.aload_n 0, 1) := by decide +kernel
theorem dX2_setFiniteQuotient_94 : decode cX2_setFiniteQuotient 94 = .ok (.iload_n 1, 1) := by decide +kernel
theorem dX2_setFiniteQuotient_95 : decode cX2_setFiniteQuotient 95 = .ok (.lload 8, 2) := by decide +kernel
theorem dX2_setFiniteQuotient_97 : decode cX2_setFiniteQuotient 97 = .ok (.lload 6, 2) := by decide +kernel
theorem dX2_setFiniteQuotient_99 : decode cX2_setFiniteQuotient 99 = .ok (.lconst 0, 1) := by decide +kernel
theorem dX2_setFiniteQuotient_100 : decode cX2_setFiniteQuotient 100 = .ok (.lcmp, 1) := by decide +kernel
theorem dX2_setFiniteQuotient_101 : decode cX2_setFiniteQuotient 101 = .ok (.ifCond .ne 7, 3) := by decide +kernel
theorem dX2_setFiniteQuotient_104 : decode cX2_setFiniteQuotient 104 = .ok (.iconst 0, 1) := by decide +kernel
theorem dX2_setFiniteQuotient_105 : decode cX2_setFiniteQuotient 105 = .ok (.goto 4, 3) := by decide +kernel
theorem dX2_setFiniteQuotient_108 : decode cX2_setFiniteQuotient 108 = .ok (.iconst 1, 1) := by decide +kernel
theorem dX2_setFiniteQuotient_109 : decode cX2_setFiniteQuotient 109 = .ok (.i2l, 1) := by decide +kernel
theorem dX2_setFiniteQuotient_110 : decode cX2_setFiniteQuotient 110 = .ok (.lor, 1) := by decide +kernel
theorem dX2_setFiniteQuotient_111 : decode cX2_setFiniteQuotient 111 = .ok (.aload_n 2, 1) := by decide +kernel
theorem dX2_setFiniteQuotient_112 : decode cX2_setFiniteQuotient 112 = .ok (.getfield 21, 3) := by decide +kernel
theorem dX2_setFiniteQuotient_115 : decode cX2_setFiniteQuotient 115 = .ok (.aload_n 3, 1) := by decide +kernel
theorem dX2_setFiniteQuotient_116 : decode cX2_setFiniteQuotient 116 = .ok (.getfield 21, 3) := by decide +kernel
theorem dX2_setFiniteQuotient_119 : decode cX2_setFiniteQuotient 119 = .ok (.isub, 1) := by decide +kernel
theorem dX2_setFiniteQuotient_120 : decode cX2_setFiniteQuotient 120 = .ok (.iload 10, 2) := by decide +kernel
theorem dX2_setFiniteQuotient_122 : decode cX2_setFiniteQuotient 122 = .ok (.bipush 10, 2) := by decide +kernel
theorem dX2_setFiniteQuotient_124 : decode cX2_setFiniteQuotient 124 = .ok (.imul, 1) := by decide +kernel
theorem dX2_setFiniteQuotient_125 : decode cX2_setFiniteQuotient 125 = .ok (.isub, 1) := by decide +kernel
theorem dX2_setFiniteQuotient_126 : decode cX2_setFiniteQuotient 126 = .ok (.invokevirtual 34, 3) := by decide +kernel
theorem dX2_setFiniteQuotient_129 : decode cX2_setFiniteQuotient 129 = .ok (.return_, 1) := by decide +kernel
theorem dX2_setRest_0 : decode cX2_setRest 0 = .ok (.aload_n 1, 1) := by decide +kernel
theorem dX2_setRest_1 : decode cX2_setRest 1 = .ok (.getfield 9, 3) := by decide +kernel
theorem dX2_setRest_4 : decode cX2_setRest 4 = .ok (.iconst 3, 1) := by decide +kernel
theorem dX2_setRest_5 : decode cX2_setRest 5 = .ok (.if_icmp .eq 11, 3) := by decide +kernel
theorem dX2_setRest_8 : decode cX2_setRest 8 = .ok (.aload_n 2, 1) := by decide +kernel
theorem dX2_setRest_9 : decode cX2_setRest 9 = .ok (.getfield 9, 3) := by decide +kernel
theorem dX2_setRest_12 : decode cX2_setRest 12 = .ok (.iconst 3, 1) := by decide +kernel
theorem dX2_setRest_13 : decode cX2_setRest 13 = .ok (.if_icmp .ne 7, 3) := by decide +kernel
theorem dX2_setRest_16 : decode cX2_setRest 16 = .ok (.iconst 1, 1) := by decide +kernel
theorem dX2_setRest_17 : decode cX2_setRest 17 = .ok (.goto 4, 3) := by decide +kernel
theorem dX2_setRest_20 : decode cX2_setRest 20 = .ok (.iconst 0, 1) := by decide +kernel
theorem dX2_setRest_21 : decode cX2_setRest 21 = .ok (.istore_n 3, 1) := by decide +kernel
theorem dX2_setRest_22 : decode cX2_setRest 22 = .ok (.iload_n 3, 1) := by decide +kernel
theorem dX2_setRest_23 : decode cX2_setRest 23 = .ok (.ifCond .ne 18, 3) := by decide +kernel
theorem dX2_setRest_26 : decode cX2_setRest 26 = .ok (.aload_n 1, 1) := by decide +kernel
theorem dX2_setRest_27 : decode cX2_setRest 27 = .ok (.getfield 9, 3) := by decide +kernel
theorem dX2_setRest_30 : decode cX2_setRest 30 = .ok (.iconst 2, 1) := by decide +kernel
theorem dX2_setRest_31 : decode cX2_setRest 31 = .ok (.if_icmp .eq 10, 3) := by decide +kernel
theorem dX2_setRest_34 : decode cX2_setRest 34 = .ok (.aload_n 2, 1) := by decide +kernel
theorem dX2_setRest_35 : decode cX2_setRest 35 = .ok (.getfield 9, 3) := by decide +kernel
theorem dX2_setRest_38 : decode cX2_setRest 38 = .ok (.ifCond .ne 12, 3) := by decide +kernel
theorem dX2_setRest_41 : decode cX2_setRest 41 = .ok (.aload_n 0, 1) := by decide +kernel
theorem dX2_setRest_42 : decode cX2_setRest 42 = .ok (.iconst 3, 1) := by decide +kernel
theorem dX2_setRest_43 : decode cX2_setRest 43 = .ok (.iconst 0, 1) := by decide +kernel
theorem dX2_setRest_44 : decode cX2_setRest 44 = .ok (.invokevirtual 24, 3) := by decide +kernel
theorem dX2_setRest_47 : decode cX2_setRest 47 = .ok (.goto 43, 3) := by decide +kernel
theorem dX2_setRest_50 : decode cX2_setRest 50 = .ok (.aload_n 1, 1) := by decide +kernel
theorem dX2_setRest_51 : decode cX2_setRest 51 = .ok (.getfield 9, 3) := by decide +kernel
theorem dX2_setRest_54 : decode cX2_setRest 54 = .ok (.ifCond .eq 22, 3) := by decide +kernel
theorem dX2_setRest_57 : decode cX2_setRest 57 = .ok (.aload_n 2, 1) := by decide +kernel
theorem dX2_setRest_58 : decode cX2_setRest 58 = .ok (.getfield 9, 3) := by decide +kernel
theorem dX2_setRest_61 : decode cX2_setRest 61 = .ok (.iconst 2, 1) := by decide +kernel
theorem dX2_setRest_62 : decode cX2_setRest 62 = .ok (.if_icmp .eq 14, 3) := by decide +kernel
theorem dX2_setRest_65 : decode cX2_setRest 65 = .ok (.aload_n 1, 1) := by decide +kernel
theorem dX2_setRest_66 : decode cX2_setRest 66 = .ok (.getfield 21, 3) := by decide +kernel
theorem dX2_setRest_69 : decode cX2_setRest 69 = .ok (.aload_n 2, 1) := by decide +kernel
theorem dX2_setRest_70 : decode cX2_setRest 70 = .ok (.getfield 21, 3) := by decide +kernel
theorem dX2_setRest_73 : decode cX2_setRest 73 = .ok (.if_icmp .ge 11, 3) := by decide +kernel
theorem dX2_setRest_76 : decode cX2_setRest 76 = .ok (.aload_n 0, 1) := by decide +kernel
theorem dX2_setRest_77 : decode cX2_setRest 77 = .ok (.aload_n 1, 1) := by decide +kernel
theorem dX2_setRest_78 : decode cX2_setRest 78 = .ok (.invokevirtual 64, 3) := by decide +kernel
theorem dX2_setRest_81 : decode cX2_setRest 81 = .ok (.goto 9, 3) := by decide +kernel
theorem dX2_setRest_84 : decode cX2_setRest 84 = .ok (.aload_n 0, 1) := by decide +kernel
theorem dX2_setRest_85 : decode cX2_setRest 85 = .ok (.aload_n 1, 1) := by decide +kernel
theorem dX2_setRest_86 : decode cX2_setRest 86 = .ok (.aload_n 2, 1) := by decide +kernel
theorem dX2_setRest_87 : decode cX2_setRest 87 = .ok (.invokevirtual 82, 3) := by decide +kernel
theorem dX2_setRest_90 : decode cX2_setRest 90 = .ok (.return_, 1) := by decide +kernel
theorem dX2_setFiniteRest_0 : decode cX2_setFiniteRest 0 = .ok (.aload_n 2, 1) := by decide +kernel
theorem dX2_setFiniteRest_1 : decode cX2_setFiniteRest 1 = .ok (.getfield 17, 3) := by decide +kernel
theorem dX2_setFiniteRest_4 : decode cX2_setFiniteRest 4 = .ok (.bipush 10, 2) := by decide +kernel
theorem dX2_setFiniteRest_6 : decode cX2_setFiniteRest 6 = .ok (.lushr, 1) := by decide +kernel
theorem dX2_setFiniteRest_7 : decode cX2_setFiniteRest 7 = .ok (.lstore_n 3, 1) := by decide +kernel
theorem dX2_setFiniteRest_8 : decode cX2_setFiniteRest 8 = .ok (.lload_n 3, 1) := by decide +kernel
theorem dX2_setFiniteRest_9 : decode cX2_setFiniteRest 9 = .ok (.lconst 0, 1) := by decide +kernel
theorem dX2_setFiniteRest_10 : decode cX2_setFiniteRest 10 = .ok (.lcmp, 1) := by decide +kernel
theorem dX2_setFiniteRest_11 : decode cX2_setFiniteRest 11 = .ok (.ifCond .ne 10, 3) := by decide +kernel
theorem dX2_setFiniteRest_14 : decode cX2_setFiniteRest 14 = .ok (.aload_n 0, 1) := by decide +kernel
theorem dX2_setFiniteRest_15 : decode cX2_setFiniteRest 15 = .ok (.iconst 3, 1) := by decide +kernel
theorem dX2_setFiniteRest_16 : decode cX2_setFiniteRest 16 = .ok (.iconst 0, 1) := by decide +kernel
theorem dX2_setFiniteRest_17 : decode cX2_setFiniteRest 17 = .ok (.invokevirtual 24, 3) := by decide +kernel
theorem dX2_setFiniteRest_20 : decode cX2_setFiniteRest 20 = .ok (.return_, 1) := by decide +kernel
theorem dX2_setFiniteRest_21 : decode cX2_setFiniteRest 21 = .ok (.aload_n 1, 1) := by decide +kernel
theorem dX2_setFiniteRest_22 : decode cX2_setFiniteRest 22 = .ok (.getfield 17, 3) := by decide +kernel
theorem dX2_setFiniteRest_25 : decode cX2_setFiniteRest 25 = .ok (.bipush 10, 2) := by decide +kernel
theorem dX2_setFiniteRest_27 : decode cX2_setFiniteRest 27 = .ok (.lushr, 1) := by decide +kernel
theorem dX2_setFiniteRest_28 : decode cX2_setFiniteRest 28 = .ok (.lload_n 3, 1) := by decide +kernel
theorem dX2_setFiniteRest_29 : decode cX2_setFiniteRest 29 = .ok (.lrem, 1) := by decide +kernel
theorem dX2_setFiniteRest_30 : decode cX2_setFiniteRest 30 = .ok (.lstore 5, 2) := by decide +kernel
theorem dX2_setFiniteRest_32 : decode cX2_setFiniteRest 32 = .ok (.aload_n 1, 1) := by decide +kernel
theorem dX2_setFiniteRest_33 : decode cX2_setFiniteRest 33 = .ok (.getfield 21, 3) := by decide +kernel
theorem dX2_setFiniteRest_36 : decode cX2_setFiniteRest 36 = .ok (.aload_n 2, 1) := by decide +kernel
theorem dX2_setFiniteRest_37 : decode cX2_setFiniteRest 37 = .ok (.getfield 21, 3) := by decide +kernel
theorem dX2_setFiniteRest_40 : decode cX2_setFiniteRest 40 = .ok (.isub, 1) := by decide +kernel
theorem dX2_setFiniteRest_41 : decode cX2_setFiniteRest 41 = .ok (.istore 7, 2) := by decide +kernel
theorem dX2_setFiniteRest_43 : decode cX2_setFiniteRest 43 = .ok (.iload 7, 2) := by decide +kernel
theorem dX2_setFiniteRest_45 : decode cX2_setFiniteRest 45 = .ok (.ifCond .le 30, 3) := by decide +kernel
theorem dX2_setFiniteRest_48 : decode cX2_setFiniteRest 48 = .ok (.lload 5, 2) := by decide +kernel
theorem dX2_setFiniteRest_50 : decode cX2_setFiniteRest 50 = .ok (.lconst 0, 1) := by decide +kernel
theorem dX2_setFiniteRest_51 : decode cX2_setFiniteRest 51 = .ok (.lcmp, 1) := by decide +kernel
theorem dX2_setFiniteRest_52 : decode cX2_setFiniteRest 52 = .ok (.ifCond .eq 23, 3) := by decide +kernel
theorem dX2_setFiniteRest_55 : decode cX2_setFiniteRest 55 = .ok (.lload 5, 2) := by decide +kernel
theorem dX2_setFiniteRest_57 : decode cX2_setFiniteRest 57 = .ok (.iload 7, 2) := by decide +kernel
theorem dX2_setFiniteRest_59 : decode cX2_setFiniteRest 59 = .ok (.bipush 10, 2) := by decide +kernel
theorem dX2_setFiniteRest_61 : decode cX2_setFiniteRest 61 = .ok (.invokestatic 85, 3) := by decide +kernel
theorem dX2_setFiniteRest_64 : decode cX2_setFiniteRest 64 = .ok (.lshl, 1) := by decide +kernel
theorem dX2_setFiniteRest_65 : decode cX2_setFiniteRest 65 = .ok (.lload_n 3, 1) := by decide +kernel
theorem dX2_setFiniteRest_66 : decode cX2_setFiniteRest 66 = .ok (.lrem, 1) := by decide +kernel
theorem dX2_setFiniteRest_67 : decode cX2_setFiniteRest 67 = .ok (.lstore 5, 2) := by decide +kernel
theorem dX2_setFiniteRest_69 : decode cX2_setFiniteRest 69 = .ok (.iinc 7 (-10), 3) := by decide +kernel
theorem dX2_setFiniteRest_72 : decode cX2_setFiniteRest 72 = .ok (.goto (-29), 3) := by decide +kernel
theorem dX2_setFiniteRest_75 : decode cX2_setFiniteRest 75 = .ok (.lload 5, 2) := by decide +kernel
theorem dX2_setFiniteRest_77 : decode cX2_setFiniteRest 77 = .ok (.lconst 0, 1) := by decide +kernel
theorem dX2_setFiniteRest_78 : decode cX2_setFiniteRest 78 = .ok (.lcmp, 1) := by decide +kernel
theorem dX2_setFiniteRest_79 : decode cX2_setFiniteRest 79 = .ok (.ifCond .ne 15, 3) := by decide +kernel
theorem dX2_setFiniteRest_82 : decode cX2_setFiniteRest 82 = .ok (.aload_n 0, 1) := by decide +kernel
theorem dX2_setFiniteRest_83 : decode cX2_setFiniteRest 83 = .ok (.iconst 0, 1) := by decide +kernel
theorem dX2_setFiniteRest_84 : decode cX2_setFiniteRest 84 = .ok (.aload_n 1, 1) := by decide +kernel
theorem dX2_setFiniteRest_85 : decode cX2_setFiniteRest 85 = .ok (.getfield 13, 3) := by decide +kernel
theorem dX2_setFiniteRest_88 : decode cX2_setFiniteRest 88 = .ok (.invokevirtual 24, 3) := by decide +kernel
theorem dX2_setFiniteRest_91 : decode cX2_setFiniteRest 91 = .ok (.goto 20, 3) := by decide +kernel
theorem dX2_setFiniteRest_94 : decode cX2_setFiniteRest 94 = .ok (.aload_n 0, 1) := by decide +kernel
theorem dX2_setFiniteRest_95 : decode cX2_setFiniteRest 95 = .ok (.aload_n 1, 1) := by decide +kernel
theorem dX2_setFiniteRest_96 : decode cX2_setFiniteRest 96 = .ok (.getfield 13, 3) := by decide +kernel
theorem dX2_setFiniteRest_99 : decode cX2_setFiniteRest 99 = .ok (.lload 5, 2) := by decide +kernel
theorem dX2_setFiniteRest_101 : decode cX2_setFiniteRest 101 = .ok (.aload_n 2, 1) := by decide +kernel
theorem dX2_setFiniteRest_102 : decode cX2_setFiniteRest 102 = .ok (.getfield 21, 3) := by decide +kernel
theorem dX2_setFiniteRest_105 : decode cX2_setFiniteRest 105 = .ok (.bipush 10, 2) := by decide +kernel
theorem dX2_setFiniteRest_107 : decode cX2_setFiniteRest 107 = .ok (.iadd, 1) := by decide +kernel
theorem dX2_setFiniteRest_108 : decode cX2_setFiniteRest 108 = .ok (.invokevirtual 34, 3) := by decide +kernel
theorem dX2_setFiniteRest_111 : decode cX2_setFiniteRest 111 = .ok (.return_, 1) := by decide +kernel
theorem dX2_roundToWhole_0 : decode cX2_roundToWhole 0 = .ok (.aload_n 0, 1) := by decide +kernel
theorem dX2_roundToWhole_1 : decode cX2_roundToWhole 1 = .ok (.getfield 9, 3) := by decide +kernel
theorem dX2_roundToWhole_4 : decode cX2_roundToWhole 4 = .ok (.iconst 1, 1) := by decide +kernel
theorem dX2_roundToWhole_5 : decode cX2_roundToWhole 5 = .ok (.if_icmp .ne 10, 3) := by decide +kernel
theorem dX2_roundToWhole_8 : decode cX2_roundToWhole 8 = .ok (.aload_n 0, 1) := by decide +kernel
theorem dX2_roundToWhole_9 : decode cX2_roundToWhole 9 = .ok (.getfield 21, 3) := by decide +kernel
theorem dX2_roundToWhole_12 : decode cX2_roundToWhole 12 = .ok (.ifCond .lt 4, 3) := by decide +kernel
theorem dX2_roundToWhole_15 : decode cX2_roundToWhole 15 = .ok (.return_, 1) := by decide +kernel
theorem dX2_roundToWhole_16 : decode cX2_roundToWhole 16 = .ok (.aload_n 0, 1) := by decide +kernel
theorem dX2_roundToWhole_17 : decode cX2_roundToWhole 17 = .ok (.getfield 21, 3) := by decide +kernel
theorem dX2_roundToWhole_20 : decode cX2_roundToWhole 20 = .ok (.ineg, 1) := by decide +kernel
theorem dX2_roundToWhole_21 : decode cX2_roundToWhole 21 = .ok (.istore_n 2, 1) := by decide +kernel
theorem dX2_roundToWhole_22 : decode cX2_roundToWhole 22 = .ok (.iload_n 2, 1) := by decide +kernel
theorem dX2_roundToWhole_23 : decode cX2_roundToWhole 23 = .ok (.bipush 62, 2) := by decide +kernel
theorem dX2_roundToWhole_25 : decode cX2_roundToWhole 25 = .ok (.if_icmp .le 7, 3) := by decide +kernel
theorem dX2_roundToWhole_28 : decode cX2_roundToWhole 28 = .ok (.lconst 0, 1) := by decide +kernel
theorem dX2_roundToWhole_29 : decode cX2_roundToWhole 29 = .ok (.goto 9, 3) := by decide +kernel
theorem dX2_roundToWhole_32 : decode cX2_roundToWhole 32 = .ok (.aload_n 0, 1) := by decide +kernel
theorem dX2_roundToWhole_33 : decode cX2_roundToWhole 33 = .ok (.getfield 17, 3) := by decide +kernel
theorem dX2_roundToWhole_36 : decode cX2_roundToWhole 36 = .ok (.iload_n 2, 1) := by decide +kernel
theorem dX2_roundToWhole_37 : decode cX2_roundToWhole 37 = .ok (.lushr, 1) := by decide +kernel
theorem dX2_roundToWhole_38 : decode cX2_roundToWhole 38 = .ok (.lstore_n 3, 1) := by decide +kernel
theorem dX2_roundToWhole_39 : decode cX2_roundToWhole 39 = .ok (.iload_n 2, 1) := by decide +kernel
theorem dX2_roundToWhole_40 : decode cX2_roundToWhole 40 = .ok (.bipush 62, 2) := by decide +kernel
theorem dX2_roundToWhole_42 : decode cX2_roundToWhole 42 = .ok (.if_icmp .gt 18, 3) := by decide +kernel
theorem dX2_roundToWhole_45 : decode cX2_roundToWhole 45 = .ok (.lload_n 3, 1) := by decide +kernel
theorem dX2_roundToWhole_46 : decode cX2_roundToWhole 46 = .ok (.iload_n 2, 1) := by decide +kernel
theorem dX2_roundToWhole_47 : decode cX2_roundToWhole 47 = .ok (.lshl, 1) := by decide +kernel
theorem dX2_roundToWhole_48 : decode cX2_roundToWhole 48 = .ok (.aload_n 0, 1) := by decide +kernel
theorem dX2_roundToWhole_49 : decode cX2_roundToWhole 49 = .ok (.getfield 17, 3) := by decide +kernel
theorem dX2_roundToWhole_52 : decode cX2_roundToWhole 52 = .ok (.lcmp, 1) := by decide +kernel
theorem dX2_roundToWhole_53 : decode cX2_roundToWhole 53 = .ok (.ifCond .ne 7, 3) := by decide +kernel
theorem dX2_roundToWhole_56 : decode cX2_roundToWhole 56 = .ok (.iconst 1, 1) := by decide +kernel
theorem dX2_roundToWhole_57 : decode cX2_roundToWhole 57 = .ok (.goto 4, 3) := by decide +kernel
theorem dX2_roundToWhole_60 : decode cX2_roundToWhole 60 = .ok (.iconst 0, 1) := by decide +kernel
theorem dX2_roundToWhole_61 : decode cX2_roundToWhole 61 = .ok (.istore 5, 2) := by decide +kernel
theorem dX2_roundToWhole_63 : decode cX2_roundToWhole 63 = .ok (.iload_n 1, 1) := by decide +kernel
theorem dX2_roundToWhole_64 : decode cX2_roundToWhole 64 = .ok (.iconst 5, 1) := by decide +kernel
theorem dX2_roundToWhole_65 : decode cX2_roundToWhole 65 = .ok (.if_icmp .ne 15, 3) := by decide +kernel
theorem dX2_roundToWhole_68 : decode cX2_roundToWhole 68 = .ok (.aload_n 0, 1) := by decide +kernel
theorem dX2_roundToWhole_69 : decode cX2_roundToWhole 69 = .ok (.getfield 17, 3) := by decide +kernel
theorem dX2_roundToWhole_72 : decode cX2_roundToWhole 72 = .ok (.iload_n 2, 1) := by decide +kernel
theorem dX2_roundToWhole_73 : decode cX2_roundToWhole 73 = .ok (.invokestatic 58, 3) := by decide +kernel
theorem dX2_roundToWhole_76 : decode cX2_roundToWhole 76 = .ok (.lstore_n 3, 1) := by decide +kernel
theorem dX2_roundToWhole_77 : decode cX2_roundToWhole 77 = .ok (.goto 28, 3) := by decide +kernel
theorem dX2_roundToWhole_80 : decode cX2_roundToWhole 80 = .ok (.iload 5, 2) := by decide +kernel
theorem dX2_roundToWhole_82 : decode cX2_roundToWhole 82 = .ok (.ifCond .ne 23, 3) := by decide +kernel
theorem dX2_roundToWhole_85 : decode cX2_roundToWhole 85 = .ok (.iload_n 1, 1) := by decide +kernel
theorem dX2_roundToWhole_86 : decode cX2_roundToWhole 86 = .ok (.aload_n 0, 1) := by decide +kernel
theorem dX2_roundToWhole_87 : decode cX2_roundToWhole 87 = .ok (.getfield 13, 3) := by decide +kernel
theorem dX2_roundToWhole_90 : decode cX2_roundToWhole 90 = .ok (.ifCond .eq 7, 3) := by decide +kernel
theorem dX2_roundToWhole_93 : decode cX2_roundToWhole 93 = .ok (.iconst 3, 1) := by decide +kernel
theorem dX2_roundToWhole_94 : decode cX2_roundToWhole 94 = .ok (.goto 4, 3) := by decide +kernel
theorem dX2_roundToWhole_97 : decode cX2_roundToWhole 97 = .ok (.iconst 4, 1) := by decide +kernel
theorem dX2_roundToWhole_98 : decode cX2_roundToWhole 98 = .ok (.if_icmp .ne 7, 3) := by decide +kernel
theorem dX2_roundToWhole_101 : decode cX2_roundToWhole 101 = .ok (.lload_n 3, 1) := by decide +kernel
theorem dX2_roundToWhole_102 : decode cX2_roundToWhole 102 = .ok (.lconst 1, 1) := by decide +kernel
theorem dX2_roundToWhole_103 : decode cX2_roundToWhole 103 = .ok (.ladd, 1) := by decide +kernel
theorem dX2_roundToWhole_104 : decode cX2_roundToWhole 104 = .ok (.lstore_n 3, 1) := by decide +kernel
theorem dX2_roundToWhole_105 : decode cX2_roundToWhole 105 = .ok (.lload_n 3, 1) := by decide +kernel
theorem dX2_roundToWhole_106 : decode cX2_roundToWhole 106 = .ok (.lconst 0, 1) := by decide +kernel
theorem dX2_roundToWhole_107 : decode cX2_roundToWhole 107 = .ok (.lcmp, 1) := by decide +kernel
theorem dX2_roundToWhole_108 : decode cX2_roundToWhole 108 = .ok (.ifCond .ne 15, 3) := by decide +kernel
theorem dX2_roundToWhole_111 : decode cX2_roundToWhole 111 = .ok (.aload_n 0, 1) := by decide +kernel
theorem dX2_roundToWhole_112 : decode cX2_roundToWhole 112 = .ok (.iconst 0, 1) := by decide +kernel
theorem dX2_roundToWhole_113 : decode cX2_roundToWhole 113 = .ok (.aload_n 0, 1) := by decide +kernel
theorem dX2_roundToWhole_114 : decode cX2_roundToWhole 114 = .ok (.getfield 13, 3) := by decide +kernel
theorem dX2_roundToWhole_117 : decode cX2_roundToWhole 117 = .ok (.invokevirtual 24, 3) := by decide +kernel
theorem dX2_roundToWhole_120 : decode cX2_roundToWhole 120 = .ok (.goto 13, 3) := by decide +kernel
theorem dX2_roundToWhole_123 : decode cX2_roundToWhole 123 = .ok (.aload_n 0, 1) := by decide +kernel
theorem dX2_roundToWhole_124 : decode cX2_roundToWhole 124 = .ok (.aload_n 0, 1) := by decide +kernel
theorem dX2_roundToWhole_125 : decode cX2_roundToWhole 125 = .ok (.getfield 13, 3) := by decide +kernel
theorem dX2_roundToWhole_128 : decode cX2_roundToWhole 128 = .ok (.lload_n 3, 1) := by decide +kernel
theorem dX2_roundToWhole_129 : decode cX2_roundToWhole 129 = .ok (.iconst 0, 1) := by decide +kernel
theorem dX2_roundToWhole_130 : decode cX2_roundToWhole 130 = .ok (.invokevirtual 34, 3) := by decide +kernel
theorem dX2_roundToWhole_133 : decode cX2_roundToWhole 133 = .ok (.return_, 1) := by decide +kernel
theorem dJ9_floorDiv_f86c9_0 : decode cJ9_floorDiv_f86c9 0 = .ok (.lload_n 0, 1) := by decide +kernel
theorem dJ9_floorDiv_f86c9_1 : decode cJ9_floorDiv_f86c9 1 = .ok (.lload_n 2, 1) := by decide +kernel
theorem dJ9_floorDiv_f86c9_2 : decode cJ9_floorDiv_f86c9 2 = .ok (.ldiv, 1) := by decide +kernel
theorem dJ9_floorDiv_f86c9_3 : decode cJ9_floorDiv_f86c9 3 = .ok (.lstore 4, 2) := by decide +kernel
theorem dJ9_floorDiv_f86c9_5 : decode cJ9_floorDiv_f86c9 5 = .ok (.lload_n 0, 1) := by decide +kernel
theorem dJ9_floorDiv_f86c9_6 : decode cJ9_floorDiv_f86c9 6 = .ok (.lload_n 2, 1) := by decide +kernel
theorem dJ9_floorDiv_f86c9_7 : decode cJ9_floorDiv_f86c9 7 = .ok (.lxor, 1) := by decide +kernel
theorem dJ9_floorDiv_f86c9_8 : decode cJ9_floorDiv_f86c9 8 = .ok (.lconst 0, 1) := by decide +kernel
theorem dJ9_floorDiv_f86c9_9 : decode cJ9_floorDiv_f86c9 9 = .ok (.lcmp, 1) := by decide +kernel
theorem dJ9_floorDiv_f86c9_10 : decode cJ9_floorDiv_f86c9 10 = .ok (.ifCond .ge 17, 3) := by decide +kernel
theorem dJ9_floorDiv_f86c9_13 : decode cJ9_floorDiv_f86c9 13 = .ok (.lload 4, 2) := by decide +kernel
theorem dJ9_floorDiv_f86c9_15 : decode cJ9_floorDiv_f86c9 15 = .ok (.lload_n 2, 1) := by decide +kernel
theorem dJ9_floorDiv_f86c9_16 : decode cJ9_floorDiv_f86c9 16 = .ok (.lmul, 1) := by decide +kernel
theorem dJ9_floorDiv_f86c9_17 : decode cJ9_floorDiv_f86c9 17 = .ok (.lload_n 0, 1) := by decide +kernel
theorem dJ9_floorDiv_f86c9_18 : decode cJ9_floorDiv_f86c9 18 = .ok (.lcmp, 1) := by decide +kernel
theorem dJ9_floorDiv_f86c9_19 : decode cJ9_floorDiv_f86c9 19 = .ok (.ifCond .eq 8, 3) := by decide +kernel
theorem dJ9_floorDiv_f86c9_22 : decode cJ9_floorDiv_f86c9 22 = .ok (.lload 4, 2) := by decide +kernel
theorem dJ9_floorDiv_f86c9_24 : decode cJ9_floorDiv_f86c9 24 = .ok (.lconst 1, 1) := by decide +kernel
theorem dJ9_floorDiv_f86c9_25 : decode cJ9_floorDiv_f86c9 25 = .ok (.lsub, 1) := by decide +kernel
theorem dJ9_floorDiv_f86c9_26 : decode cJ9_floorDiv_f86c9 26 = .ok (.lreturn, 1) := by decide +kernel
theorem dJ9_floorDiv_f86c9_27 : decode cJ9_floorDiv_f86c9 27 = .ok (.lload 4, 2) := by decide +kernel
theorem dJ9_floorDiv_f86c9_29 : decode cJ9_floorDiv_f86c9 29 = .ok (.lreturn, 1) := by decide +kernel
theorem dJ9_floorMod_f86c9_0 : decode cJ9_floorMod_f86c9 0 = .ok (.lload_n 0, 1) := by decide +kernel
theorem dJ9_floorMod_f86c9_1 : decode cJ9_floorMod_f86c9 1 = .ok (.lload_n 2, 1) := by decide +kernel
theorem dJ9_floorMod_f86c9_2 : decode cJ9_floorMod_f86c9 2 = .ok (.lrem, 1) := by decide +kernel
theorem dJ9_floorMod_f86c9_3 : decode cJ9_floorMod_f86c9 3 = .ok (.lstore 4, 2) := by decide +kernel
theorem dJ9_floorMod_f86c9_5 : decode cJ9_floorMod_f86c9 5 = .ok (.lload_n 0, 1) := by decide +kernel
theorem dJ9_floorMod_f86c9_6 : decode cJ9_floorMod_f86c9 6 = .ok (.lload_n 2, 1) := by decide +kernel
theorem dJ9_floorMod_f86c9_7 : decode cJ9_floorMod_f86c9 7 = .ok (.lxor, 1) := by decide +kernel
theorem dJ9_floorMod_f86c9_8 : decode cJ9_floorMod_f86c9 8 = .ok (.lconst 0, 1) := by decide +kernel
theorem dJ9_floorMod_f86c9_9 : decode cJ9_floorMod_f86c9 9 = .ok (.lcmp, 1) := by decide +kernel
theorem dJ9_floorMod_f86c9_10 : decode cJ9_floorMod_f86c9 10 = .ok (.ifCond .ge 15, 3) := by decide +kernel
theorem dJ9_floorMod_f86c9_13 : decode cJ9_floorMod_f86c9 13 = .ok (.lload 4, 2) := by decide +kernel
theorem dJ9_floorMod_f86c9_15 : decode cJ9_floorMod_f86c9 15 = .ok (.lconst 0, 1) := by decide +kernel
theorem dJ9_floorMod_f86c9_16 : decode cJ9_floorMod_f86c9 16 = .ok (.lcmp, 1) := by decide +kernel
theorem dJ9_floorMod_f86c9_17 : decode cJ9_floorMod_f86c9 17 = .ok (.ifCond .eq 8, 3) := by decide +kernel
theorem dJ9_floorMod_f86c9_20 : decode cJ9_floorMod_f86c9 20 = .ok (.lload 4, 2) := by decide +kernel
theorem dJ9_floorMod_f86c9_22 : decode cJ9_floorMod_f86c9 22 = .ok (.lload_n 2, 1) := by decide +kernel
theorem dJ9_floorMod_f86c9_23 : decode cJ9_floorMod_f86c9 23 = .ok (.ladd, 1) := by decide +kernel
theorem dJ9_floorMod_f86c9_24 : decode cJ9_floorMod_f86c9 24 = .ok (.lreturn, 1) := by decide +kernel
theorem dJ9_floorMod_f86c9_25 : decode cJ9_floorMod_f86c9 25 = .ok (.lload 4, 2) := by decide +kernel
theorem dJ9_floorMod_f86c9_27 : decode cJ9_floorMod_f86c9 27 = .ok (.lreturn, 1) := by decide +kernel
theorem dJ9_abs_067f4_0 : decode cJ9_abs_067f4 0 = .ok (.lload_n 0, 1) := by decide +kernel
theorem dJ9_abs_067f4_1 : decode cJ9_abs_067f4 1 = .ok (.lconst 0, 1) := by decide +kernel
theorem dJ9_abs_067f4_2 : decode cJ9_abs_067f4 2 = .ok (.lcmp, 1) := by decide +kernel
theorem dJ9_abs_067f4_3 : decode cJ9_abs_067f4 3 = .ok (.ifCond .ge 8, 3) := by decide +kernel
theorem dJ9_abs_067f4_6 : decode cJ9_abs_067f4 6 = .ok (.lload_n 0, 1) := by decide +kernel
theorem dJ9_abs_067f4_7 : decode cJ9_abs_067f4 7 = .ok (.lneg, 1) := by decide +kernel
theorem dJ9_abs_067f4_8 : decode cJ9_abs_067f4 8 = .ok (.goto 4, 3) := by decide +kernel
theorem dJ9_abs_067f4_11 : decode cJ9_abs_067f4 11 = .ok (.lload_n 0, 1) := by decide +kernel
theorem dJ9_abs_067f4_12 : decode cJ9_abs_067f4 12 = .ok (.lreturn, 1) := by decide +kernel
theorem dJ9_max_7cf53_0 : decode cJ9_max_7cf53 0 = .ok (.iload_n 0, 1) := by decide +kernel
theorem dJ9_max_7cf53_1 : decode cJ9_max_7cf53 1 = .ok (.iload_n 1, 1) := by decide +kernel
theorem dJ9_max_7cf53_2 : decode cJ9_max_7cf53 2 = .ok (.if_icmp .lt 7, 3) := by decide +kernel
theorem dJ9_max_7cf53_5 : decode cJ9_max_7cf53 5 = .ok (.iload_n 0, 1) := by decide +kernel
theorem dJ9_max_7cf53_6 : decode cJ9_max_7cf53 6 = .ok (.goto 4, 3) := by decide +kernel
theorem dJ9_max_7cf53_9 : decode cJ9_max_7cf53 9 = .ok (.iload_n 1, 1) := by decide +kernel
theorem dJ9_max_7cf53_10 : decode cJ9_max_7cf53 10 = .ok (.ireturn, 1) := by decide +kernel
theorem dJ9_max_f86c9_0 : decode cJ9_max_f86c9 0 = .ok (.lload_n 0, 1) := by decide +kernel
theorem dJ9_max_f86c9_1 : decode cJ9_max_f86c9 1 = .ok (.lload_n 2, 1) := by decide +kernel
theorem dJ9_max_f86c9_2 : decode cJ9_max_f86c9 2 = .ok (.lcmp, 1) := by decide +kernel
theorem dJ9_max_f86c9_3 : decode cJ9_max_f86c9 3 = .ok (.ifCond .lt 7, 3) := by decide +kernel
theorem dJ9_max_f86c9_6 : decode cJ9_max_f86c9 6 = .ok (.lload_n 0, 1) := by decide +kernel
theorem dJ9_max_f86c9_7 : decode cJ9_max_f86c9 7 = .ok (.goto 4, 3) := by decide +kernel
theorem dJ9_max_f86c9_10 : decode cJ9_max_f86c9 10 = .ok (.lload_n 2, 1) := by decide +kernel
theorem dJ9_max_f86c9_11 : decode cJ9_max_f86c9 11 = .ok (.lreturn, 1) := by decide +kernel
theorem dJ9_min_7cf53_0 : decode cJ9_min_7cf53 0 = .ok (.iload_n 0, 1) := by decide +kernel
theorem dJ9_min_7cf53_1 : decode cJ9_min_7cf53 1 = .ok (.iload_n 1, 1) := by decide +kernel
theorem dJ9_min_7cf53_2 : decode cJ9_min_7cf53 2 = .ok (.if_icmp .gt 7, 3) := by decide +kernel
theorem dJ9_min_7cf53_5 : decode cJ9_min_7cf53 5 = .ok (.iload_n 0, 1) := by decide +kernel
theorem dJ9_min_7cf53_6 : decode cJ9_min_7cf53 6 = .ok (.goto 4, 3) := by decide +kernel
theorem dJ9_min_7cf53_9 : decode cJ9_min_7cf53 9 = .ok (.iload_n 1, 1) := by decide +kernel
theorem dJ9_min_7cf53_10 : decode cJ9_min_7cf53 10 = .ok (.ireturn, 1) := by decide +kernel
theorem dJ9_min_f86c9_0 : decode cJ9_min_f86c9 0 = .ok (.lload_n 0, 1) := by decide +kernel
theorem dJ9_min_f86c9_1 : decode cJ9_min_f86c9 1 = .ok (.lload_n 2, 1) := by decide +kernel
theorem dJ9_min_f86c9_2 : decode cJ9_min_f86c9 2 = .ok (.lcmp, 1) := by decide +kernel
theorem dJ9_min_f86c9_3 : decode cJ9_min_f86c9 3 = .ok (.ifCond .gt 7, 3) := by decide +kernel
theorem dJ9_min_f86c9_6 : decode cJ9_min_f86c9 6 = .ok (.lload_n 0, 1) := by decide +kernel
theorem dJ9_min_f86c9_7 : decode cJ9_min_f86c9 7 = .ok (.goto 4, 3) := by decide +kernel
theorem dJ9_min_f86c9_10 : decode cJ9_min_f86c9 10 = .ok (.lload_n 2, 1) := by decide +kernel
theorem dJ9_min_f86c9_11 : decode cJ9_min_f86c9 11 = .ok (.lreturn, 1) := by decide +kernel
