theorem dX3_init_0 : decode cX3_init 0 = .ok (.aload_n 0, 1) := by decide +kernel
theorem dX3_init_1 : decode cX3_init 1 = .ok (.invokespecial 3, 3) := by decide +kernel
theorem dX3_init_4 : decode cX3_init 4 = .ok (.aload_n 0, 1) := by decide +kernel
theorem dX3_init_5 : decode cX3_init 5 = .ok (.iconst 0, 1) := by decide +kernel
theorem dX3_init_6 : decode cX3_init 6 = .ok (.putfield 9, 3) := by decide +kernel
theorem dX3_init_9 : decode cX3_init 9 = .ok (.aload_n 0, 1) := by decide +kernel
theorem dX3_init_10 : decode cX3_init 10 = .ok (.iconst 3, 1) := by decide +kernel
theorem dX3_init_11 : decode cX3_init 11 = .ok (.newarray .int, 2) := by decide +kernel
theorem dX3_init_13 : decode cX3_init 13 = .ok (.dup, 1) := by decide +kernel
theorem dX3_init_14 : decode cX3_init 14 = .ok (.iconst 0, 1) := by decide +kernel
theorem dX3_init_15 : decode cX3_init 15 = .ok (.iconst 1, 1) := by decide +kernel
theorem dX3_init_16 : decode cX3_init 16 = .ok (.iastore, 1) := by decide +kernel
theorem dX3_init_17 : decode cX3_init 17 = .ok (.dup, 1) := by decide +kernel
theorem dX3_init_18 : decode cX3_init 18 = .ok (.iconst 1, 1) := by decide +kernel
theorem dX3_init_19 : decode cX3_init 19 = .ok (.iconst 1, 1) := by decide +kernel
theorem dX3_init_20 : decode cX3_init 20 = .ok (.iastore, 1) := by decide +kernel
theorem dX3_init_21 : decode cX3_init 21 = .ok (.dup, 1) := by decide +kernel
theorem dX3_init_22 : decode cX3_init 22 = .ok (.iconst 2, 1) := by decide +kernel
theorem dX3_init_23 : decode cX3_init 23 = .ok (.iconst 1, 1) := by decide +kernel
theorem dX3_init_24 : decode cX3_init 24 = .ok (.iastore, 1) := by decide +kernel
theorem dX3_init_25 : decode cX3_init 25 = .ok (.putfield 15, 3) := by decide +kernel
theorem dX3_init_28 : decode cX3_init 28 = .ok (.return_, 1) := by decide +kernel
theorem dX3_setFromFirst_0 : decode cX3_setFromFirst 0 = .ok (.iload_n 1, 1) := by decide +kernel
theorem dX3_setFromFirst_1 : decode cX3_setFromFirst 1 = .ok (.bipush (-3), 2) := by decide +kernel
theorem dX3_setFromFirst_3 : decode cX3_setFromFirst 3 = .ok (.if_icmp .ne 14, 3) := by decide +kernel
theorem dX3_setFromFirst_6 : decode cX3_setFromFirst 6 = .ok (.aload_n 0, 1) := by decide +kernel
theorem dX3_setFromFirst_7 : decode cX3_setFromFirst 7 = .ok (.iconst 0, 1) := by decide +kernel
theorem dX3_setFromFirst_8 : decode cX3_setFromFirst 8 = .ok (.iconst 1, 1) := by decide +kernel
theorem dX3_setFromFirst_9 : decode cX3_setFromFirst 9 = .ok (.iconst 1, 1) := by decide +kernel
theorem dX3_setFromFirst_10 : decode cX3_setFromFirst 10 = .ok (.iconst 1, 1) := by decide +kernel
theorem dX3_setFromFirst_11 : decode cX3_setFromFirst 11 = .ok (.invokevirtual 19, 3) := by decide +kernel
theorem dX3_setFromFirst_14 : decode cX3_setFromFirst 14 = .ok (.goto 45, 3) := by decide +kernel
theorem dX3_setFromFirst_17 : decode cX3_setFromFirst 17 = .ok (.iload_n 2, 1) := by decide +kernel
theorem dX3_setFromFirst_18 : decode cX3_setFromFirst 18 = .ok (.bipush (-3), 2) := by decide +kernel
theorem dX3_setFromFirst_20 : decode cX3_setFromFirst 20 = .ok (.if_icmp .ne 14, 3) := by decide +kernel
theorem dX3_setFromFirst_23 : decode cX3_setFromFirst 23 = .ok (.aload_n 0, 1) := by decide +kernel
theorem dX3_setFromFirst_24 : decode cX3_setFromFirst 24 = .ok (.iconst 1, 1) := by decide +kernel
theorem dX3_setFromFirst_25 : decode cX3_setFromFirst 25 = .ok (.iload_n 1, 1) := by decide +kernel
theorem dX3_setFromFirst_26 : decode cX3_setFromFirst 26 = .ok (.iconst 1, 1) := by decide +kernel
theorem dX3_setFromFirst_27 : decode cX3_setFromFirst 27 = .ok (.iconst 1, 1) := by decide +kernel
theorem dX3_setFromFirst_28 : decode cX3_setFromFirst 28 = .ok (.invokevirtual 19, 3) := by decide +kernel
theorem dX3_setFromFirst_31 : decode cX3_setFromFirst 31 = .ok (.goto 28, 3) := by decide +kernel
theorem dX3_setFromFirst_34 : decode cX3_setFromFirst 34 = .ok (.iload_n 3, 1) := by decide +kernel
theorem dX3_setFromFirst_35 : decode cX3_setFromFirst 35 = .ok (.bipush (-3), 2) := by decide +kernel
theorem dX3_setFromFirst_37 : decode cX3_setFromFirst 37 = .ok (.if_icmp .ne 14, 3) := by decide +kernel
theorem dX3_setFromFirst_40 : decode cX3_setFromFirst 40 = .ok (.aload_n 0, 1) := by decide +kernel
theorem dX3_setFromFirst_41 : decode cX3_setFromFirst 41 = .ok (.iconst 2, 1) := by decide +kernel
theorem dX3_setFromFirst_42 : decode cX3_setFromFirst 42 = .ok (.iload_n 2, 1) := by decide +kernel
theorem dX3_setFromFirst_43 : decode cX3_setFromFirst 43 = .ok (.iload_n 1, 1) := by decide +kernel
theorem dX3_setFromFirst_44 : decode cX3_setFromFirst 44 = .ok (.iconst 1, 1) := by decide +kernel
theorem dX3_setFromFirst_45 : decode cX3_setFromFirst 45 = .ok (.invokevirtual 19, 3) := by decide +kernel
theorem dX3_setFromFirst_48 : decode cX3_setFromFirst 48 = .ok (.goto 11, 3) := by decide +kernel
theorem dX3_setFromFirst_51 : decode cX3_setFromFirst 51 = .ok (.aload_n 0, 1) := by decide +kernel
theorem dX3_setFromFirst_52 : decode cX3_setFromFirst 52 = .ok (.iconst 3, 1) := by decide +kernel
theorem dX3_setFromFirst_53 : decode cX3_setFromFirst 53 = .ok (.iload_n 3, 1) := by decide +kernel
theorem dX3_setFromFirst_54 : decode cX3_setFromFirst 54 = .ok (.iload_n 2, 1) := by decide +kernel
theorem dX3_setFromFirst_55 : decode cX3_setFromFirst 55 = .ok (.iload_n 1, 1) := by decide +kernel
theorem dX3_setFromFirst_56 : decode cX3_setFromFirst 56 = .ok (.invokevirtual 19, 3) := by decide +kernel
theorem dX3_setFromFirst_59 : decode cX3_setFromFirst 59 = .ok (.return_, 1) := by decide +kernel
theorem dX3_setFromLast_0 : decode cX3_setFromLast 0 = .ok (.aload_n 0, 1) := by decide +kernel
theorem dX3_setFromLast_1 : decode cX3_setFromLast 1 = .ok (.iload_n 1, 1) := by decide +kernel
theorem dX3_setFromLast_2 : decode cX3_setFromLast 2 = .ok (.putfield 9, 3) := by decide +kernel
theorem dX3_setFromLast_5 : decode cX3_setFromLast 5 = .ok (.aload_n 0, 1) := by decide +kernel
theorem dX3_setFromLast_6 : decode cX3_setFromLast 6 = .ok (.getfield 15, 3) := by decide +kernel
theorem dX3_setFromLast_9 : decode cX3_setFromLast 9 = .ok (.iconst 0, 1) := by decide +kernel
theorem dX3_setFromLast_10 : decode cX3_setFromLast 10 = .ok (.iload_n 2, 1) := by decide +kernel
theorem dX3_setFromLast_11 : decode cX3_setFromLast 11 = .ok (.iastore, 1) := by decide +kernel
theorem dX3_setFromLast_12 : decode cX3_setFromLast 12 = .ok (.aload_n 0, 1) := by decide +kernel
theorem dX3_setFromLast_13 : decode cX3_setFromLast 13 = .ok (.getfield 15, 3) := by decide +kernel
theorem dX3_setFromLast_16 : decode cX3_setFromLast 16 = .ok (.iconst 1, 1) := by decide +kernel
theorem dX3_setFromLast_17 : decode cX3_setFromLast 17 = .ok (.iload_n 3, 1) := by decide +kernel
theorem dX3_setFromLast_18 : decode cX3_setFromLast 18 = .ok (.iastore, 1) := by decide +kernel
theorem dX3_setFromLast_19 : decode cX3_setFromLast 19 = .ok (.aload_n 0, 1) := by decide +kernel
theorem dX3_setFromLast_20 : decode cX3_setFromLast 20 = .ok (.getfield 15, 3) := by decide +kernel
theorem dX3_setFromLast_23 : decode cX3_setFromLast 23 = .ok (.iconst 2, 1) := by decide +kernel
theorem dX3_setFromLast_24 : decode cX3_setFromLast 24 = .ok (.iload 4, 2) := by decide +kernel
theorem dX3_setFromLast_26 : decode cX3_setFromLast 26 = .ok (.iastore, 1) := by decide +kernel
theorem dX3_setFromLast_27 : decode cX3_setFromLast 27 = .ok (.return_, 1) := by decide +kernel
theorem dX3_setAs_0 : decode cX3_setAs 0 = .ok (.aload_n 0, 1) := by decide +kernel
theorem dX3_setAs_1 : decode cX3_setAs 1 = .ok (.aload_n 1, 1) := by decide +kernel
theorem dX3_setAs_2 : decode cX3_setAs 2 = .ok (.getfield 9, 3) := by decide +kernel
theorem dX3_setAs_5 : decode cX3_setAs 5 = .ok (.aload_n 1, 1) := by decide +kernel
theorem dX3_setAs_6 : decode cX3_setAs 6 = .ok (.getfield 15, 3) := by decide +kernel
theorem dX3_setAs_9 : decode cX3_setAs 9 = .ok (.iconst 0, 1) := by decide +kernel
theorem dX3_setAs_10 : decode cX3_setAs 10 = .ok (.iaload, 1) := by decide +kernel
theorem dX3_setAs_11 : decode cX3_setAs 11 = .ok (.aload_n 1, 1) := by decide +kernel
theorem dX3_setAs_12 : decode cX3_setAs 12 = .ok (.getfield 15, 3) := by decide +kernel
theorem dX3_setAs_15 : decode cX3_setAs 15 = .ok (.iconst 1, 1) := by decide +kernel
theorem dX3_setAs_16 : decode cX3_setAs 16 = .ok (.iaload, 1) := by decide +kernel
theorem dX3_setAs_17 : decode cX3_setAs 17 = .ok (.aload_n 1, 1) := by decide +kernel
theorem dX3_setAs_18 : decode cX3_setAs 18 = .ok (.getfield 15, 3) := by decide +kernel
theorem dX3_setAs_21 : decode cX3_setAs 21 = .ok (.iconst 2, 1) := by decide +kernel
theorem dX3_setAs_22 : decode cX3_setAs 22 = .ok (.iaload, 1) := by decide +kernel
theorem dX3_setAs_23 : decode cX3_setAs 23 = .ok (.invokevirtual 19, 3) := by decide +kernel
theorem dX3_setAs_26 : decode cX3_setAs 26 = .ok (.return_, 1) := by decide +kernel
theorem dX3_spreadWith_0 : decode cX3_spreadWith 0 = .ok (.iconst 0, 1) := by decide +kernel
theorem dX3_spreadWith_1 : decode cX3_spreadWith 1 = .ok (.istore_n 2, 1) := by decide +kernel
theorem dX3_spreadWith_2 : decode cX3_spreadWith 2 = .ok (.iload_n 2, 1) := by decide +kernel
theorem dX3_spreadWith_3 : decode cX3_spreadWith 3 = .ok (.iconst 3, 1) := by decide +kernel
theorem dX3_spreadWith_4 : decode cX3_spreadWith 4 = .ok (.if_icmp .ge 53, 3) := by decide +kernel
theorem dX3_spreadWith_7 : decode cX3_spreadWith 7 = .ok (.aload_n 1, 1) := by decide +kernel
theorem dX3_spreadWith_8 : decode cX3_spreadWith 8 = .ok (.getfield 15, 3) := by decide +kernel
theorem dX3_spreadWith_11 : decode cX3_spreadWith 11 = .ok (.iload_n 2, 1) := by decide +kernel
theorem dX3_spreadWith_12 : decode cX3_spreadWith 12 = .ok (.iaload, 1) := by decide +kernel
theorem dX3_spreadWith_13 : decode cX3_spreadWith 13 = .ok (.istore_n 3, 1) := by decide +kernel
theorem dX3_spreadWith_14 : decode cX3_spreadWith 14 = .ok (.aload_n 0, 1) := by decide +kernel
theorem dX3_spreadWith_15 : decode cX3_spreadWith 15 = .ok (.getfield 15, 3) := by decide +kernel
theorem dX3_spreadWith_18 : decode cX3_spreadWith 18 = .ok (.iload_n 2, 1) := by decide +kernel
theorem dX3_spreadWith_19 : decode cX3_spreadWith 19 = .ok (.iaload, 1) := by decide +kernel
theorem dX3_spreadWith_20 : decode cX3_spreadWith 20 = .ok (.iconst 1, 1) := by decide +kernel
theorem dX3_spreadWith_21 : decode cX3_spreadWith 21 = .ok (.if_icmp .ne 13, 3) := by decide +kernel
theorem dX3_spreadWith_24 : decode cX3_spreadWith 24 = .ok (.aload_n 0, 1) := by decide +kernel
theorem dX3_spreadWith_25 : decode cX3_spreadWith 25 = .ok (.getfield 15, 3) := by decide +kernel
theorem dX3_spreadWith_28 : decode cX3_spreadWith 28 = .ok (.iload_n 2, 1) := by decide +kernel
theorem dX3_spreadWith_29 : decode cX3_spreadWith 29 = .ok (.iload_n 3, 1) := by decide +kernel
theorem dX3_spreadWith_30 : decode cX3_spreadWith 30 = .ok (.iastore, 1) := by decide +kernel
theorem dX3_spreadWith_31 : decode cX3_spreadWith 31 = .ok (.goto 20, 3) := by decide +kernel
theorem dX3_spreadWith_34 : decode cX3_spreadWith 34 = .ok (.iload_n 3, 1) := by decide +kernel
theorem dX3_spreadWith_35 : decode cX3_spreadWith 35 = .ok (.iconst 1, 1) := by decide +kernel
theorem dX3_spreadWith_36 : decode cX3_spreadWith 36 = .ok (.if_icmp .eq 15, 3) := by decide +kernel
theorem dX3_spreadWith_39 : decode cX3_spreadWith 39 = .ok (.iload_n 3, 1) := by decide +kernel
theorem dX3_spreadWith_40 : decode cX3_spreadWith 40 = .ok (.aload_n 0, 1) := by decide +kernel
theorem dX3_spreadWith_41 : decode cX3_spreadWith 41 = .ok (.getfield 15, 3) := by decide +kernel
theorem dX3_spreadWith_44 : decode cX3_spreadWith 44 = .ok (.iload_n 2, 1) := by decide +kernel
theorem dX3_spreadWith_45 : decode cX3_spreadWith 45 = .ok (.iaload, 1) := by decide +kernel
theorem dX3_spreadWith_46 : decode cX3_spreadWith 46 = .ok (.if_icmp .eq 5, 3) := by decide +kernel
theorem dX3_spreadWith_49 : decode cX3_spreadWith 49 = .ok (.iload_n 2, 1) := by decide +kernel
theorem dX3_spreadWith_50 : decode cX3_spreadWith 50 = .ok (.ireturn, 1) := by decide +kernel
theorem dX3_spreadWith_51 : decode cX3_spreadWith 51 = .ok (.iinc 2 1, 3) := by decide +kernel
theorem dX3_spreadWith_54 : decode cX3_spreadWith 54 = .ok (.goto (-52), 3) := by decide +kernel
theorem dX3_spreadWith_57 : decode cX3_spreadWith 57 = .ok (.aload_n 0, 1) := by decide +kernel
theorem dX3_spreadWith_58 : decode cX3_spreadWith 58 = .ok (.aload_n 0, 1) := by decide +kernel
theorem dX3_spreadWith_59 : decode cX3_spreadWith 59 = .ok (.getfield 9, 3) := by decide +kernel
theorem dX3_spreadWith_62 : decode cX3_spreadWith 62 = .ok (.aload_n 1, 1) := by decide +kernel
theorem dX3_spreadWith_63 : decode cX3_spreadWith 63 = .ok (.getfield 9, 3) := by decide +kernel
theorem dX3_spreadWith_66 : decode cX3_spreadWith 66 = .ok (.invokestatic 23, 3) := by decide +kernel
theorem dX3_spreadWith_69 : decode cX3_spreadWith 69 = .ok (.putfield 9, 3) := by decide +kernel
theorem dX3_spreadWith_72 : decode cX3_spreadWith 72 = .ok (.bipush (-3), 2) := by decide +kernel
theorem dX3_spreadWith_74 : decode cX3_spreadWith 74 = .ok (.ireturn, 1) := by decide +kernel
theorem dX3_size_0 : decode cX3_size 0 = .ok (.aload_n 0, 1) := by decide +kernel
theorem dX3_size_1 : decode cX3_size 1 = .ok (.getfield 15, 3) := by decide +kernel
theorem dX3_size_4 : decode cX3_size 4 = .ok (.iconst 0, 1) := by decide +kernel
theorem dX3_size_5 : decode cX3_size 5 = .ok (.iaload, 1) := by decide +kernel
theorem dX3_size_6 : decode cX3_size 6 = .ok (.aload_n 0, 1) := by decide +kernel
theorem dX3_size_7 : decode cX3_size 7 = .ok (.getfield 15, 3) := by decide +kernel
theorem dX3_size_10 : decode cX3_size 10 = .ok (.iconst 1, 1) := by decide +kernel
theorem dX3_size_11 : decode cX3_size 11 = .ok (.iaload, 1) := by decide +kernel
theorem dX3_size_12 : decode cX3_size 12 = .ok (.imul, 1) := by decide +kernel
theorem dX3_size_13 : decode cX3_size 13 = .ok (.aload_n 0, 1) := by decide +kernel
theorem dX3_size_14 : decode cX3_size 14 = .ok (.getfield 15, 3) := by decide +kernel
theorem dX3_size_17 : decode cX3_size 17 = .ok (.iconst 2, 1) := by decide +kernel
theorem dX3_size_18 : decode cX3_size 18 = .ok (.iaload, 1) := by decide +kernel
theorem dX3_size_19 : decode cX3_size 19 = .ok (.imul, 1) := by decide +kernel
theorem dX3_size_20 : decode cX3_size 20 = .ok (.ireturn, 1) := by decide +kernel
theorem dX3_extentFromFirst_0 : decode cX3_extentFromFirst 0 = .ok (.aload_n 0, 1) := by decide +kernel
theorem dX3_extentFromFirst_1 : decode cX3_extentFromFirst 1 = .ok (.getfield 9, 3) := by decide +kernel
theorem dX3_extentFromFirst_4 : decode cX3_extentFromFirst 4 = .ok (.iconst 1, 1) := by decide +kernel
theorem dX3_extentFromFirst_5 : decode cX3_extentFromFirst 5 = .ok (.isub, 1) := by decide +kernel
theorem dX3_extentFromFirst_6 : decode cX3_extentFromFirst 6 = .ok (.iload_n 1, 1) := by decide +kernel
theorem dX3_extentFromFirst_7 : decode cX3_extentFromFirst 7 = .ok (.isub, 1) := by decide +kernel
theorem dX3_extentFromFirst_8 : decode cX3_extentFromFirst 8 = .ok (.istore_n 2, 1) := by decide +kernel
theorem dX3_extentFromFirst_9 : decode cX3_extentFromFirst 9 = .ok (.iload_n 1, 1) := by decide +kernel
theorem dX3_extentFromFirst_10 : decode cX3_extentFromFirst 10 = .ok (.ifCond .lt 21, 3) := by decide +kernel
theorem dX3_extentFromFirst_13 : decode cX3_extentFromFirst 13 = .ok (.iload_n 2, 1) := by decide +kernel
theorem dX3_extentFromFirst_14 : decode cX3_extentFromFirst 14 = .ok (.ifCond .lt 17, 3) := by decide +kernel
theorem dX3_extentFromFirst_17 : decode cX3_extentFromFirst 17 = .ok (.iload_n 2, 1) := by decide +kernel
theorem dX3_extentFromFirst_18 : decode cX3_extentFromFirst 18 = .ok (.iconst 3, 1) := by decide +kernel
theorem dX3_extentFromFirst_19 : decode cX3_extentFromFirst 19 = .ok (.if_icmp .ge 12, 3) := by decide +kernel
theorem dX3_extentFromFirst_22 : decode cX3_extentFromFirst 22 = .ok (.aload_n 0, 1) := by decide +kernel
theorem dX3_extentFromFirst_23 : decode cX3_extentFromFirst 23 = .ok (.getfield 15, 3) := by decide +kernel
theorem dX3_extentFromFirst_26 : decode cX3_extentFromFirst 26 = .ok (.iload_n 2, 1) := by decide +kernel
theorem dX3_extentFromFirst_27 : decode cX3_extentFromFirst 27 = .ok (.iaload, 1) := by decide +kernel
theorem dX3_extentFromFirst_28 : decode cX3_extentFromFirst 28 = .ok (.goto 5, 3) := by decide +kernel
theorem dX3_extentFromFirst_31 : decode cX3_extentFromFirst 31 = .ok (.bipush (-3), 2) := by decide +kernel
theorem dX3_extentFromFirst_33 : decode cX3_extentFromFirst 33 = .ok (.ireturn, 1) := by decide +kernel
theorem dX3_isLike_0 : decode cX3_isLike 0 = .ok (.aload_n 0, 1) := by decide +kernel
theorem dX3_isLike_1 : decode cX3_isLike 1 = .ok (.getfield 9, 3) := by decide +kernel
theorem dX3_isLike_4 : decode cX3_isLike 4 = .ok (.aload_n 1, 1) := by decide +kernel
theorem dX3_isLike_5 : decode cX3_isLike 5 = .ok (.getfield 9, 3) := by decide +kernel
theorem dX3_isLike_8 : decode cX3_isLike 8 = .ok (.if_icmp .ne 52, 3) := by decide +kernel
theorem dX3_isLike_11 : decode cX3_isLike 11 = .ok (.aload_n 0, 1) := by decide +kernel
theorem dX3_isLike_12 : decode cX3_isLike 12 = .ok (.getfield 15, 3) := by decide +kernel
theorem dX3_isLike_15 : decode cX3_isLike 15 = .ok (.iconst 0, 1) := by decide +kernel
theorem dX3_isLike_16 : decode cX3_isLike 16 = .ok (.iaload, 1) := by decide +kernel
theorem dX3_isLike_17 : decode cX3_isLike 17 = .ok (.aload_n 1, 1) := by decide +kernel
theorem dX3_isLike_18 : decode cX3_isLike 18 = .ok (.getfield 15, 3) := by decide +kernel
theorem dX3_isLike_21 : decode cX3_isLike 21 = .ok (.iconst 0, 1) := by decide +kernel
theorem dX3_isLike_22 : decode cX3_isLike 22 = .ok (.iaload, 1) := by decide +kernel
theorem dX3_isLike_23 : decode cX3_isLike 23 = .ok (.if_icmp .ne 37, 3) := by decide +kernel
theorem dX3_isLike_26 : decode cX3_isLike 26 = .ok (.aload_n 0, 1) := by decide +kernel
theorem dX3_isLike_27 : decode cX3_isLike 27 = .ok (.getfield 15, 3) := by decide +kernel
theorem dX3_isLike_30 : decode cX3_isLike 30 = .ok (.iconst 1, 1) := by decide +kernel
theorem dX3_isLike_31 : decode cX3_isLike 31 = .ok (.iaload, 1) := by decide +kernel
theorem dX3_isLike_32 : decode cX3_isLike 32 = .ok (.aload_n 1, 1) := by decide +kernel
theorem dX3_isLike_33 : decode cX3_isLike 33 = .ok (.getfield 15, 3) := by decide +kernel
theorem dX3_isLike_36 : decode cX3_isLike 36 = .ok (.iconst 1, 1) := by decide +kernel
theorem dX3_isLike_37 : decode cX3_isLike 37 = .ok (.iaload, 1) := by decide +kernel
theorem dX3_isLike_38 : decode cX3_isLike 38 = .ok (.if_icmp .ne 22, 3) := by decide +kernel
theorem dX3_isLike_41 : decode cX3_isLike 41 = .ok (.aload_n 0, 1) := by decide +kernel
theorem dX3_isLike_42 : decode cX3_isLike 42 = .ok (.getfield 15, 3) := by decide +kernel
theorem dX3_isLike_45 : decode cX3_isLike 45 = .ok (.iconst 2, 1) := by decide +kernel
theorem dX3_isLike_46 : decode cX3_isLike 46 = .ok (.iaload, 1) := by decide +kernel
theorem dX3_isLike_47 : decode cX3_isLike 47 = .ok (.aload_n 1, 1) := by decide +kernel
theorem dX3_isLike_48 : decode cX3_isLike 48 = .ok (.getfield 15, 3) := by decide +kernel
theorem dX3_isLike_51 : decode cX3_isLike 51 = .ok (.iconst 2, 1) := by decide +kernel
theorem dX3_isLike_52 : decode cX3_isLike 52 = .ok (.iaload, 1) := by decide +kernel
theorem dX3_isLike_53 : decode cX3_isLike 53 = .ok (.if_icmp .ne 7, 3) := by decide +kernel
theorem dX3_isLike_56 : decode cX3_isLike 56 = .ok (.iconst 1, 1) := by decide +kernel
theorem dX3_isLike_57 : decode cX3_isLike 57 = .ok (.goto 4, 3) := by decide +kernel
theorem dX3_isLike_60 : decode cX3_isLike 60 = .ok (.iconst 0, 1) := by decide +kernel
theorem dX3_isLike_61 : decode cX3_isLike 61 = .ok (.ireturn, 1) := by decide +kernel
theorem dX3_numberAt_0 : decode cX3_numberAt 0 = .ok (.iconst 0, 1) := by decide +kernel
theorem dX3_numberAt_1 : decode cX3_numberAt 1 = .ok (.istore 4, 2) := by decide +kernel
theorem dX3_numberAt_3 : decode cX3_numberAt 3 = .ok (.iconst 0, 1) := by decide +kernel
theorem dX3_numberAt_4 : decode cX3_numberAt 4 = .ok (.istore 5, 2) := by decide +kernel
theorem dX3_numberAt_6 : decode cX3_numberAt 6 = .ok (.iload 5, 2) := by decide +kernel
theorem dX3_numberAt_8 : decode cX3_numberAt 8 = .ok (.aload_n 0, 1) := by decide +kernel
theorem dX3_numberAt_9 : decode cX3_numberAt 9 = .ok (.getfield 9, 3) := by decide +kernel
theorem dX3_numberAt_12 : decode cX3_numberAt 12 = .ok (.if_icmp .ge 64, 3) := by decide +kernel
theorem dX3_numberAt_15 : decode cX3_numberAt 15 = .ok (.iload 5, 2) := by decide +kernel
theorem dX3_numberAt_17 : decode cX3_numberAt 17 = .ok (.ifCond .ne 7, 3) := by decide +kernel
theorem dX3_numberAt_20 : decode cX3_numberAt 20 = .ok (.iload_n 1, 1) := by decide +kernel
theorem dX3_numberAt_21 : decode cX3_numberAt 21 = .ok (.goto 14, 3) := by decide +kernel
theorem dX3_numberAt_24 : decode cX3_numberAt 24 = .ok (.iload 5, 2) := by decide +kernel
theorem dX3_numberAt_26 : decode cX3_numberAt 26 = .ok (.iconst 1, 1) := by decide +kernel
theorem dX3_numberAt_27 : decode cX3_numberAt 27 = .ok (.if_icmp .ne 7, 3) := by decide +kernel
theorem dX3_numberAt_30 : decode cX3_numberAt 30 = .ok (.iload_n 2, 1) := by decide +kernel
theorem dX3_numberAt_31 : decode cX3_numberAt 31 = .ok (.goto 4, 3) := by decide +kernel
theorem dX3_numberAt_34 : decode cX3_numberAt 34 = .ok (.iload_n 3, 1) := by decide +kernel
theorem dX3_numberAt_35 : decode cX3_numberAt 35 = .ok (.istore 6, 2) := by decide +kernel
theorem dX3_numberAt_37 : decode cX3_numberAt 37 = .ok (.aload_n 0, 1) := by decide +kernel
theorem dX3_numberAt_38 : decode cX3_numberAt 38 = .ok (.iload 5, 2) := by decide +kernel
theorem dX3_numberAt_40 : decode cX3_numberAt 40 = .ok (.invokevirtual 29, 3) := by decide +kernel
theorem dX3_numberAt_43 : decode cX3_numberAt 43 = .ok (.istore 7, 2) := by decide +kernel
theorem dX3_numberAt_45 : decode cX3_numberAt 45 = .ok (.iload 6, 2) := by decide +kernel
theorem dX3_numberAt_47 : decode cX3_numberAt 47 = .ok (.ifCond .lt 10, 3) := by decide +kernel
theorem dX3_numberAt_50 : decode cX3_numberAt 50 = .ok (.iload 6, 2) := by decide +kernel
theorem dX3_numberAt_52 : decode cX3_numberAt 52 = .ok (.iload 7, 2) := by decide +kernel
theorem dX3_numberAt_54 : decode cX3_numberAt 54 = .ok (.if_icmp .lt 6, 3) := by decide +kernel
theorem dX3_numberAt_57 : decode cX3_numberAt 57 = .ok (.bipush (-3), 2) := by decide +kernel
theorem dX3_numberAt_59 : decode cX3_numberAt 59 = .ok (.ireturn, 1) := by decide +kernel
theorem dX3_numberAt_60 : decode cX3_numberAt 60 = .ok (.iload 4, 2) := by decide +kernel
theorem dX3_numberAt_62 : decode cX3_numberAt 62 = .ok (.iload 7, 2) := by decide +kernel
theorem dX3_numberAt_64 : decode cX3_numberAt 64 = .ok (.imul, 1) := by decide +kernel
theorem dX3_numberAt_65 : decode cX3_numberAt 65 = .ok (.iload 6, 2) := by decide +kernel
theorem dX3_numberAt_67 : decode cX3_numberAt 67 = .ok (.iadd, 1) := by decide +kernel
theorem dX3_numberAt_68 : decode cX3_numberAt 68 = .ok (.istore 4, 2) := by decide +kernel
theorem dX3_numberAt_70 : decode cX3_numberAt 70 = .ok (.iinc 5 1, 3) := by decide +kernel
theorem dX3_numberAt_73 : decode cX3_numberAt 73 = .ok (.goto (-67), 3) := by decide +kernel
theorem dX3_numberAt_76 : decode cX3_numberAt 76 = .ok (.iload 4, 2) := by decide +kernel
theorem dX3_numberAt_78 : decode cX3_numberAt 78 = .ok (.ireturn, 1) := by decide +kernel
theorem dX3_numberUnder_0 : decode cX3_numberUnder 0 = .ok (.iconst 0, 1) := by decide +kernel
theorem dX3_numberUnder_1 : decode cX3_numberUnder 1 = .ok (.istore_n 3, 1) := by decide +kernel
theorem dX3_numberUnder_2 : decode cX3_numberUnder 2 = .ok (.iconst 1, 1) := by decide +kernel
theorem dX3_numberUnder_3 : decode cX3_numberUnder 3 = .ok (.istore 4, 2) := by decide +kernel
theorem dX3_numberUnder_5 : decode cX3_numberUnder 5 = .ok (.iload_n 1, 1) := by decide +kernel
theorem dX3_numberUnder_6 : decode cX3_numberUnder 6 = .ok (.istore 5, 2) := by decide +kernel
theorem dX3_numberUnder_8 : decode cX3_numberUnder 8 = .ok (.iconst 0, 1) := by decide +kernel
theorem dX3_numberUnder_9 : decode cX3_numberUnder 9 = .ok (.istore 6, 2) := by decide +kernel
theorem dX3_numberUnder_11 : decode cX3_numberUnder 11 = .ok (.iload 6, 2) := by decide +kernel
theorem dX3_numberUnder_13 : decode cX3_numberUnder 13 = .ok (.iconst 3, 1) := by decide +kernel
theorem dX3_numberUnder_14 : decode cX3_numberUnder 14 = .ok (.if_icmp .ge 68, 3) := by decide +kernel
theorem dX3_numberUnder_17 : decode cX3_numberUnder 17 = .ok (.aload_n 2, 1) := by decide +kernel
theorem dX3_numberUnder_18 : decode cX3_numberUnder 18 = .ok (.getfield 15, 3) := by decide +kernel
theorem dX3_numberUnder_21 : decode cX3_numberUnder 21 = .ok (.iload 6, 2) := by decide +kernel
theorem dX3_numberUnder_23 : decode cX3_numberUnder 23 = .ok (.iaload, 1) := by decide +kernel
theorem dX3_numberUnder_24 : decode cX3_numberUnder 24 = .ok (.istore 7, 2) := by decide +kernel
theorem dX3_numberUnder_26 : decode cX3_numberUnder 26 = .ok (.iload 7, 2) := by decide +kernel
theorem dX3_numberUnder_28 : decode cX3_numberUnder 28 = .ok (.iconst 1, 1) := by decide +kernel
theorem dX3_numberUnder_29 : decode cX3_numberUnder 29 = .ok (.if_icmp .ge 6, 3) := by decide +kernel
theorem dX3_numberUnder_32 : decode cX3_numberUnder 32 = .ok (.bipush (-3), 2) := by decide +kernel
theorem dX3_numberUnder_34 : decode cX3_numberUnder 34 = .ok (.ireturn, 1) := by decide +kernel
theorem dX3_numberUnder_35 : decode cX3_numberUnder 35 = .ok (.aload_n 0, 1) := by decide +kernel
theorem dX3_numberUnder_36 : decode cX3_numberUnder 36 = .ok (.getfield 15, 3) := by decide +kernel
theorem dX3_numberUnder_39 : decode cX3_numberUnder 39 = .ok (.iload 6, 2) := by decide +kernel
theorem dX3_numberUnder_41 : decode cX3_numberUnder 41 = .ok (.iaload, 1) := by decide +kernel
theorem dX3_numberUnder_42 : decode cX3_numberUnder 42 = .ok (.iconst 1, 1) := by decide +kernel
theorem dX3_numberUnder_43 : decode cX3_numberUnder 43 = .ok (.if_icmp .eq 26, 3) := by decide +kernel
theorem dX3_numberUnder_46 : decode cX3_numberUnder 46 = .ok (.iload_n 3, 1) := by decide +kernel
theorem dX3_numberUnder_47 : decode cX3_numberUnder 47 = .ok (.iload 5, 2) := by decide +kernel
theorem dX3_numberUnder_49 : decode cX3_numberUnder 49 = .ok (.iload 7, 2) := by decide +kernel
theorem dX3_numberUnder_51 : decode cX3_numberUnder 51 = .ok (.irem, 1) := by decide +kernel
theorem dX3_numberUnder_52 : decode cX3_numberUnder 52 = .ok (.iload 4, 2) := by decide +kernel
theorem dX3_numberUnder_54 : decode cX3_numberUnder 54 = .ok (.imul, 1) := by decide +kernel
theorem dX3_numberUnder_55 : decode cX3_numberUnder 55 = .ok (.iadd, 1) := by decide +kernel
theorem dX3_numberUnder_56 : decode cX3_numberUnder 56 = .ok (.istore_n 3, 1) := by decide +kernel
theorem dX3_numberUnder_57 : decode cX3_numberUnder 57 = .ok (.iload 4, 2) := by decide +kernel
theorem dX3_numberUnder_59 : decode cX3_numberUnder 59 = .ok (.aload_n 0, 1) := by decide +kernel
theorem dX3_numberUnder_60 : decode cX3_numberUnder 60 = .ok (.getfield 15, 3) := by decide +kernel
theorem dX3_numberUnder_63 : decode cX3_numberUnder 63 = .ok (.iload 6, 2) := by decide +kernel
theorem dX3_numberUnder_65 : decode cX3_numberUnder 65 = .ok (.iaload, 1) := by decide +kernel
theorem dX3_numberUnder_66 : decode cX3_numberUnder 66 = .ok (.imul, 1) := by decide +kernel
theorem dX3_numberUnder_67 : decode cX3_numberUnder 67 = .ok (.istore 4, 2) := by decide +kernel
theorem dX3_numberUnder_69 : decode cX3_numberUnder 69 = .ok (.iload 5, 2) := by decide +kernel
theorem dX3_numberUnder_71 : decode cX3_numberUnder 71 = .ok (.iload 7, 2) := by decide +kernel
theorem dX3_numberUnder_73 : decode cX3_numberUnder 73 = .ok (.idiv, 1) := by decide +kernel
theorem dX3_numberUnder_74 : decode cX3_numberUnder 74 = .ok (.istore 5, 2) := by decide +kernel
theorem dX3_numberUnder_76 : decode cX3_numberUnder 76 = .ok (.iinc 6 1, 3) := by decide +kernel
theorem dX3_numberUnder_79 : decode cX3_numberUnder 79 = .ok (.goto (-68), 3) := by decide +kernel
theorem dX3_numberUnder_82 : decode cX3_numberUnder 82 = .ok (.iload_n 3, 1) := by decide +kernel
theorem dX3_numberUnder_83 : decode cX3_numberUnder 83 = .ok (.ireturn, 1) := by decide +kernel
theorem dX4_init_0 : decode cX4_init 0 = .ok (.aload_n 0, 1) := by decide +kernel
theorem dX4_init_1 : decode cX4_init 1 = .ok (.invokespecial 1, 3) := by decide +kernel
theorem dX4_init_4 : decode cX4_init 4 = .ok (.aload_n 0, 1) := by decide +kernel
theorem dX4_init_5 : decode cX4_init 5 = .ok (.new 7, 3) := by decide +kernel
theorem dX4_init_8 : decode cX4_init 8 = .ok (.dup, 1) := by decide +kernel
theorem dX4_init_9 : decode cX4_init 9 = .ok (.invokespecial 9, 3) := by decide +kernel
theorem dX4_init_12 : decode cX4_init 12 = .ok (.putfield 10, 3) := by decide +kernel
theorem dX4_init_15 : decode cX4_init 15 = .ok (.aload_n 0, 1) := by decide +kernel
theorem dX4_init_16 : decode cX4_init 16 = .ok (.iconst 0, 1) := by decide +kernel
theorem dX4_init_17 : decode cX4_init 17 = .ok (.putfield 16, 3) := by decide +kernel
theorem dX4_init_20 : decode cX4_init 20 = .ok (.aload_n 0, 1) := by decide +kernel
theorem dX4_init_21 : decode cX4_init 21 = .ok (.iload_n 1, 1) := by decide +kernel
theorem dX4_init_22 : decode cX4_init 22 = .ok (.putfield 20, 3) := by decide +kernel
theorem dX4_init_25 : decode cX4_init 25 = .ok (.aload_n 0, 1) := by decide +kernel
theorem dX4_init_26 : decode cX4_init 26 = .ok (.getfield 10, 3) := by decide +kernel
theorem dX4_init_29 : decode cX4_init 29 = .ok (.aload_n 2, 1) := by decide +kernel
theorem dX4_init_30 : decode cX4_init 30 = .ok (.invokevirtual 24, 3) := by decide +kernel
theorem dX4_init_33 : decode cX4_init 33 = .ok (.aload_n 0, 1) := by decide +kernel
theorem dX4_init_34 : decode cX4_init 34 = .ok (.iload_n 3, 1) := by decide +kernel
theorem dX4_init_35 : decode cX4_init 35 = .ok (.ifCond .ge 7, 3) := by decide +kernel
theorem dX4_init_38 : decode cX4_init 38 = .ok (.iconst 0, 1) := by decide +kernel
theorem dX4_init_39 : decode cX4_init 39 = .ok (.goto 4, 3) := by decide +kernel
theorem dX4_init_42 : decode cX4_init 42 = .ok (.iload_n 3, 1) := by decide +kernel
theorem dX4_init_43 : decode cX4_init 43 = .ok (.newarray .long, 2) := by decide +kernel
theorem dX4_init_45 : decode cX4_init 45 = .ok (.putfield 28, 3) := by decide +kernel
theorem dX4_init_48 : decode cX4_init 48 = .ok (.return_, 1) := by decide +kernel
theorem dX4_hasItem_0 : decode cX4_hasItem 0 = .ok (.iload_n 1, 1) := by decide +kernel
theorem dX4_hasItem_1 : decode cX4_hasItem 1 = .ok (.ifCond .lt 16, 3) := by decide +kernel
theorem dX4_hasItem_4 : decode cX4_hasItem 4 = .ok (.iload_n 1, 1) := by decide +kernel
theorem dX4_hasItem_5 : decode cX4_hasItem 5 = .ok (.aload_n 0, 1) := by decide +kernel
theorem dX4_hasItem_6 : decode cX4_hasItem 6 = .ok (.getfield 28, 3) := by decide +kernel
theorem dX4_hasItem_9 : decode cX4_hasItem 9 = .ok (.arraylength, 1) := by decide +kernel
theorem dX4_hasItem_10 : decode cX4_hasItem 10 = .ok (.if_icmp .ge 7, 3) := by decide +kernel
theorem dX4_hasItem_13 : decode cX4_hasItem 13 = .ok (.iconst 1, 1) := by decide +kernel
theorem dX4_hasItem_14 : decode cX4_hasItem 14 = .ok (.goto 4, 3) := by decide +kernel
theorem dX4_hasItem_17 : decode cX4_hasItem 17 = .ok (.iconst 0, 1) := by decide +kernel
theorem dX4_hasItem_18 : decode cX4_hasItem 18 = .ok (.ireturn, 1) := by decide +kernel
theorem dX4_read_0 : decode cX4_read 0 = .ok (.aload_n 0, 1) := by decide +kernel
theorem dX4_read_1 : decode cX4_read 1 = .ok (.iload_n 1, 1) := by decide +kernel
theorem dX4_read_2 : decode cX4_read 2 = .ok (.invokevirtual 32, 3) := by decide +kernel
theorem dX4_read_5 : decode cX4_read 5 = .ok (.ifCond .eq 12, 3) := by decide +kernel
theorem dX4_read_8 : decode cX4_read 8 = .ok (.aload_n 0, 1) := by decide +kernel
theorem dX4_read_9 : decode cX4_read 9 = .ok (.getfield 28, 3) := by decide +kernel
theorem dX4_read_12 : decode cX4_read 12 = .ok (.iload_n 1, 1) := by decide +kernel
theorem dX4_read_13 : decode cX4_read 13 = .ok (.laload, 1) := by decide +kernel
theorem dX4_read_14 : decode cX4_read 14 = .ok (.goto 4, 3) := by decide +kernel
theorem dX4_read_17 : decode cX4_read 17 = .ok (.lconst 0, 1) := by decide +kernel
theorem dX4_read_18 : decode cX4_read 18 = .ok (.lreturn, 1) := by decide +kernel
theorem dX4_write_0 : decode cX4_write 0 = .ok (.aload_n 0, 1) := by decide +kernel
theorem dX4_write_1 : decode cX4_write 1 = .ok (.iload_n 1, 1) := by decide +kernel
theorem dX4_write_2 : decode cX4_write 2 = .ok (.invokevirtual 32, 3) := by decide +kernel
theorem dX4_write_5 : decode cX4_write 5 = .ok (.ifCond .eq 10, 3) := by decide +kernel
theorem dX4_write_8 : decode cX4_write 8 = .ok (.aload_n 0, 1) := by decide +kernel
theorem dX4_write_9 : decode cX4_write 9 = .ok (.getfield 28, 3) := by decide +kernel
theorem dX4_write_12 : decode cX4_write 12 = .ok (.iload_n 1, 1) := by decide +kernel
theorem dX4_write_13 : decode cX4_write 13 = .ok (.lload_n 2, 1) := by decide +kernel
theorem dX4_write_14 : decode cX4_write 14 = .ok (.lastore, 1) := by decide +kernel
theorem dX4_write_15 : decode cX4_write 15 = .ok (.return_, 1) := by decide +kernel
theorem dX4_readSpread_0 : decode cX4_readSpread 0 = .ok (.aload_n 0, 1) := by decide +kernel
theorem dX4_readSpread_1 : decode cX4_readSpread 1 = .ok (.aload_n 0, 1) := by decide +kernel
theorem dX4_readSpread_2 : decode cX4_readSpread 2 = .ok (.getfield 10, 3) := by decide +kernel
theorem dX4_readSpread_5 : decode cX4_readSpread 5 = .ok (.iload_n 1, 1) := by decide +kernel
theorem dX4_readSpread_6 : decode cX4_readSpread 6 = .ok (.aload_n 2, 1) := by decide +kernel
theorem dX4_readSpread_7 : decode cX4_readSpread 7 = .ok (.invokevirtual 36, 3) := by decide +kernel
theorem dX4_readSpread_10 : decode cX4_readSpread 10 = .ok (.invokevirtual 40, 3) := by decide +kernel
theorem dX4_readSpread_13 : decode cX4_readSpread 13 = .ok (.lreturn, 1) := by decide +kernel
theorem dX4_isLike_0 : decode cX4_isLike 0 = .ok (.aload_n 0, 1) := by decide +kernel
theorem dX4_isLike_1 : decode cX4_isLike 1 = .ok (.getfield 20, 3) := by decide +kernel
theorem dX4_isLike_4 : decode cX4_isLike 4 = .ok (.aload_n 1, 1) := by decide +kernel
theorem dX4_isLike_5 : decode cX4_isLike 5 = .ok (.getfield 20, 3) := by decide +kernel
theorem dX4_isLike_8 : decode cX4_isLike 8 = .ok (.if_icmp .ne 17, 3) := by decide +kernel
theorem dX4_isLike_11 : decode cX4_isLike 11 = .ok (.aload_n 0, 1) := by decide +kernel
theorem dX4_isLike_12 : decode cX4_isLike 12 = .ok (.getfield 10, 3) := by decide +kernel
theorem dX4_isLike_15 : decode cX4_isLike 15 = .ok (.aload_n 1, 1) := by decide +kernel
theorem dX4_isLike_16 : decode cX4_isLike 16 = .ok (.getfield 10, 3) := by decide +kernel
theorem dX4_isLike_19 : decode cX4_isLike 19 = .ok (.invokevirtual 44, 3) := by decide +kernel
theorem dX4_isLike_22 : decode cX4_isLike 22 = .ok (.ifCond .ne 5, 3) := by decide +kernel
theorem dX4_isLike_25 : decode cX4_isLike 25 = .ok (.iconst 0, 1) := by decide +kernel
theorem dX4_isLike_26 : decode cX4_isLike 26 = .ok (.ireturn, 1) := by decide +kernel
theorem dX4_isLike_27 : decode cX4_isLike 27 = .ok (.iconst 0, 1) := by decide +kernel
theorem dX4_isLike_28 : decode cX4_isLike 28 = .ok (.istore_n 2, 1) := by decide +kernel
theorem dX4_isLike_29 : decode cX4_isLike 29 = .ok (.iload_n 2, 1) := by decide +kernel
theorem dX4_isLike_30 : decode cX4_isLike 30 = .ok (.aload_n 0, 1) := by decide +kernel
theorem dX4_isLike_31 : decode cX4_isLike 31 = .ok (.getfield 28, 3) := by decide +kernel
theorem dX4_isLike_34 : decode cX4_isLike 34 = .ok (.arraylength, 1) := by decide +kernel
theorem dX4_isLike_35 : decode cX4_isLike 35 = .ok (.if_icmp .ge 26, 3) := by decide +kernel
theorem dX4_isLike_38 : decode cX4_isLike 38 = .ok (.aload_n 0, 1) := by decide +kernel
theorem dX4_isLike_39 : decode cX4_isLike 39 = .ok (.getfield 28, 3) := by decide +kernel
theorem dX4_isLike_42 : decode cX4_isLike 42 = .ok (.iload_n 2, 1) := by decide +kernel
theorem dX4_isLike_43 : decode cX4_isLike 43 = .ok (.laload, 1) := by decide +kernel
theorem dX4_isLike_44 : decode cX4_isLike 44 = .ok (.aload_n 1, 1) := by decide +kernel
theorem dX4_isLike_45 : decode cX4_isLike 45 = .ok (.iload_n 2, 1) := by decide +kernel
theorem dX4_isLike_46 : decode cX4_isLike 46 = .ok (.invokevirtual 40, 3) := by decide +kernel
theorem dX4_isLike_49 : decode cX4_isLike 49 = .ok (.lcmp, 1) := by decide +kernel
theorem dX4_isLike_50 : decode cX4_isLike 50 = .ok (.ifCond .eq 5, 3) := by decide +kernel
theorem dX4_isLike_53 : decode cX4_isLike 53 = .ok (.iconst 0, 1) := by decide +kernel
theorem dX4_isLike_54 : decode cX4_isLike 54 = .ok (.ireturn, 1) := by decide +kernel
theorem dX4_isLike_55 : decode cX4_isLike 55 = .ok (.iinc 2 1, 3) := by decide +kernel
theorem dX4_isLike_58 : decode cX4_isLike 58 = .ok (.goto (-29), 3) := by decide +kernel
theorem dX4_isLike_61 : decode cX4_isLike 61 = .ok (.iconst 1, 1) := by decide +kernel
theorem dX4_isLike_62 : decode cX4_isLike 62 = .ok (.ireturn, 1) := by decide +kernel
theorem dX5_init_0 : decode cX5_init 0 = .ok (.aload_n 0, 1) := by decide +kernel
theorem dX5_init_1 : decode cX5_init 1 = .ok (.invokespecial 1, 3) := by decide +kernel
theorem dX5_init_4 : decode cX5_init 4 = .ok (.aload_n 0, 1) := by decide +kernel
theorem dX5_init_5 : decode cX5_init 5 = .ok (.bipush 16, 2) := by decide +kernel
theorem dX5_init_7 : decode cX5_init 7 = .ok (.anewarray 9, 3) := by decide +kernel
theorem dX5_init_10 : decode cX5_init 10 = .ok (.putfield 11, 3) := by decide +kernel
theorem dX5_init_13 : decode cX5_init 13 = .ok (.aload_n 0, 1) := by decide +kernel
theorem dX5_init_14 : decode cX5_init 14 = .ok (.new 15, 3) := by decide +kernel
theorem dX5_init_17 : decode cX5_init 17 = .ok (.dup, 1) := by decide +kernel
theorem dX5_init_18 : decode cX5_init 18 = .ok (.invokespecial 17, 3) := by decide +kernel
theorem dX5_init_21 : decode cX5_init 21 = .ok (.putfield 18, 3) := by decide +kernel
theorem dX5_init_24 : decode cX5_init 24 = .ok (.aload_n 0, 1) := by decide +kernel
theorem dX5_init_25 : decode cX5_init 25 = .ok (.new 22, 3) := by decide +kernel
theorem dX5_init_28 : decode cX5_init 28 = .ok (.dup, 1) := by decide +kernel
theorem dX5_init_29 : decode cX5_init 29 = .ok (.invokespecial 24, 3) := by decide +kernel
theorem dX5_init_32 : decode cX5_init 32 = .ok (.putfield 25, 3) := by decide +kernel
theorem dX5_init_35 : decode cX5_init 35 = .ok (.aload_n 0, 1) := by decide +kernel
theorem dX5_init_36 : decode cX5_init 36 = .ok (.sipush 240, 3) := by decide +kernel
theorem dX5_init_39 : decode cX5_init 39 = .ok (.newarray .long, 2) := by decide +kernel
theorem dX5_init_41 : decode cX5_init 41 = .ok (.putfield 29, 3) := by decide +kernel
theorem dX5_init_44 : decode cX5_init 44 = .ok (.aload_n 0, 1) := by decide +kernel
theorem dX5_init_45 : decode cX5_init 45 = .ok (.iconst 0, 1) := by decide +kernel
theorem dX5_init_46 : decode cX5_init 46 = .ok (.putfield 33, 3) := by decide +kernel
theorem dX5_init_49 : decode cX5_init 49 = .ok (.aload_n 0, 1) := by decide +kernel
theorem dX5_init_50 : decode cX5_init 50 = .ok (.iconst 0, 1) := by decide +kernel
theorem dX5_init_51 : decode cX5_init 51 = .ok (.putfield 37, 3) := by decide +kernel
theorem dX5_init_54 : decode cX5_init 54 = .ok (.aload_n 0, 1) := by decide +kernel
theorem dX5_init_55 : decode cX5_init 55 = .ok (.iconst 0, 1) := by decide +kernel
theorem dX5_init_56 : decode cX5_init 56 = .ok (.putfield 40, 3) := by decide +kernel
theorem dX5_init_59 : decode cX5_init 59 = .ok (.aload_n 0, 1) := by decide +kernel
theorem dX5_init_60 : decode cX5_init 60 = .ok (.iconst 0, 1) := by decide +kernel
theorem dX5_init_61 : decode cX5_init 61 = .ok (.putfield 43, 3) := by decide +kernel
theorem dX5_init_64 : decode cX5_init 64 = .ok (.aload_n 0, 1) := by decide +kernel
theorem dX5_init_65 : decode cX5_init 65 = .ok (.bipush (-3), 2) := by decide +kernel
theorem dX5_init_67 : decode cX5_init 67 = .ok (.putfield 46, 3) := by decide +kernel
theorem dX5_init_70 : decode cX5_init 70 = .ok (.return_, 1) := by decide +kernel
theorem dX5_tensor_0 : decode cX5_tensor 0 = .ok (.iload_n 1, 1) := by decide +kernel
theorem dX5_tensor_1 : decode cX5_tensor 1 = .ok (.invokestatic 49, 3) := by decide +kernel
theorem dX5_tensor_4 : decode cX5_tensor 4 = .ok (.ifCond .ne 5, 3) := by decide +kernel
theorem dX5_tensor_7 : decode cX5_tensor 7 = .ok (.iconst (-1), 1) := by decide +kernel
theorem dX5_tensor_8 : decode cX5_tensor 8 = .ok (.ireturn, 1) := by decide +kernel
theorem dX5_tensor_9 : decode cX5_tensor 9 = .ok (.aload_n 0, 1) := by decide +kernel
theorem dX5_tensor_10 : decode cX5_tensor 10 = .ok (.invokevirtual 55, 3) := by decide +kernel
theorem dX5_tensor_13 : decode cX5_tensor 13 = .ok (.ifCond .eq 6, 3) := by decide +kernel
theorem dX5_tensor_16 : decode cX5_tensor 16 = .ok (.bipush (-2), 2) := by decide +kernel
theorem dX5_tensor_18 : decode cX5_tensor 18 = .ok (.ireturn, 1) := by decide +kernel
theorem dX5_tensor_19 : decode cX5_tensor 19 = .ok (.aload_n 0, 1) := by decide +kernel
theorem dX5_tensor_20 : decode cX5_tensor 20 = .ok (.getfield 25, 3) := by decide +kernel
theorem dX5_tensor_23 : decode cX5_tensor 23 = .ok (.bipush (-3), 2) := by decide +kernel
theorem dX5_tensor_25 : decode cX5_tensor 25 = .ok (.bipush (-3), 2) := by decide +kernel
theorem dX5_tensor_27 : decode cX5_tensor 27 = .ok (.bipush (-3), 2) := by decide +kernel
theorem dX5_tensor_29 : decode cX5_tensor 29 = .ok (.invokevirtual 59, 3) := by decide +kernel
theorem dX5_tensor_32 : decode cX5_tensor 32 = .ok (.aload_n 0, 1) := by decide +kernel
theorem dX5_tensor_33 : decode cX5_tensor 33 = .ok (.iload_n 1, 1) := by decide +kernel
theorem dX5_tensor_34 : decode cX5_tensor 34 = .ok (.invokevirtual 63, 3) := by decide +kernel
theorem dX5_tensor_37 : decode cX5_tensor 37 = .ok (.ireturn, 1) := by decide +kernel
theorem dX5_shaped_0 : decode cX5_shaped 0 = .ok (.iload_n 1, 1) := by decide +kernel
theorem dX5_shaped_1 : decode cX5_shaped 1 = .ok (.invokestatic 49, 3) := by decide +kernel
theorem dX5_shaped_4 : decode cX5_shaped 4 = .ok (.ifCond .eq 35, 3) := by decide +kernel
theorem dX5_shaped_7 : decode cX5_shaped 7 = .ok (.iload_n 2, 1) := by decide +kernel
theorem dX5_shaped_8 : decode cX5_shaped 8 = .ok (.bipush 60, 2) := by decide +kernel
theorem dX5_shaped_10 : decode cX5_shaped 10 = .ok (.if_icmp .gt 29, 3) := by decide +kernel
theorem dX5_shaped_13 : decode cX5_shaped 13 = .ok (.iload_n 3, 1) := by decide +kernel
theorem dX5_shaped_14 : decode cX5_shaped 14 = .ok (.bipush 60, 2) := by decide +kernel
theorem dX5_shaped_16 : decode cX5_shaped 16 = .ok (.if_icmp .gt 23, 3) := by decide +kernel
theorem dX5_shaped_19 : decode cX5_shaped 19 = .ok (.iload 4, 2) := by decide +kernel
theorem dX5_shaped_21 : decode cX5_shaped 21 = .ok (.bipush 60, 2) := by decide +kernel
theorem dX5_shaped_23 : decode cX5_shaped 23 = .ok (.if_icmp .gt 16, 3) := by decide +kernel
theorem dX5_shaped_26 : decode cX5_shaped 26 = .ok (.iload_n 3, 1) := by decide +kernel
theorem dX5_shaped_27 : decode cX5_shaped 27 = .ok (.bipush (-3), 2) := by decide +kernel
theorem dX5_shaped_29 : decode cX5_shaped 29 = .ok (.if_icmp .ne 12, 3) := by decide +kernel
theorem dX5_shaped_32 : decode cX5_shaped 32 = .ok (.iload 4, 2) := by decide +kernel
theorem dX5_shaped_34 : decode cX5_shaped 34 = .ok (.bipush (-3), 2) := by decide +kernel
theorem dX5_shaped_36 : decode cX5_shaped 36 = .ok (.if_icmp .eq 5, 3) := by decide +kernel
theorem dX5_shaped_39 : decode cX5_shaped 39 = .ok (.iconst (-1), 1) := by decide +kernel
theorem dX5_shaped_40 : decode cX5_shaped 40 = .ok (.ireturn, 1) := by decide +kernel
theorem dX5_shaped_41 : decode cX5_shaped 41 = .ok (.aload_n 0, 1) := by decide +kernel
theorem dX5_shaped_42 : decode cX5_shaped 42 = .ok (.invokevirtual 55, 3) := by decide +kernel
theorem dX5_shaped_45 : decode cX5_shaped 45 = .ok (.ifCond .eq 6, 3) := by decide +kernel
theorem dX5_shaped_48 : decode cX5_shaped 48 = .ok (.bipush (-2), 2) := by decide +kernel
theorem dX5_shaped_50 : decode cX5_shaped 50 = .ok (.ireturn, 1) := by decide +kernel
theorem dX5_shaped_51 : decode cX5_shaped 51 = .ok (.iload_n 2, 1) := by decide +kernel
theorem dX5_shaped_52 : decode cX5_shaped 52 = .ok (.ifCond .lt 25, 3) := by decide +kernel
theorem dX5_shaped_55 : decode cX5_shaped 55 = .ok (.iload_n 3, 1) := by decide +kernel
theorem dX5_shaped_56 : decode cX5_shaped 56 = .ok (.ifCond .ge 9, 3) := by decide +kernel
theorem dX5_shaped_59 : decode cX5_shaped 59 = .ok (.iload_n 3, 1) := by decide +kernel
theorem dX5_shaped_60 : decode cX5_shaped 60 = .ok (.bipush (-3), 2) := by decide +kernel
theorem dX5_shaped_62 : decode cX5_shaped 62 = .ok (.if_icmp .ne 15, 3) := by decide +kernel
theorem dX5_shaped_65 : decode cX5_shaped 65 = .ok (.iload 4, 2) := by decide +kernel
theorem dX5_shaped_67 : decode cX5_shaped 67 = .ok (.ifCond .ge 18, 3) := by decide +kernel
theorem dX5_shaped_70 : decode cX5_shaped 70 = .ok (.iload 4, 2) := by decide +kernel
theorem dX5_shaped_72 : decode cX5_shaped 72 = .ok (.bipush (-3), 2) := by decide +kernel
theorem dX5_shaped_74 : decode cX5_shaped 74 = .ok (.if_icmp .eq 11, 3) := by decide +kernel
theorem dX5_shaped_77 : decode cX5_shaped 77 = .ok (.aload_n 0, 1) := by decide +kernel
theorem dX5_shaped_78 : decode cX5_shaped 78 = .ok (.iconst 3, 1) := by decide +kernel
theorem dX5_shaped_79 : decode cX5_shaped 79 = .ok (.bipush (-3), 2) := by decide +kernel
theorem dX5_shaped_81 : decode cX5_shaped 81 = .ok (.invokevirtual 67, 3) := by decide +kernel
theorem dX5_shaped_84 : decode cX5_shaped 84 = .ok (.ireturn, 1) := by decide +kernel
theorem dX5_shaped_85 : decode cX5_shaped 85 = .ok (.aload_n 0, 1) := by decide +kernel
theorem dX5_shaped_86 : decode cX5_shaped 86 = .ok (.getfield 25, 3) := by decide +kernel
theorem dX5_shaped_89 : decode cX5_shaped 89 = .ok (.iload_n 2, 1) := by decide +kernel
theorem dX5_shaped_90 : decode cX5_shaped 90 = .ok (.iload_n 3, 1) := by decide +kernel
theorem dX5_shaped_91 : decode cX5_shaped 91 = .ok (.iload 4, 2) := by decide +kernel
theorem dX5_shaped_93 : decode cX5_shaped 93 = .ok (.invokevirtual 59, 3) := by decide +kernel
theorem dX5_shaped_96 : decode cX5_shaped 96 = .ok (.aload_n 0, 1) := by decide +kernel
theorem dX5_shaped_97 : decode cX5_shaped 97 = .ok (.getfield 25, 3) := by decide +kernel
theorem dX5_shaped_100 : decode cX5_shaped 100 = .ok (.invokevirtual 71, 3) := by decide +kernel
theorem dX5_shaped_103 : decode cX5_shaped 103 = .ok (.sipush 240, 3) := by decide +kernel
theorem dX5_shaped_106 : decode cX5_shaped 106 = .ok (.if_icmp .le 12, 3) := by decide +kernel
theorem dX5_shaped_109 : decode cX5_shaped 109 = .ok (.aload_n 0, 1) := by decide +kernel
theorem dX5_shaped_110 : decode cX5_shaped 110 = .ok (.bipush 6, 2) := by decide +kernel
theorem dX5_shaped_112 : decode cX5_shaped 112 = .ok (.bipush (-3), 2) := by decide +kernel
theorem dX5_shaped_114 : decode cX5_shaped 114 = .ok (.invokevirtual 67, 3) := by decide +kernel
theorem dX5_shaped_117 : decode cX5_shaped 117 = .ok (.ireturn, 1) := by decide +kernel
theorem dX5_shaped_118 : decode cX5_shaped 118 = .ok (.aload_n 0, 1) := by decide +kernel
theorem dX5_shaped_119 : decode cX5_shaped 119 = .ok (.iload_n 1, 1) := by decide +kernel
theorem dX5_shaped_120 : decode cX5_shaped 120 = .ok (.invokevirtual 63, 3) := by decide +kernel
theorem dX5_shaped_123 : decode cX5_shaped 123 = .ok (.ireturn, 1) := by decide +kernel
theorem dX5_free_0 : decode cX5_free 0 = .ok (.aload_n 0, 1) := by decide +kernel
theorem dX5_free_1 : decode cX5_free 1 = .ok (.iload_n 1, 1) := by decide +kernel
theorem dX5_free_2 : decode cX5_free 2 = .ok (.invokevirtual 75, 3) := by decide +kernel
theorem dX5_free_5 : decode cX5_free 5 = .ok (.astore_n 2, 1) := by decide +kernel
theorem dX5_free_6 : decode cX5_free 6 = .ok (.aload_n 2, 1) := by decide +kernel
theorem dX5_free_7 : decode cX5_free 7 = .ok (.ifnonnull 5, 3) := by decide +kernel
theorem dX5_free_10 : decode cX5_free 10 = .ok (.iconst (-1), 1) := by decide +kernel
theorem dX5_free_11 : decode cX5_free 11 = .ok (.ireturn, 1) := by decide +kernel
theorem dX5_free_12 : decode cX5_free 12 = .ok (.aload_n 2, 1) := by decide +kernel
theorem dX5_free_13 : decode cX5_free 13 = .ok (.getfield 79, 3) := by decide +kernel
theorem dX5_free_16 : decode cX5_free 16 = .ok (.ifCond .eq 11, 3) := by decide +kernel
theorem dX5_free_19 : decode cX5_free 19 = .ok (.aload_n 0, 1) := by decide +kernel
theorem dX5_free_20 : decode cX5_free 20 = .ok (.iconst 1, 1) := by decide +kernel
theorem dX5_free_21 : decode cX5_free 21 = .ok (.bipush (-3), 2) := by decide +kernel
theorem dX5_free_23 : decode cX5_free 23 = .ok (.invokevirtual 67, 3) := by decide +kernel
theorem dX5_free_26 : decode cX5_free 26 = .ok (.ireturn, 1) := by decide +kernel
theorem dX5_free_27 : decode cX5_free 27 = .ok (.aload_n 2, 1) := by decide +kernel
theorem dX5_free_28 : decode cX5_free 28 = .ok (.iconst 1, 1) := by decide +kernel
theorem dX5_free_29 : decode cX5_free 29 = .ok (.putfield 79, 3) := by decide +kernel
theorem dX5_free_32 : decode cX5_free 32 = .ok (.iconst 1, 1) := by decide +kernel
theorem dX5_free_33 : decode cX5_free 33 = .ok (.ireturn, 1) := by decide +kernel
theorem dX5_setting_0 : decode cX5_setting 0 = .ok (.iload_n 1, 1) := by decide +kernel
theorem dX5_setting_1 : decode cX5_setting 1 = .ok (.ifCond .eq 10, 3) := by decide +kernel
theorem dX5_setting_4 : decode cX5_setting 4 = .ok (.iload_n 1, 1) := by decide +kernel
theorem dX5_setting_5 : decode cX5_setting 5 = .ok (.iconst 1, 1) := by decide +kernel
theorem dX5_setting_6 : decode cX5_setting 6 = .ok (.if_icmp .eq 5, 3) := by decide +kernel
theorem dX5_setting_9 : decode cX5_setting 9 = .ok (.iconst (-1), 1) := by decide +kernel
theorem dX5_setting_10 : decode cX5_setting 10 = .ok (.ireturn, 1) := by decide +kernel
theorem dX5_setting_11 : decode cX5_setting 11 = .ok (.aload_n 0, 1) := by decide +kernel
theorem dX5_setting_12 : decode cX5_setting 12 = .ok (.getfield 37, 3) := by decide +kernel
theorem dX5_setting_15 : decode cX5_setting 15 = .ok (.istore_n 2, 1) := by decide +kernel
theorem dX5_setting_16 : decode cX5_setting 16 = .ok (.aload_n 0, 1) := by decide +kernel
theorem dX5_setting_17 : decode cX5_setting 17 = .ok (.iload_n 1, 1) := by decide +kernel
theorem dX5_setting_18 : decode cX5_setting 18 = .ok (.putfield 37, 3) := by decide +kernel
theorem dX5_setting_21 : decode cX5_setting 21 = .ok (.iload_n 2, 1) := by decide +kernel
theorem dX5_setting_22 : decode cX5_setting 22 = .ok (.ireturn, 1) := by decide +kernel
theorem dX5_item_0 : decode cX5_item 0 = .ok (.aload_n 0, 1) := by decide +kernel
theorem dX5_item_1 : decode cX5_item 1 = .ok (.iload_n 1, 1) := by decide +kernel
theorem dX5_item_2 : decode cX5_item 2 = .ok (.invokevirtual 75, 3) := by decide +kernel
theorem dX5_item_5 : decode cX5_item 5 = .ok (.astore 5, 2) := by decide +kernel
theorem dX5_item_7 : decode cX5_item 7 = .ok (.aload 5, 2) := by decide +kernel
theorem dX5_item_9 : decode cX5_item 9 = .ok (.ifnonnull 5, 3) := by decide +kernel
theorem dX5_item_12 : decode cX5_item 12 = .ok (.iconst (-1), 1) := by decide +kernel
theorem dX5_item_13 : decode cX5_item 13 = .ok (.ireturn, 1) := by decide +kernel
theorem dX5_item_14 : decode cX5_item 14 = .ok (.aload 5, 2) := by decide +kernel
theorem dX5_item_16 : decode cX5_item 16 = .ok (.getfield 79, 3) := by decide +kernel
theorem dX5_item_19 : decode cX5_item 19 = .ok (.ifCond .eq 11, 3) := by decide +kernel
theorem dX5_item_22 : decode cX5_item 22 = .ok (.aload_n 0, 1) := by decide +kernel
theorem dX5_item_23 : decode cX5_item 23 = .ok (.iconst 1, 1) := by decide +kernel
theorem dX5_item_24 : decode cX5_item 24 = .ok (.bipush (-3), 2) := by decide +kernel
theorem dX5_item_26 : decode cX5_item 26 = .ok (.invokevirtual 67, 3) := by decide +kernel
theorem dX5_item_29 : decode cX5_item 29 = .ok (.ireturn, 1) := by decide +kernel
theorem dX5_item_30 : decode cX5_item 30 = .ok (.aload 5, 2) := by decide +kernel
theorem dX5_item_32 : decode cX5_item 32 = .ok (.iload_n 2, 1) := by decide +kernel
theorem dX5_item_33 : decode cX5_item 33 = .ok (.invokevirtual 83, 3) := by decide +kernel
theorem dX5_item_36 : decode cX5_item 36 = .ok (.ifCond .ne 11, 3) := by decide +kernel
theorem dX5_item_39 : decode cX5_item 39 = .ok (.aload_n 0, 1) := by decide +kernel
theorem dX5_item_40 : decode cX5_item 40 = .ok (.iconst 2, 1) := by decide +kernel
theorem dX5_item_41 : decode cX5_item 41 = .ok (.bipush (-3), 2) := by decide +kernel
theorem dX5_item_43 : decode cX5_item 43 = .ok (.invokevirtual 67, 3) := by decide +kernel
theorem dX5_item_46 : decode cX5_item 46 = .ok (.ireturn, 1) := by decide +kernel
theorem dX5_item_47 : decode cX5_item 47 = .ok (.aload 5, 2) := by decide +kernel
theorem dX5_item_49 : decode cX5_item 49 = .ok (.iload_n 2, 1) := by decide +kernel
theorem dX5_item_50 : decode cX5_item 50 = .ok (.lload_n 3, 1) := by decide +kernel
theorem dX5_item_51 : decode cX5_item 51 = .ok (.aload 5, 2) := by decide +kernel
theorem dX5_item_53 : decode cX5_item 53 = .ok (.getfield 86, 3) := by decide +kernel
theorem dX5_item_56 : decode cX5_item 56 = .ok (.invokestatic 89, 3) := by decide +kernel
theorem dX5_item_59 : decode cX5_item 59 = .ok (.invokevirtual 93, 3) := by decide +kernel
theorem dX5_item_62 : decode cX5_item 62 = .ok (.iconst 1, 1) := by decide +kernel
theorem dX5_item_63 : decode cX5_item 63 = .ok (.ireturn, 1) := by decide +kernel
theorem dX5_bits_0 : decode cX5_bits 0 = .ok (.aload_n 0, 1) := by decide +kernel
theorem dX5_bits_1 : decode cX5_bits 1 = .ok (.iload_n 1, 1) := by decide +kernel
theorem dX5_bits_2 : decode cX5_bits 2 = .ok (.invokevirtual 75, 3) := by decide +kernel
theorem dX5_bits_5 : decode cX5_bits 5 = .ok (.astore 4, 2) := by decide +kernel
theorem dX5_bits_7 : decode cX5_bits 7 = .ok (.aload 4, 2) := by decide +kernel
theorem dX5_bits_9 : decode cX5_bits 9 = .ok (.ifnull 10, 3) := by decide +kernel
theorem dX5_bits_12 : decode cX5_bits 12 = .ok (.iload_n 3, 1) := by decide +kernel
theorem dX5_bits_13 : decode cX5_bits 13 = .ok (.invokestatic 49, 3) := by decide +kernel
theorem dX5_bits_16 : decode cX5_bits 16 = .ok (.ifCond .ne 7, 3) := by decide +kernel
theorem dX5_bits_19 : decode cX5_bits 19 = .ok (.ldc2_w 97, 3) := by decide +kernel
theorem dX5_bits_22 : decode cX5_bits 22 = .ok (.lreturn, 1) := by decide +kernel
theorem dX5_bits_23 : decode cX5_bits 23 = .ok (.aload 4, 2) := by decide +kernel
theorem dX5_bits_25 : decode cX5_bits 25 = .ok (.getfield 79, 3) := by decide +kernel
theorem dX5_bits_28 : decode cX5_bits 28 = .ok (.ifCond .eq 12, 3) := by decide +kernel
theorem dX5_bits_31 : decode cX5_bits 31 = .ok (.aload_n 0, 1) := by decide +kernel
theorem dX5_bits_32 : decode cX5_bits 32 = .ok (.iconst 1, 1) := by decide +kernel
theorem dX5_bits_33 : decode cX5_bits 33 = .ok (.bipush (-3), 2) := by decide +kernel
theorem dX5_bits_35 : decode cX5_bits 35 = .ok (.invokevirtual 67, 3) := by decide +kernel
theorem dX5_bits_38 : decode cX5_bits 38 = .ok (.i2l, 1) := by decide +kernel
theorem dX5_bits_39 : decode cX5_bits 39 = .ok (.lreturn, 1) := by decide +kernel
theorem dX5_bits_40 : decode cX5_bits 40 = .ok (.aload 4, 2) := by decide +kernel
theorem dX5_bits_42 : decode cX5_bits 42 = .ok (.getfield 86, 3) := by decide +kernel
theorem dX5_bits_45 : decode cX5_bits 45 = .ok (.iload_n 3, 1) := by decide +kernel
theorem dX5_bits_46 : decode cX5_bits 46 = .ok (.if_icmp .eq 12, 3) := by decide +kernel
theorem dX5_bits_49 : decode cX5_bits 49 = .ok (.aload_n 0, 1) := by decide +kernel
theorem dX5_bits_50 : decode cX5_bits 50 = .ok (.iconst 4, 1) := by decide +kernel
theorem dX5_bits_51 : decode cX5_bits 51 = .ok (.bipush (-3), 2) := by decide +kernel
theorem dX5_bits_53 : decode cX5_bits 53 = .ok (.invokevirtual 67, 3) := by decide +kernel
theorem dX5_bits_56 : decode cX5_bits 56 = .ok (.i2l, 1) := by decide +kernel
theorem dX5_bits_57 : decode cX5_bits 57 = .ok (.lreturn, 1) := by decide +kernel
theorem dX5_bits_58 : decode cX5_bits 58 = .ok (.aload 4, 2) := by decide +kernel
theorem dX5_bits_60 : decode cX5_bits 60 = .ok (.iload_n 2, 1) := by decide +kernel
theorem dX5_bits_61 : decode cX5_bits 61 = .ok (.invokevirtual 83, 3) := by decide +kernel
theorem dX5_bits_64 : decode cX5_bits 64 = .ok (.ifCond .ne 12, 3) := by decide +kernel
theorem dX5_bits_67 : decode cX5_bits 67 = .ok (.aload_n 0, 1) := by decide +kernel
theorem dX5_bits_68 : decode cX5_bits 68 = .ok (.iconst 2, 1) := by decide +kernel
theorem dX5_bits_69 : decode cX5_bits 69 = .ok (.bipush (-3), 2) := by decide +kernel
theorem dX5_bits_71 : decode cX5_bits 71 = .ok (.invokevirtual 67, 3) := by decide +kernel
theorem dX5_bits_74 : decode cX5_bits 74 = .ok (.i2l, 1) := by decide +kernel
theorem dX5_bits_75 : decode cX5_bits 75 = .ok (.lreturn, 1) := by decide +kernel
theorem dX5_bits_76 : decode cX5_bits 76 = .ok (.aload 4, 2) := by decide +kernel
theorem dX5_bits_78 : decode cX5_bits 78 = .ok (.iload_n 2, 1) := by decide +kernel
theorem dX5_bits_79 : decode cX5_bits 79 = .ok (.invokevirtual 99, 3) := by decide +kernel
theorem dX5_bits_82 : decode cX5_bits 82 = .ok (.lreturn, 1) := by decide +kernel
theorem dX5_index_0 : decode cX5_index 0 = .ok (.aload_n 0, 1) := by decide +kernel
theorem dX5_index_1 : decode cX5_index 1 = .ok (.iload_n 1, 1) := by decide +kernel
theorem dX5_index_2 : decode cX5_index 2 = .ok (.invokevirtual 75, 3) := by decide +kernel
theorem dX5_index_5 : decode cX5_index 5 = .ok (.astore 5, 2) := by decide +kernel
theorem dX5_index_7 : decode cX5_index 7 = .ok (.aload 5, 2) := by decide +kernel
theorem dX5_index_9 : decode cX5_index 9 = .ok (.ifnonnull 5, 3) := by decide +kernel
theorem dX5_index_12 : decode cX5_index 12 = .ok (.iconst (-1), 1) := by decide +kernel
theorem dX5_index_13 : decode cX5_index 13 = .ok (.ireturn, 1) := by decide +kernel
theorem dX5_index_14 : decode cX5_index 14 = .ok (.aload 5, 2) := by decide +kernel
theorem dX5_index_16 : decode cX5_index 16 = .ok (.getfield 79, 3) := by decide +kernel
theorem dX5_index_19 : decode cX5_index 19 = .ok (.ifCond .eq 11, 3) := by decide +kernel
theorem dX5_index_22 : decode cX5_index 22 = .ok (.aload_n 0, 1) := by decide +kernel
theorem dX5_index_23 : decode cX5_index 23 = .ok (.iconst 1, 1) := by decide +kernel
theorem dX5_index_24 : decode cX5_index 24 = .ok (.bipush (-3), 2) := by decide +kernel
theorem dX5_index_26 : decode cX5_index 26 = .ok (.invokevirtual 67, 3) := by decide +kernel
theorem dX5_index_29 : decode cX5_index 29 = .ok (.ireturn, 1) := by decide +kernel
theorem dX5_index_30 : decode cX5_index 30 = .ok (.aload 5, 2) := by decide +kernel
theorem dX5_index_32 : decode cX5_index 32 = .ok (.getfield 103, 3) := by decide +kernel
theorem dX5_index_35 : decode cX5_index 35 = .ok (.iload_n 2, 1) := by decide +kernel
theorem dX5_index_36 : decode cX5_index 36 = .ok (.iload_n 3, 1) := by decide +kernel
theorem dX5_index_37 : decode cX5_index 37 = .ok (.iload 4, 2) := by decide +kernel
theorem dX5_index_39 : decode cX5_index 39 = .ok (.invokevirtual 106, 3) := by decide +kernel
theorem dX5_index_42 : decode cX5_index 42 = .ok (.istore 6, 2) := by decide +kernel
theorem dX5_index_44 : decode cX5_index 44 = .ok (.iload 6, 2) := by decide +kernel
theorem dX5_index_46 : decode cX5_index 46 = .ok (.bipush (-3), 2) := by decide +kernel
theorem dX5_index_48 : decode cX5_index 48 = .ok (.if_icmp .ne 13, 3) := by decide +kernel
theorem dX5_index_51 : decode cX5_index 51 = .ok (.aload_n 0, 1) := by decide +kernel
theorem dX5_index_52 : decode cX5_index 52 = .ok (.iconst 2, 1) := by decide +kernel
theorem dX5_index_53 : decode cX5_index 53 = .ok (.bipush (-3), 2) := by decide +kernel
theorem dX5_index_55 : decode cX5_index 55 = .ok (.invokevirtual 67, 3) := by decide +kernel
theorem dX5_index_58 : decode cX5_index 58 = .ok (.goto 5, 3) := by decide +kernel
theorem dX5_index_61 : decode cX5_index 61 = .ok (.iload 6, 2) := by decide +kernel
theorem dX5_index_63 : decode cX5_index 63 = .ok (.ireturn, 1) := by decide +kernel
theorem dX5_of_0 : decode cX5_of 0 = .ok (.aload_n 0, 1) := by decide +kernel
theorem dX5_of_1 : decode cX5_of 1 = .ok (.iload_n 1, 1) := by decide +kernel
theorem dX5_of_2 : decode cX5_of 2 = .ok (.invokevirtual 75, 3) := by decide +kernel
theorem dX5_of_5 : decode cX5_of 5 = .ok (.astore_n 3, 1) := by decide +kernel
theorem dX5_of_6 : decode cX5_of 6 = .ok (.aload_n 3, 1) := by decide +kernel
theorem dX5_of_7 : decode cX5_of 7 = .ok (.ifnull 12, 3) := by decide +kernel
theorem dX5_of_10 : decode cX5_of 10 = .ok (.iload_n 2, 1) := by decide +kernel
theorem dX5_of_11 : decode cX5_of 11 = .ok (.ifCond .lt 8, 3) := by decide +kernel
theorem dX5_of_14 : decode cX5_of 14 = .ok (.iload_n 2, 1) := by decide +kernel
theorem dX5_of_15 : decode cX5_of 15 = .ok (.iconst 5, 1) := by decide +kernel
theorem dX5_of_16 : decode cX5_of 16 = .ok (.if_icmp .le 5, 3) := by decide +kernel
theorem dX5_of_19 : decode cX5_of 19 = .ok (.iconst (-1), 1) := by decide +kernel
theorem dX5_of_20 : decode cX5_of 20 = .ok (.ireturn, 1) := by decide +kernel
theorem dX5_of_21 : decode cX5_of 21 = .ok (.aload_n 3, 1) := by decide +kernel
theorem dX5_of_22 : decode cX5_of 22 = .ok (.getfield 79, 3) := by decide +kernel
theorem dX5_of_25 : decode cX5_of 25 = .ok (.ifCond .eq 11, 3) := by decide +kernel
theorem dX5_of_28 : decode cX5_of 28 = .ok (.aload_n 0, 1) := by decide +kernel
theorem dX5_of_29 : decode cX5_of 29 = .ok (.iconst 1, 1) := by decide +kernel
theorem dX5_of_30 : decode cX5_of 30 = .ok (.bipush (-3), 2) := by decide +kernel
theorem dX5_of_32 : decode cX5_of 32 = .ok (.invokevirtual 67, 3) := by decide +kernel
theorem dX5_of_35 : decode cX5_of 35 = .ok (.ireturn, 1) := by decide +kernel
theorem dX5_of_36 : decode cX5_of 36 = .ok (.iload_n 2, 1) := by decide +kernel
theorem dX5_of_37 : decode cX5_of 37 = .ok (.tableswitch 48 0 2 #[27, 32, 40], 27) := by decide +kernel
theorem dX5_of_64 : decode cX5_of 64 = .ok (.aload_n 3, 1) := by decide +kernel
theorem dX5_of_65 : decode cX5_of 65 = .ok (.getfield 86, 3) := by decide +kernel
theorem dX5_of_68 : decode cX5_of 68 = .ok (.ireturn, 1) := by decide +kernel
theorem dX5_of_69 : decode cX5_of 69 = .ok (.aload_n 3, 1) := by decide +kernel
theorem dX5_of_70 : decode cX5_of 70 = .ok (.getfield 103, 3) := by decide +kernel
theorem dX5_of_73 : decode cX5_of 73 = .ok (.getfield 110, 3) := by decide +kernel
theorem dX5_of_76 : decode cX5_of 76 = .ok (.ireturn, 1) := by decide +kernel
theorem dX5_of_77 : decode cX5_of 77 = .ok (.aload_n 3, 1) := by decide +kernel
theorem dX5_of_78 : decode cX5_of 78 = .ok (.getfield 103, 3) := by decide +kernel
theorem dX5_of_81 : decode cX5_of 81 = .ok (.invokevirtual 71, 3) := by decide +kernel
theorem dX5_of_84 : decode cX5_of 84 = .ok (.ireturn, 1) := by decide +kernel
theorem dX5_of_85 : decode cX5_of 85 = .ok (.aload_n 3, 1) := by decide +kernel
theorem dX5_of_86 : decode cX5_of 86 = .ok (.getfield 103, 3) := by decide +kernel
theorem dX5_of_89 : decode cX5_of 89 = .ok (.iload_n 2, 1) := by decide +kernel
theorem dX5_of_90 : decode cX5_of 90 = .ok (.iconst 3, 1) := by decide +kernel
theorem dX5_of_91 : decode cX5_of 91 = .ok (.isub, 1) := by decide +kernel
theorem dX5_of_92 : decode cX5_of 92 = .ok (.invokevirtual 113, 3) := by decide +kernel
theorem dX5_of_95 : decode cX5_of 95 = .ok (.ireturn, 1) := by decide +kernel
theorem dX5_act_0 : decode cX5_act 0 = .ok (.aload_n 0, 1) := by decide +kernel
theorem dX5_act_1 : decode cX5_act 1 = .ok (.iload_n 2, 1) := by decide +kernel
theorem dX5_act_2 : decode cX5_act 2 = .ok (.invokevirtual 75, 3) := by decide +kernel
theorem dX5_act_5 : decode cX5_act 5 = .ok (.astore 4, 2) := by decide +kernel
theorem dX5_act_7 : decode cX5_act 7 = .ok (.aload_n 0, 1) := by decide +kernel
theorem dX5_act_8 : decode cX5_act 8 = .ok (.iload_n 3, 1) := by decide +kernel
theorem dX5_act_9 : decode cX5_act 9 = .ok (.invokevirtual 75, 3) := by decide +kernel
theorem dX5_act_12 : decode cX5_act 12 = .ok (.astore 5, 2) := by decide +kernel
theorem dX5_act_14 : decode cX5_act 14 = .ok (.aload 4, 2) := by decide +kernel
theorem dX5_act_16 : decode cX5_act 16 = .ok (.ifnull 15, 3) := by decide +kernel
theorem dX5_act_19 : decode cX5_act 19 = .ok (.aload 5, 2) := by decide +kernel
theorem dX5_act_21 : decode cX5_act 21 = .ok (.ifnull 10, 3) := by decide +kernel
theorem dX5_act_24 : decode cX5_act 24 = .ok (.iload_n 1, 1) := by decide +kernel
theorem dX5_act_25 : decode cX5_act 25 = .ok (.invokestatic 116, 3) := by decide +kernel
theorem dX5_act_28 : decode cX5_act 28 = .ok (.ifCond .ne 5, 3) := by decide +kernel
theorem dX5_act_31 : decode cX5_act 31 = .ok (.iconst (-1), 1) := by decide +kernel
theorem dX5_act_32 : decode cX5_act 32 = .ok (.ireturn, 1) := by decide +kernel
theorem dX5_act_33 : decode cX5_act 33 = .ok (.aload_n 0, 1) := by decide +kernel
theorem dX5_act_34 : decode cX5_act 34 = .ok (.invokevirtual 55, 3) := by decide +kernel
theorem dX5_act_37 : decode cX5_act 37 = .ok (.ifCond .eq 6, 3) := by decide +kernel
theorem dX5_act_40 : decode cX5_act 40 = .ok (.bipush (-2), 2) := by decide +kernel
theorem dX5_act_42 : decode cX5_act 42 = .ok (.ireturn, 1) := by decide +kernel
theorem dX5_act_43 : decode cX5_act 43 = .ok (.aload 4, 2) := by decide +kernel
theorem dX5_act_45 : decode cX5_act 45 = .ok (.getfield 79, 3) := by decide +kernel
theorem dX5_act_48 : decode cX5_act 48 = .ok (.ifCond .ne 11, 3) := by decide +kernel
theorem dX5_act_51 : decode cX5_act 51 = .ok (.aload 5, 2) := by decide +kernel
theorem dX5_act_53 : decode cX5_act 53 = .ok (.getfield 79, 3) := by decide +kernel
theorem dX5_act_56 : decode cX5_act 56 = .ok (.ifCond .eq 11, 3) := by decide +kernel
theorem dX5_act_59 : decode cX5_act 59 = .ok (.aload_n 0, 1) := by decide +kernel
theorem dX5_act_60 : decode cX5_act 60 = .ok (.iconst 1, 1) := by decide +kernel
theorem dX5_act_61 : decode cX5_act 61 = .ok (.bipush (-3), 2) := by decide +kernel
theorem dX5_act_63 : decode cX5_act 63 = .ok (.invokevirtual 67, 3) := by decide +kernel
theorem dX5_act_66 : decode cX5_act 66 = .ok (.ireturn, 1) := by decide +kernel
theorem dX5_act_67 : decode cX5_act 67 = .ok (.iload_n 1, 1) := by decide +kernel
theorem dX5_act_68 : decode cX5_act 68 = .ok (.aload 4, 2) := by decide +kernel
theorem dX5_act_70 : decode cX5_act 70 = .ok (.getfield 86, 3) := by decide +kernel
theorem dX5_act_73 : decode cX5_act 73 = .ok (.aload 5, 2) := by decide +kernel
theorem dX5_act_75 : decode cX5_act 75 = .ok (.getfield 86, 3) := by decide +kernel
theorem dX5_act_78 : decode cX5_act 78 = .ok (.invokestatic 119, 3) := by decide +kernel
theorem dX5_act_81 : decode cX5_act 81 = .ok (.istore 6, 2) := by decide +kernel
theorem dX5_act_83 : decode cX5_act 83 = .ok (.iload 6, 2) := by decide +kernel
theorem dX5_act_85 : decode cX5_act 85 = .ok (.bipush (-3), 2) := by decide +kernel
theorem dX5_act_87 : decode cX5_act 87 = .ok (.if_icmp .ne 11, 3) := by decide +kernel
theorem dX5_act_90 : decode cX5_act 90 = .ok (.aload_n 0, 1) := by decide +kernel
theorem dX5_act_91 : decode cX5_act 91 = .ok (.iconst 4, 1) := by decide +kernel
theorem dX5_act_92 : decode cX5_act 92 = .ok (.bipush (-3), 2) := by decide +kernel
theorem dX5_act_94 : decode cX5_act 94 = .ok (.invokevirtual 67, 3) := by decide +kernel
theorem dX5_act_97 : decode cX5_act 97 = .ok (.ireturn, 1) := by decide +kernel
theorem dX5_act_98 : decode cX5_act 98 = .ok (.aload_n 0, 1) := by decide +kernel
theorem dX5_act_99 : decode cX5_act 99 = .ok (.aload 4, 2) := by decide +kernel
theorem dX5_act_101 : decode cX5_act 101 = .ok (.aload 5, 2) := by decide +kernel
theorem dX5_act_103 : decode cX5_act 103 = .ok (.invokevirtual 122, 3) := by decide +kernel
theorem dX5_act_106 : decode cX5_act 106 = .ok (.istore 7, 2) := by decide +kernel
theorem dX5_act_108 : decode cX5_act 108 = .ok (.iload 7, 2) := by decide +kernel
theorem dX5_act_110 : decode cX5_act 110 = .ok (.bipush (-3), 2) := by decide +kernel
theorem dX5_act_112 : decode cX5_act 112 = .ok (.if_icmp .eq 12, 3) := by decide +kernel
theorem dX5_act_115 : decode cX5_act 115 = .ok (.aload_n 0, 1) := by decide +kernel
theorem dX5_act_116 : decode cX5_act 116 = .ok (.bipush 6, 2) := by decide +kernel
theorem dX5_act_118 : decode cX5_act 118 = .ok (.iload 7, 2) := by decide +kernel
theorem dX5_act_120 : decode cX5_act 120 = .ok (.invokevirtual 67, 3) := by decide +kernel
theorem dX5_act_123 : decode cX5_act 123 = .ok (.ireturn, 1) := by decide +kernel
theorem dX5_act_124 : decode cX5_act 124 = .ok (.aload_n 0, 1) := by decide +kernel
theorem dX5_act_125 : decode cX5_act 125 = .ok (.getfield 25, 3) := by decide +kernel
theorem dX5_act_128 : decode cX5_act 128 = .ok (.invokevirtual 71, 3) := by decide +kernel
theorem dX5_act_131 : decode cX5_act 131 = .ok (.sipush 240, 3) := by decide +kernel
theorem dX5_act_134 : decode cX5_act 134 = .ok (.if_icmp .le 12, 3) := by decide +kernel
theorem dX5_act_137 : decode cX5_act 137 = .ok (.aload_n 0, 1) := by decide +kernel
theorem dX5_act_138 : decode cX5_act 138 = .ok (.bipush 6, 2) := by decide +kernel
theorem dX5_act_140 : decode cX5_act 140 = .ok (.bipush (-3), 2) := by decide +kernel
theorem dX5_act_142 : decode cX5_act 142 = .ok (.invokevirtual 67, 3) := by decide +kernel
theorem dX5_act_145 : decode cX5_act 145 = .ok (.ireturn, 1) := by decide +kernel
theorem dX5_act_146 : decode cX5_act 146 = .ok (.aload_n 0, 1) := by decide +kernel
theorem dX5_act_147 : decode cX5_act 147 = .ok (.iload_n 1, 1) := by decide +kernel
theorem dX5_act_148 : decode cX5_act 148 = .ok (.iload 6, 2) := by decide +kernel
theorem dX5_act_150 : decode cX5_act 150 = .ok (.aload 4, 2) := by decide +kernel
theorem dX5_act_152 : decode cX5_act 152 = .ok (.aload 5, 2) := by decide +kernel
theorem dX5_act_154 : decode cX5_act 154 = .ok (.invokevirtual 126, 3) := by decide +kernel
theorem dX5_act_157 : decode cX5_act 157 = .ok (.istore 8, 2) := by decide +kernel
theorem dX5_act_159 : decode cX5_act 159 = .ok (.iload 8, 2) := by decide +kernel
theorem dX5_act_161 : decode cX5_act 161 = .ok (.bipush (-3), 2) := by decide +kernel
theorem dX5_act_163 : decode cX5_act 163 = .ok (.if_icmp .eq 11, 3) := by decide +kernel
theorem dX5_act_166 : decode cX5_act 166 = .ok (.aload_n 0, 1) := by decide +kernel
theorem dX5_act_167 : decode cX5_act 167 = .ok (.iconst 5, 1) := by decide +kernel
theorem dX5_act_168 : decode cX5_act 168 = .ok (.iload 8, 2) := by decide +kernel
theorem dX5_act_170 : decode cX5_act 170 = .ok (.invokevirtual 67, 3) := by decide +kernel
theorem dX5_act_173 : decode cX5_act 173 = .ok (.ireturn, 1) := by decide +kernel
theorem dX5_act_174 : decode cX5_act 174 = .ok (.aload_n 0, 1) := by decide +kernel
theorem dX5_act_175 : decode cX5_act 175 = .ok (.iload_n 1, 1) := by decide +kernel
theorem dX5_act_176 : decode cX5_act 176 = .ok (.iload 6, 2) := by decide +kernel
theorem dX5_act_178 : decode cX5_act 178 = .ok (.invokestatic 130, 3) := by decide +kernel
theorem dX5_act_181 : decode cX5_act 181 = .ok (.invokevirtual 133, 3) := by decide +kernel
theorem dX5_act_184 : decode cX5_act 184 = .ok (.ireturn, 1) := by decide +kernel
theorem dX5_into_0 : decode cX5_into 0 = .ok (.aload_n 0, 1) := by decide +kernel
theorem dX5_into_1 : decode cX5_into 1 = .ok (.iload_n 2, 1) := by decide +kernel
theorem dX5_into_2 : decode cX5_into 2 = .ok (.invokevirtual 75, 3) := by decide +kernel
theorem dX5_into_5 : decode cX5_into 5 = .ok (.astore 5, 2) := by decide +kernel
theorem dX5_into_7 : decode cX5_into 7 = .ok (.aload_n 0, 1) := by decide +kernel
theorem dX5_into_8 : decode cX5_into 8 = .ok (.iload_n 3, 1) := by decide +kernel
theorem dX5_into_9 : decode cX5_into 9 = .ok (.invokevirtual 75, 3) := by decide +kernel
theorem dX5_into_12 : decode cX5_into 12 = .ok (.astore 6, 2) := by decide +kernel
theorem dX5_into_14 : decode cX5_into 14 = .ok (.aload_n 0, 1) := by decide +kernel
theorem dX5_into_15 : decode cX5_into 15 = .ok (.iload 4, 2) := by decide +kernel
theorem dX5_into_17 : decode cX5_into 17 = .ok (.invokevirtual 75, 3) := by decide +kernel
theorem dX5_into_20 : decode cX5_into 20 = .ok (.astore 7, 2) := by decide +kernel
theorem dX5_into_22 : decode cX5_into 22 = .ok (.aload 5, 2) := by decide +kernel
theorem dX5_into_24 : decode cX5_into 24 = .ok (.ifnull 20, 3) := by decide +kernel
theorem dX5_into_27 : decode cX5_into 27 = .ok (.aload 6, 2) := by decide +kernel
theorem dX5_into_29 : decode cX5_into 29 = .ok (.ifnull 15, 3) := by decide +kernel
theorem dX5_into_32 : decode cX5_into 32 = .ok (.aload 7, 2) := by decide +kernel
theorem dX5_into_34 : decode cX5_into 34 = .ok (.ifnull 10, 3) := by decide +kernel
theorem dX5_into_37 : decode cX5_into 37 = .ok (.iload_n 1, 1) := by decide +kernel
theorem dX5_into_38 : decode cX5_into 38 = .ok (.invokestatic 116, 3) := by decide +kernel
theorem dX5_into_41 : decode cX5_into 41 = .ok (.ifCond .ne 5, 3) := by decide +kernel
theorem dX5_into_44 : decode cX5_into 44 = .ok (.iconst (-1), 1) := by decide +kernel
theorem dX5_into_45 : decode cX5_into 45 = .ok (.ireturn, 1) := by decide +kernel
theorem dX5_into_46 : decode cX5_into 46 = .ok (.aload 5, 2) := by decide +kernel
theorem dX5_into_48 : decode cX5_into 48 = .ok (.getfield 79, 3) := by decide +kernel
theorem dX5_into_51 : decode cX5_into 51 = .ok (.ifCond .ne 19, 3) := by decide +kernel
theorem dX5_into_54 : decode cX5_into 54 = .ok (.aload 6, 2) := by decide +kernel
theorem dX5_into_56 : decode cX5_into 56 = .ok (.getfield 79, 3) := by decide +kernel
theorem dX5_into_59 : decode cX5_into 59 = .ok (.ifCond .ne 11, 3) := by decide +kernel
theorem dX5_into_62 : decode cX5_into 62 = .ok (.aload 7, 2) := by decide +kernel
theorem dX5_into_64 : decode cX5_into 64 = .ok (.getfield 79, 3) := by decide +kernel
theorem dX5_into_67 : decode cX5_into 67 = .ok (.ifCond .eq 11, 3) := by decide +kernel
theorem dX5_into_70 : decode cX5_into 70 = .ok (.aload_n 0, 1) := by decide +kernel
theorem dX5_into_71 : decode cX5_into 71 = .ok (.iconst 1, 1) := by decide +kernel
theorem dX5_into_72 : decode cX5_into 72 = .ok (.bipush (-3), 2) := by decide +kernel
theorem dX5_into_74 : decode cX5_into 74 = .ok (.invokevirtual 67, 3) := by decide +kernel
theorem dX5_into_77 : decode cX5_into 77 = .ok (.ireturn, 1) := by decide +kernel
theorem dX5_into_78 : decode cX5_into 78 = .ok (.iload_n 1, 1) := by decide +kernel
theorem dX5_into_79 : decode cX5_into 79 = .ok (.aload 5, 2) := by decide +kernel
theorem dX5_into_81 : decode cX5_into 81 = .ok (.getfield 86, 3) := by decide +kernel
theorem dX5_into_84 : decode cX5_into 84 = .ok (.aload 6, 2) := by decide +kernel
theorem dX5_into_86 : decode cX5_into 86 = .ok (.getfield 86, 3) := by decide +kernel
theorem dX5_into_89 : decode cX5_into 89 = .ok (.invokestatic 119, 3) := by decide +kernel
theorem dX5_into_92 : decode cX5_into 92 = .ok (.istore 8, 2) := by decide +kernel
theorem dX5_into_94 : decode cX5_into 94 = .ok (.iload 8, 2) := by decide +kernel
theorem dX5_into_96 : decode cX5_into 96 = .ok (.bipush (-3), 2) := by decide +kernel
theorem dX5_into_98 : decode cX5_into 98 = .ok (.if_icmp .ne 11, 3) := by decide +kernel
theorem dX5_into_101 : decode cX5_into 101 = .ok (.aload_n 0, 1) := by decide +kernel
theorem dX5_into_102 : decode cX5_into 102 = .ok (.iconst 4, 1) := by decide +kernel
theorem dX5_into_103 : decode cX5_into 103 = .ok (.bipush (-3), 2) := by decide +kernel
theorem dX5_into_105 : decode cX5_into 105 = .ok (.invokevirtual 67, 3) := by decide +kernel
theorem dX5_into_108 : decode cX5_into 108 = .ok (.ireturn, 1) := by decide +kernel
theorem dX5_into_109 : decode cX5_into 109 = .ok (.aload_n 0, 1) := by decide +kernel
theorem dX5_into_110 : decode cX5_into 110 = .ok (.aload 5, 2) := by decide +kernel
theorem dX5_into_112 : decode cX5_into 112 = .ok (.aload 6, 2) := by decide +kernel
theorem dX5_into_114 : decode cX5_into 114 = .ok (.invokevirtual 122, 3) := by decide +kernel
theorem dX5_into_117 : decode cX5_into 117 = .ok (.istore 9, 2) := by decide +kernel
theorem dX5_into_119 : decode cX5_into 119 = .ok (.iload 9, 2) := by decide +kernel
theorem dX5_into_121 : decode cX5_into 121 = .ok (.bipush (-3), 2) := by decide +kernel
theorem dX5_into_123 : decode cX5_into 123 = .ok (.if_icmp .eq 12, 3) := by decide +kernel
theorem dX5_into_126 : decode cX5_into 126 = .ok (.aload_n 0, 1) := by decide +kernel
theorem dX5_into_127 : decode cX5_into 127 = .ok (.bipush 6, 2) := by decide +kernel
theorem dX5_into_129 : decode cX5_into 129 = .ok (.iload 9, 2) := by decide +kernel
theorem dX5_into_131 : decode cX5_into 131 = .ok (.invokevirtual 67, 3) := by decide +kernel
theorem dX5_into_134 : decode cX5_into 134 = .ok (.ireturn, 1) := by decide +kernel
theorem dX5_into_135 : decode cX5_into 135 = .ok (.aload_n 0, 1) := by decide +kernel
theorem dX5_into_136 : decode cX5_into 136 = .ok (.getfield 25, 3) := by decide +kernel
theorem dX5_into_139 : decode cX5_into 139 = .ok (.aload 7, 2) := by decide +kernel
theorem dX5_into_141 : decode cX5_into 141 = .ok (.getfield 103, 3) := by decide +kernel
theorem dX5_into_144 : decode cX5_into 144 = .ok (.invokevirtual 136, 3) := by decide +kernel
theorem dX5_into_147 : decode cX5_into 147 = .ok (.ifCond .ne 12, 3) := by decide +kernel
theorem dX5_into_150 : decode cX5_into 150 = .ok (.aload_n 0, 1) := by decide +kernel
theorem dX5_into_151 : decode cX5_into 151 = .ok (.bipush 6, 2) := by decide +kernel
theorem dX5_into_153 : decode cX5_into 153 = .ok (.bipush (-3), 2) := by decide +kernel
theorem dX5_into_155 : decode cX5_into 155 = .ok (.invokevirtual 67, 3) := by decide +kernel
theorem dX5_into_158 : decode cX5_into 158 = .ok (.ireturn, 1) := by decide +kernel
theorem dX5_into_159 : decode cX5_into 159 = .ok (.iload_n 1, 1) := by decide +kernel
theorem dX5_into_160 : decode cX5_into 160 = .ok (.iload 8, 2) := by decide +kernel
theorem dX5_into_162 : decode cX5_into 162 = .ok (.invokestatic 130, 3) := by decide +kernel
theorem dX5_into_165 : decode cX5_into 165 = .ok (.istore 10, 2) := by decide +kernel
theorem dX5_into_167 : decode cX5_into 167 = .ok (.aload 7, 2) := by decide +kernel
theorem dX5_into_169 : decode cX5_into 169 = .ok (.getfield 86, 3) := by decide +kernel
theorem dX5_into_172 : decode cX5_into 172 = .ok (.iload 10, 2) := by decide +kernel
theorem dX5_into_174 : decode cX5_into 174 = .ok (.invokestatic 140, 3) := by decide +kernel
theorem dX5_into_177 : decode cX5_into 177 = .ok (.ifCond .ne 11, 3) := by decide +kernel
theorem dX5_into_180 : decode cX5_into 180 = .ok (.aload_n 0, 1) := by decide +kernel
theorem dX5_into_181 : decode cX5_into 181 = .ok (.iconst 4, 1) := by decide +kernel
theorem dX5_into_182 : decode cX5_into 182 = .ok (.bipush (-3), 2) := by decide +kernel
theorem dX5_into_184 : decode cX5_into 184 = .ok (.invokevirtual 67, 3) := by decide +kernel
theorem dX5_into_187 : decode cX5_into 187 = .ok (.ireturn, 1) := by decide +kernel
theorem dX5_into_188 : decode cX5_into 188 = .ok (.aload_n 0, 1) := by decide +kernel
theorem dX5_into_189 : decode cX5_into 189 = .ok (.iload_n 1, 1) := by decide +kernel
theorem dX5_into_190 : decode cX5_into 190 = .ok (.iload 8, 2) := by decide +kernel
theorem dX5_into_192 : decode cX5_into 192 = .ok (.aload 5, 2) := by decide +kernel
theorem dX5_into_194 : decode cX5_into 194 = .ok (.aload 6, 2) := by decide +kernel
theorem dX5_into_196 : decode cX5_into 196 = .ok (.invokevirtual 126, 3) := by decide +kernel
theorem dX5_into_199 : decode cX5_into 199 = .ok (.istore 11, 2) := by decide +kernel
theorem dX5_into_201 : decode cX5_into 201 = .ok (.iload 11, 2) := by decide +kernel
theorem dX5_into_203 : decode cX5_into 203 = .ok (.bipush (-3), 2) := by decide +kernel
theorem dX5_into_205 : decode cX5_into 205 = .ok (.if_icmp .eq 11, 3) := by decide +kernel
theorem dX5_into_208 : decode cX5_into 208 = .ok (.aload_n 0, 1) := by decide +kernel
theorem dX5_into_209 : decode cX5_into 209 = .ok (.iconst 5, 1) := by decide +kernel
theorem dX5_into_210 : decode cX5_into 210 = .ok (.iload 11, 2) := by decide +kernel
theorem dX5_into_212 : decode cX5_into 212 = .ok (.invokevirtual 67, 3) := by decide +kernel
theorem dX5_into_215 : decode cX5_into 215 = .ok (.ireturn, 1) := by decide +kernel
theorem dX5_into_216 : decode cX5_into 216 = .ok (.aload_n 0, 1) := by decide +kernel
theorem dX5_into_217 : decode cX5_into 217 = .ok (.aload 7, 2) := by decide +kernel
theorem dX5_into_219 : decode cX5_into 219 = .ok (.iload 10, 2) := by decide +kernel
theorem dX5_into_221 : decode cX5_into 221 = .ok (.invokevirtual 144, 3) := by decide +kernel
theorem dX5_into_224 : decode cX5_into 224 = .ok (.iconst 1, 1) := by decide +kernel
theorem dX5_into_225 : decode cX5_into 225 = .ok (.ireturn, 1) := by decide +kernel
theorem dX5_one_0 : decode cX5_one 0 = .ok (.aload_n 0, 1) := by decide +kernel
theorem dX5_one_1 : decode cX5_one 1 = .ok (.iload_n 2, 1) := by decide +kernel
theorem dX5_one_2 : decode cX5_one 2 = .ok (.invokevirtual 75, 3) := by decide +kernel
theorem dX5_one_5 : decode cX5_one 5 = .ok (.astore_n 3, 1) := by decide +kernel
theorem dX5_one_6 : decode cX5_one 6 = .ok (.aload_n 3, 1) := by decide +kernel
theorem dX5_one_7 : decode cX5_one 7 = .ok (.ifnull 10, 3) := by decide +kernel
theorem dX5_one_10 : decode cX5_one 10 = .ok (.iload_n 1, 1) := by decide +kernel
theorem dX5_one_11 : decode cX5_one 11 = .ok (.invokestatic 148, 3) := by decide +kernel
theorem dX5_one_14 : decode cX5_one 14 = .ok (.ifCond .ne 5, 3) := by decide +kernel
theorem dX5_one_17 : decode cX5_one 17 = .ok (.iconst (-1), 1) := by decide +kernel
theorem dX5_one_18 : decode cX5_one 18 = .ok (.ireturn, 1) := by decide +kernel
theorem dX5_one_19 : decode cX5_one 19 = .ok (.aload_n 0, 1) := by decide +kernel
theorem dX5_one_20 : decode cX5_one 20 = .ok (.invokevirtual 55, 3) := by decide +kernel
theorem dX5_one_23 : decode cX5_one 23 = .ok (.ifCond .eq 6, 3) := by decide +kernel
theorem dX5_one_26 : decode cX5_one 26 = .ok (.bipush (-2), 2) := by decide +kernel
theorem dX5_one_28 : decode cX5_one 28 = .ok (.ireturn, 1) := by decide +kernel
theorem dX5_one_29 : decode cX5_one 29 = .ok (.aload_n 3, 1) := by decide +kernel
theorem dX5_one_30 : decode cX5_one 30 = .ok (.getfield 79, 3) := by decide +kernel
theorem dX5_one_33 : decode cX5_one 33 = .ok (.ifCond .eq 11, 3) := by decide +kernel
theorem dX5_one_36 : decode cX5_one 36 = .ok (.aload_n 0, 1) := by decide +kernel
theorem dX5_one_37 : decode cX5_one 37 = .ok (.iconst 1, 1) := by decide +kernel
theorem dX5_one_38 : decode cX5_one 38 = .ok (.bipush (-3), 2) := by decide +kernel
theorem dX5_one_40 : decode cX5_one 40 = .ok (.invokevirtual 67, 3) := by decide +kernel
theorem dX5_one_43 : decode cX5_one 43 = .ok (.ireturn, 1) := by decide +kernel
theorem dX5_one_44 : decode cX5_one 44 = .ok (.iload_n 1, 1) := by decide +kernel
theorem dX5_one_45 : decode cX5_one 45 = .ok (.aload_n 3, 1) := by decide +kernel
theorem dX5_one_46 : decode cX5_one 46 = .ok (.getfield 86, 3) := by decide +kernel
theorem dX5_one_49 : decode cX5_one 49 = .ok (.invokestatic 151, 3) := by decide +kernel
theorem dX5_one_52 : decode cX5_one 52 = .ok (.istore 4, 2) := by decide +kernel
theorem dX5_one_54 : decode cX5_one 54 = .ok (.iload 4, 2) := by decide +kernel
theorem dX5_one_56 : decode cX5_one 56 = .ok (.bipush (-3), 2) := by decide +kernel
theorem dX5_one_58 : decode cX5_one 58 = .ok (.if_icmp .ne 11, 3) := by decide +kernel
theorem dX5_one_61 : decode cX5_one 61 = .ok (.aload_n 0, 1) := by decide +kernel
theorem dX5_one_62 : decode cX5_one 62 = .ok (.iconst 4, 1) := by decide +kernel
theorem dX5_one_63 : decode cX5_one 63 = .ok (.bipush (-3), 2) := by decide +kernel
theorem dX5_one_65 : decode cX5_one 65 = .ok (.invokevirtual 67, 3) := by decide +kernel
theorem dX5_one_68 : decode cX5_one 68 = .ok (.ireturn, 1) := by decide +kernel
theorem dX5_one_69 : decode cX5_one 69 = .ok (.aload_n 0, 1) := by decide +kernel
theorem dX5_one_70 : decode cX5_one 70 = .ok (.getfield 25, 3) := by decide +kernel
theorem dX5_one_73 : decode cX5_one 73 = .ok (.aload_n 3, 1) := by decide +kernel
theorem dX5_one_74 : decode cX5_one 74 = .ok (.getfield 103, 3) := by decide +kernel
theorem dX5_one_77 : decode cX5_one 77 = .ok (.invokevirtual 154, 3) := by decide +kernel
theorem dX5_one_80 : decode cX5_one 80 = .ok (.iconst 0, 1) := by decide +kernel
theorem dX5_one_81 : decode cX5_one 81 = .ok (.istore 5, 2) := by decide +kernel
theorem dX5_one_83 : decode cX5_one 83 = .ok (.iload 5, 2) := by decide +kernel
theorem dX5_one_85 : decode cX5_one 85 = .ok (.aload_n 3, 1) := by decide +kernel
theorem dX5_one_86 : decode cX5_one 86 = .ok (.getfield 158, 3) := by decide +kernel
theorem dX5_one_89 : decode cX5_one 89 = .ok (.arraylength, 1) := by decide +kernel
theorem dX5_one_90 : decode cX5_one 90 = .ok (.if_icmp .ge 55, 3) := by decide +kernel
theorem dX5_one_93 : decode cX5_one 93 = .ok (.iload 5, 2) := by decide +kernel
theorem dX5_one_95 : decode cX5_one 95 = .ok (.aload_n 0, 1) := by decide +kernel
theorem dX5_one_96 : decode cX5_one 96 = .ok (.getfield 29, 3) := by decide +kernel
theorem dX5_one_99 : decode cX5_one 99 = .ok (.arraylength, 1) := by decide +kernel
theorem dX5_one_100 : decode cX5_one 100 = .ok (.if_icmp .ge 45, 3) := by decide +kernel
theorem dX5_one_103 : decode cX5_one 103 = .ok (.aload_n 0, 1) := by decide +kernel
theorem dX5_one_104 : decode cX5_one 104 = .ok (.getfield 29, 3) := by decide +kernel
theorem dX5_one_107 : decode cX5_one 107 = .ok (.iload 5, 2) := by decide +kernel
theorem dX5_one_109 : decode cX5_one 109 = .ok (.aload_n 0, 1) := by decide +kernel
theorem dX5_one_110 : decode cX5_one 110 = .ok (.getfield 18, 3) := by decide +kernel
theorem dX5_one_113 : decode cX5_one 113 = .ok (.iload_n 1, 1) := by decide +kernel
theorem dX5_one_114 : decode cX5_one 114 = .ok (.iload 4, 2) := by decide +kernel
theorem dX5_one_116 : decode cX5_one 116 = .ok (.aload_n 0, 1) := by decide +kernel
theorem dX5_one_117 : decode cX5_one 117 = .ok (.getfield 18, 3) := by decide +kernel
theorem dX5_one_120 : decode cX5_one 120 = .ok (.aload_n 3, 1) := by decide +kernel
theorem dX5_one_121 : decode cX5_one 121 = .ok (.iload 5, 2) := by decide +kernel
theorem dX5_one_123 : decode cX5_one 123 = .ok (.invokevirtual 99, 3) := by decide +kernel
theorem dX5_one_126 : decode cX5_one 126 = .ok (.aload_n 3, 1) := by decide +kernel
theorem dX5_one_127 : decode cX5_one 127 = .ok (.getfield 86, 3) := by decide +kernel
theorem dX5_one_130 : decode cX5_one 130 = .ok (.iload 4, 2) := by decide +kernel
theorem dX5_one_132 : decode cX5_one 132 = .ok (.invokevirtual 161, 3) := by decide +kernel
theorem dX5_one_135 : decode cX5_one 135 = .ok (.invokevirtual 165, 3) := by decide +kernel
theorem dX5_one_138 : decode cX5_one 138 = .ok (.lastore, 1) := by decide +kernel
theorem dX5_one_139 : decode cX5_one 139 = .ok (.iinc 5 1, 3) := by decide +kernel
theorem dX5_one_142 : decode cX5_one 142 = .ok (.goto (-59), 3) := by decide +kernel
theorem dX5_one_145 : decode cX5_one 145 = .ok (.aload_n 0, 1) := by decide +kernel
theorem dX5_one_146 : decode cX5_one 146 = .ok (.iload_n 1, 1) := by decide +kernel
theorem dX5_one_147 : decode cX5_one 147 = .ok (.bipush 8, 2) := by decide +kernel
theorem dX5_one_149 : decode cX5_one 149 = .ok (.if_icmp .ne 7, 3) := by decide +kernel
theorem dX5_one_152 : decode cX5_one 152 = .ok (.iconst 0, 1) := by decide +kernel
theorem dX5_one_153 : decode cX5_one 153 = .ok (.goto 5, 3) := by decide +kernel
theorem dX5_one_156 : decode cX5_one 156 = .ok (.iload 4, 2) := by decide +kernel
theorem dX5_one_158 : decode cX5_one 158 = .ok (.invokevirtual 133, 3) := by decide +kernel
theorem dX5_one_161 : decode cX5_one 161 = .ok (.ireturn, 1) := by decide +kernel
theorem dX5_cast_0 : decode cX5_cast 0 = .ok (.aload_n 0, 1) := by decide +kernel
theorem dX5_cast_1 : decode cX5_cast 1 = .ok (.iload_n 1, 1) := by decide +kernel
theorem dX5_cast_2 : decode cX5_cast 2 = .ok (.invokevirtual 75, 3) := by decide +kernel
theorem dX5_cast_5 : decode cX5_cast 5 = .ok (.astore_n 3, 1) := by decide +kernel
theorem dX5_cast_6 : decode cX5_cast 6 = .ok (.aload_n 3, 1) := by decide +kernel
theorem dX5_cast_7 : decode cX5_cast 7 = .ok (.ifnull 10, 3) := by decide +kernel
theorem dX5_cast_10 : decode cX5_cast 10 = .ok (.iload_n 2, 1) := by decide +kernel
theorem dX5_cast_11 : decode cX5_cast 11 = .ok (.invokestatic 49, 3) := by decide +kernel
theorem dX5_cast_14 : decode cX5_cast 14 = .ok (.ifCond .ne 5, 3) := by decide +kernel
theorem dX5_cast_17 : decode cX5_cast 17 = .ok (.iconst (-1), 1) := by decide +kernel
theorem dX5_cast_18 : decode cX5_cast 18 = .ok (.ireturn, 1) := by decide +kernel
theorem dX5_cast_19 : decode cX5_cast 19 = .ok (.aload_n 0, 1) := by decide +kernel
theorem dX5_cast_20 : decode cX5_cast 20 = .ok (.invokevirtual 55, 3) := by decide +kernel
theorem dX5_cast_23 : decode cX5_cast 23 = .ok (.ifCond .eq 6, 3) := by decide +kernel
theorem dX5_cast_26 : decode cX5_cast 26 = .ok (.bipush (-2), 2) := by decide +kernel
theorem dX5_cast_28 : decode cX5_cast 28 = .ok (.ireturn, 1) := by decide +kernel
theorem dX5_cast_29 : decode cX5_cast 29 = .ok (.aload_n 3, 1) := by decide +kernel
theorem dX5_cast_30 : decode cX5_cast 30 = .ok (.getfield 79, 3) := by decide +kernel
theorem dX5_cast_33 : decode cX5_cast 33 = .ok (.ifCond .eq 11, 3) := by decide +kernel
theorem dX5_cast_36 : decode cX5_cast 36 = .ok (.aload_n 0, 1) := by decide +kernel
theorem dX5_cast_37 : decode cX5_cast 37 = .ok (.iconst 1, 1) := by decide +kernel
theorem dX5_cast_38 : decode cX5_cast 38 = .ok (.bipush (-3), 2) := by decide +kernel
theorem dX5_cast_40 : decode cX5_cast 40 = .ok (.invokevirtual 67, 3) := by decide +kernel
theorem dX5_cast_43 : decode cX5_cast 43 = .ok (.ireturn, 1) := by decide +kernel
theorem dX5_cast_44 : decode cX5_cast 44 = .ok (.aload_n 0, 1) := by decide +kernel
theorem dX5_cast_45 : decode cX5_cast 45 = .ok (.getfield 25, 3) := by decide +kernel
theorem dX5_cast_48 : decode cX5_cast 48 = .ok (.aload_n 3, 1) := by decide +kernel
theorem dX5_cast_49 : decode cX5_cast 49 = .ok (.getfield 103, 3) := by decide +kernel
theorem dX5_cast_52 : decode cX5_cast 52 = .ok (.invokevirtual 154, 3) := by decide +kernel
theorem dX5_cast_55 : decode cX5_cast 55 = .ok (.iconst 0, 1) := by decide +kernel
theorem dX5_cast_56 : decode cX5_cast 56 = .ok (.istore 4, 2) := by decide +kernel
theorem dX5_cast_58 : decode cX5_cast 58 = .ok (.iload 4, 2) := by decide +kernel
theorem dX5_cast_60 : decode cX5_cast 60 = .ok (.aload_n 3, 1) := by decide +kernel
theorem dX5_cast_61 : decode cX5_cast 61 = .ok (.getfield 158, 3) := by decide +kernel
theorem dX5_cast_64 : decode cX5_cast 64 = .ok (.arraylength, 1) := by decide +kernel
theorem dX5_cast_65 : decode cX5_cast 65 = .ok (.if_icmp .ge 44, 3) := by decide +kernel
theorem dX5_cast_68 : decode cX5_cast 68 = .ok (.iload 4, 2) := by decide +kernel
theorem dX5_cast_70 : decode cX5_cast 70 = .ok (.aload_n 0, 1) := by decide +kernel
theorem dX5_cast_71 : decode cX5_cast 71 = .ok (.getfield 29, 3) := by decide +kernel
theorem dX5_cast_74 : decode cX5_cast 74 = .ok (.arraylength, 1) := by decide +kernel
theorem dX5_cast_75 : decode cX5_cast 75 = .ok (.if_icmp .ge 34, 3) := by decide +kernel
theorem dX5_cast_78 : decode cX5_cast 78 = .ok (.aload_n 0, 1) := by decide +kernel
theorem dX5_cast_79 : decode cX5_cast 79 = .ok (.getfield 29, 3) := by decide +kernel
theorem dX5_cast_82 : decode cX5_cast 82 = .ok (.iload 4, 2) := by decide +kernel
theorem dX5_cast_84 : decode cX5_cast 84 = .ok (.aload_n 0, 1) := by decide +kernel
theorem dX5_cast_85 : decode cX5_cast 85 = .ok (.getfield 18, 3) := by decide +kernel
theorem dX5_cast_88 : decode cX5_cast 88 = .ok (.aload_n 3, 1) := by decide +kernel
theorem dX5_cast_89 : decode cX5_cast 89 = .ok (.iload 4, 2) := by decide +kernel
theorem dX5_cast_91 : decode cX5_cast 91 = .ok (.invokevirtual 99, 3) := by decide +kernel
theorem dX5_cast_94 : decode cX5_cast 94 = .ok (.aload_n 3, 1) := by decide +kernel
theorem dX5_cast_95 : decode cX5_cast 95 = .ok (.getfield 86, 3) := by decide +kernel
theorem dX5_cast_98 : decode cX5_cast 98 = .ok (.iload_n 2, 1) := by decide +kernel
theorem dX5_cast_99 : decode cX5_cast 99 = .ok (.invokevirtual 161, 3) := by decide +kernel
theorem dX5_cast_102 : decode cX5_cast 102 = .ok (.lastore, 1) := by decide +kernel
theorem dX5_cast_103 : decode cX5_cast 103 = .ok (.iinc 4 1, 3) := by decide +kernel
theorem dX5_cast_106 : decode cX5_cast 106 = .ok (.goto (-48), 3) := by decide +kernel
theorem dX5_cast_109 : decode cX5_cast 109 = .ok (.aload_n 0, 1) := by decide +kernel
theorem dX5_cast_110 : decode cX5_cast 110 = .ok (.iload_n 2, 1) := by decide +kernel
theorem dX5_cast_111 : decode cX5_cast 111 = .ok (.invokevirtual 133, 3) := by decide +kernel
theorem dX5_cast_114 : decode cX5_cast 114 = .ok (.ireturn, 1) := by decide +kernel
theorem dX5_where_0 : decode cX5_where 0 = .ok (.aload_n 0, 1) := by decide +kernel
theorem dX5_where_1 : decode cX5_where 1 = .ok (.iload_n 1, 1) := by decide +kernel
theorem dX5_where_2 : decode cX5_where 2 = .ok (.invokevirtual 75, 3) := by decide +kernel
theorem dX5_where_5 : decode cX5_where 5 = .ok (.astore 4, 2) := by decide +kernel
theorem dX5_where_7 : decode cX5_where 7 = .ok (.aload_n 0, 1) := by decide +kernel
theorem dX5_where_8 : decode cX5_where 8 = .ok (.iload_n 2, 1) := by decide +kernel
theorem dX5_where_9 : decode cX5_where 9 = .ok (.invokevirtual 75, 3) := by decide +kernel
theorem dX5_where_12 : decode cX5_where 12 = .ok (.astore 5, 2) := by decide +kernel
theorem dX5_where_14 : decode cX5_where 14 = .ok (.aload_n 0, 1) := by decide +kernel
theorem dX5_where_15 : decode cX5_where 15 = .ok (.iload_n 3, 1) := by decide +kernel
theorem dX5_where_16 : decode cX5_where 16 = .ok (.invokevirtual 75, 3) := by decide +kernel
theorem dX5_where_19 : decode cX5_where 19 = .ok (.astore 6, 2) := by decide +kernel
theorem dX5_where_21 : decode cX5_where 21 = .ok (.aload 4, 2) := by decide +kernel
theorem dX5_where_23 : decode cX5_where 23 = .ok (.ifnull 13, 3) := by decide +kernel
theorem dX5_where_26 : decode cX5_where 26 = .ok (.aload 5, 2) := by decide +kernel
theorem dX5_where_28 : decode cX5_where 28 = .ok (.ifnull 8, 3) := by decide +kernel
theorem dX5_where_31 : decode cX5_where 31 = .ok (.aload 6, 2) := by decide +kernel
theorem dX5_where_33 : decode cX5_where 33 = .ok (.ifnonnull 5, 3) := by decide +kernel
theorem dX5_where_36 : decode cX5_where 36 = .ok (.iconst (-1), 1) := by decide +kernel
theorem dX5_where_37 : decode cX5_where 37 = .ok (.ireturn, 1) := by decide +kernel
theorem dX5_where_38 : decode cX5_where 38 = .ok (.aload_n 0, 1) := by decide +kernel
theorem dX5_where_39 : decode cX5_where 39 = .ok (.invokevirtual 55, 3) := by decide +kernel
theorem dX5_where_42 : decode cX5_where 42 = .ok (.ifCond .eq 6, 3) := by decide +kernel
theorem dX5_where_45 : decode cX5_where 45 = .ok (.bipush (-2), 2) := by decide +kernel
theorem dX5_where_47 : decode cX5_where 47 = .ok (.ireturn, 1) := by decide +kernel
theorem dX5_where_48 : decode cX5_where 48 = .ok (.aload 4, 2) := by decide +kernel
theorem dX5_where_50 : decode cX5_where 50 = .ok (.getfield 79, 3) := by decide +kernel
theorem dX5_where_53 : decode cX5_where 53 = .ok (.ifCond .ne 19, 3) := by decide +kernel
theorem dX5_where_56 : decode cX5_where 56 = .ok (.aload 5, 2) := by decide +kernel
theorem dX5_where_58 : decode cX5_where 58 = .ok (.getfield 79, 3) := by decide +kernel
theorem dX5_where_61 : decode cX5_where 61 = .ok (.ifCond .ne 11, 3) := by decide +kernel
theorem dX5_where_64 : decode cX5_where 64 = .ok (.aload 6, 2) := by decide +kernel
theorem dX5_where_66 : decode cX5_where 66 = .ok (.getfield 79, 3) := by decide +kernel
theorem dX5_where_69 : decode cX5_where 69 = .ok (.ifCond .eq 11, 3) := by decide +kernel
theorem dX5_where_72 : decode cX5_where 72 = .ok (.aload_n 0, 1) := by decide +kernel
theorem dX5_where_73 : decode cX5_where 73 = .ok (.iconst 1, 1) := by decide +kernel
theorem dX5_where_74 : decode cX5_where 74 = .ok (.bipush (-3), 2) := by decide +kernel
theorem dX5_where_76 : decode cX5_where 76 = .ok (.invokevirtual 67, 3) := by decide +kernel
theorem dX5_where_79 : decode cX5_where 79 = .ok (.ireturn, 1) := by decide +kernel
theorem dX5_where_80 : decode cX5_where 80 = .ok (.aload 4, 2) := by decide +kernel
theorem dX5_where_82 : decode cX5_where 82 = .ok (.getfield 86, 3) := by decide +kernel
theorem dX5_where_85 : decode cX5_where 85 = .ok (.ifCond .eq 11, 3) := by decide +kernel
theorem dX5_where_88 : decode cX5_where 88 = .ok (.aload_n 0, 1) := by decide +kernel
theorem dX5_where_89 : decode cX5_where 89 = .ok (.iconst 4, 1) := by decide +kernel
theorem dX5_where_90 : decode cX5_where 90 = .ok (.bipush (-3), 2) := by decide +kernel
theorem dX5_where_92 : decode cX5_where 92 = .ok (.invokevirtual 67, 3) := by decide +kernel
theorem dX5_where_95 : decode cX5_where 95 = .ok (.ireturn, 1) := by decide +kernel
theorem dX5_where_96 : decode cX5_where 96 = .ok (.aload_n 0, 1) := by decide +kernel
theorem dX5_where_97 : decode cX5_where 97 = .ok (.aload 5, 2) := by decide +kernel
theorem dX5_where_99 : decode cX5_where 99 = .ok (.aload 6, 2) := by decide +kernel
theorem dX5_where_101 : decode cX5_where 101 = .ok (.invokevirtual 122, 3) := by decide +kernel
theorem dX5_where_104 : decode cX5_where 104 = .ok (.istore 7, 2) := by decide +kernel
theorem dX5_where_106 : decode cX5_where 106 = .ok (.iload 7, 2) := by decide +kernel
theorem dX5_where_108 : decode cX5_where 108 = .ok (.bipush (-3), 2) := by decide +kernel
theorem dX5_where_110 : decode cX5_where 110 = .ok (.if_icmp .ne 17, 3) := by decide +kernel
theorem dX5_where_113 : decode cX5_where 113 = .ok (.aload_n 0, 1) := by decide +kernel
theorem dX5_where_114 : decode cX5_where 114 = .ok (.getfield 25, 3) := by decide +kernel
theorem dX5_where_117 : decode cX5_where 117 = .ok (.aload 4, 2) := by decide +kernel
theorem dX5_where_119 : decode cX5_where 119 = .ok (.getfield 103, 3) := by decide +kernel
theorem dX5_where_122 : decode cX5_where 122 = .ok (.invokevirtual 168, 3) := by decide +kernel
theorem dX5_where_125 : decode cX5_where 125 = .ok (.istore 7, 2) := by decide +kernel
theorem dX5_where_127 : decode cX5_where 127 = .ok (.iload 7, 2) := by decide +kernel
theorem dX5_where_129 : decode cX5_where 129 = .ok (.bipush (-3), 2) := by decide +kernel
theorem dX5_where_131 : decode cX5_where 131 = .ok (.if_icmp .ne 16, 3) := by decide +kernel
theorem dX5_where_134 : decode cX5_where 134 = .ok (.aload_n 0, 1) := by decide +kernel
theorem dX5_where_135 : decode cX5_where 135 = .ok (.getfield 25, 3) := by decide +kernel
theorem dX5_where_138 : decode cX5_where 138 = .ok (.invokevirtual 71, 3) := by decide +kernel
theorem dX5_where_141 : decode cX5_where 141 = .ok (.sipush 240, 3) := by decide +kernel
theorem dX5_where_144 : decode cX5_where 144 = .ok (.if_icmp .le 12, 3) := by decide +kernel
theorem dX5_where_147 : decode cX5_where 147 = .ok (.aload_n 0, 1) := by decide +kernel
theorem dX5_where_148 : decode cX5_where 148 = .ok (.bipush 6, 2) := by decide +kernel
theorem dX5_where_150 : decode cX5_where 150 = .ok (.iload 7, 2) := by decide +kernel
theorem dX5_where_152 : decode cX5_where 152 = .ok (.invokevirtual 67, 3) := by decide +kernel
theorem dX5_where_155 : decode cX5_where 155 = .ok (.ireturn, 1) := by decide +kernel
theorem dX5_where_156 : decode cX5_where 156 = .ok (.aload 5, 2) := by decide +kernel
theorem dX5_where_158 : decode cX5_where 158 = .ok (.getfield 86, 3) := by decide +kernel
theorem dX5_where_161 : decode cX5_where 161 = .ok (.aload 6, 2) := by decide +kernel
theorem dX5_where_163 : decode cX5_where 163 = .ok (.getfield 86, 3) := by decide +kernel
theorem dX5_where_166 : decode cX5_where 166 = .ok (.invokestatic 172, 3) := by decide +kernel
theorem dX5_where_169 : decode cX5_where 169 = .ok (.istore 8, 2) := by decide +kernel
theorem dX5_where_171 : decode cX5_where 171 = .ok (.aload_n 0, 1) := by decide +kernel
theorem dX5_where_172 : decode cX5_where 172 = .ok (.iload 8, 2) := by decide +kernel
theorem dX5_where_174 : decode cX5_where 174 = .ok (.aload 4, 2) := by decide +kernel
theorem dX5_where_176 : decode cX5_where 176 = .ok (.aload 5, 2) := by decide +kernel
theorem dX5_where_178 : decode cX5_where 178 = .ok (.aload 6, 2) := by decide +kernel
theorem dX5_where_180 : decode cX5_where 180 = .ok (.invokevirtual 175, 3) := by decide +kernel
theorem dX5_where_183 : decode cX5_where 183 = .ok (.aload_n 0, 1) := by decide +kernel
theorem dX5_where_184 : decode cX5_where 184 = .ok (.iload 8, 2) := by decide +kernel
theorem dX5_where_186 : decode cX5_where 186 = .ok (.invokevirtual 133, 3) := by decide +kernel
theorem dX5_where_189 : decode cX5_where 189 = .ok (.ireturn, 1) := by decide +kernel
theorem dX5_copy_0 : decode cX5_copy 0 = .ok (.aload_n 0, 1) := by decide +kernel
theorem dX5_copy_1 : decode cX5_copy 1 = .ok (.iload_n 1, 1) := by decide +kernel
theorem dX5_copy_2 : decode cX5_copy 2 = .ok (.invokevirtual 75, 3) := by decide +kernel
theorem dX5_copy_5 : decode cX5_copy 5 = .ok (.astore 6, 2) := by decide +kernel
theorem dX5_copy_7 : decode cX5_copy 7 = .ok (.aload_n 0, 1) := by decide +kernel
theorem dX5_copy_8 : decode cX5_copy 8 = .ok (.iload_n 3, 1) := by decide +kernel
theorem dX5_copy_9 : decode cX5_copy 9 = .ok (.invokevirtual 75, 3) := by decide +kernel
theorem dX5_copy_12 : decode cX5_copy 12 = .ok (.astore 7, 2) := by decide +kernel
theorem dX5_copy_14 : decode cX5_copy 14 = .ok (.aload 6, 2) := by decide +kernel
theorem dX5_copy_16 : decode cX5_copy 16 = .ok (.ifnull 8, 3) := by decide +kernel
theorem dX5_copy_19 : decode cX5_copy 19 = .ok (.aload 7, 2) := by decide +kernel
theorem dX5_copy_21 : decode cX5_copy 21 = .ok (.ifnonnull 5, 3) := by decide +kernel
theorem dX5_copy_24 : decode cX5_copy 24 = .ok (.iconst (-1), 1) := by decide +kernel
theorem dX5_copy_25 : decode cX5_copy 25 = .ok (.ireturn, 1) := by decide +kernel
theorem dX5_copy_26 : decode cX5_copy 26 = .ok (.aload 6, 2) := by decide +kernel
theorem dX5_copy_28 : decode cX5_copy 28 = .ok (.getfield 79, 3) := by decide +kernel
theorem dX5_copy_31 : decode cX5_copy 31 = .ok (.ifCond .ne 11, 3) := by decide +kernel
theorem dX5_copy_34 : decode cX5_copy 34 = .ok (.aload 7, 2) := by decide +kernel
theorem dX5_copy_36 : decode cX5_copy 36 = .ok (.getfield 79, 3) := by decide +kernel
theorem dX5_copy_39 : decode cX5_copy 39 = .ok (.ifCond .eq 11, 3) := by decide +kernel
theorem dX5_copy_42 : decode cX5_copy 42 = .ok (.aload_n 0, 1) := by decide +kernel
theorem dX5_copy_43 : decode cX5_copy 43 = .ok (.iconst 1, 1) := by decide +kernel
theorem dX5_copy_44 : decode cX5_copy 44 = .ok (.bipush (-3), 2) := by decide +kernel
theorem dX5_copy_46 : decode cX5_copy 46 = .ok (.invokevirtual 67, 3) := by decide +kernel
theorem dX5_copy_49 : decode cX5_copy 49 = .ok (.ireturn, 1) := by decide +kernel
theorem dX5_copy_50 : decode cX5_copy 50 = .ok (.aload 6, 2) := by decide +kernel
theorem dX5_copy_52 : decode cX5_copy 52 = .ok (.getfield 86, 3) := by decide +kernel
theorem dX5_copy_55 : decode cX5_copy 55 = .ok (.aload 7, 2) := by decide +kernel
theorem dX5_copy_57 : decode cX5_copy 57 = .ok (.getfield 86, 3) := by decide +kernel
theorem dX5_copy_60 : decode cX5_copy 60 = .ok (.if_icmp .eq 11, 3) := by decide +kernel
theorem dX5_copy_63 : decode cX5_copy 63 = .ok (.aload_n 0, 1) := by decide +kernel
theorem dX5_copy_64 : decode cX5_copy 64 = .ok (.iconst 4, 1) := by decide +kernel
theorem dX5_copy_65 : decode cX5_copy 65 = .ok (.bipush (-3), 2) := by decide +kernel
theorem dX5_copy_67 : decode cX5_copy 67 = .ok (.invokevirtual 67, 3) := by decide +kernel
theorem dX5_copy_70 : decode cX5_copy 70 = .ok (.ireturn, 1) := by decide +kernel
theorem dX5_copy_71 : decode cX5_copy 71 = .ok (.iload_n 2, 1) := by decide +kernel
theorem dX5_copy_72 : decode cX5_copy 72 = .ok (.ifCond .lt 40, 3) := by decide +kernel
theorem dX5_copy_75 : decode cX5_copy 75 = .ok (.iload 4, 2) := by decide +kernel
theorem dX5_copy_77 : decode cX5_copy 77 = .ok (.ifCond .lt 35, 3) := by decide +kernel
theorem dX5_copy_80 : decode cX5_copy 80 = .ok (.iload 5, 2) := by decide +kernel
theorem dX5_copy_82 : decode cX5_copy 82 = .ok (.ifCond .lt 30, 3) := by decide +kernel
theorem dX5_copy_85 : decode cX5_copy 85 = .ok (.iload 5, 2) := by decide +kernel
theorem dX5_copy_87 : decode cX5_copy 87 = .ok (.aload 6, 2) := by decide +kernel
theorem dX5_copy_89 : decode cX5_copy 89 = .ok (.getfield 158, 3) := by decide +kernel
theorem dX5_copy_92 : decode cX5_copy 92 = .ok (.arraylength, 1) := by decide +kernel
theorem dX5_copy_93 : decode cX5_copy 93 = .ok (.iload_n 2, 1) := by decide +kernel
theorem dX5_copy_94 : decode cX5_copy 94 = .ok (.isub, 1) := by decide +kernel
theorem dX5_copy_95 : decode cX5_copy 95 = .ok (.if_icmp .gt 17, 3) := by decide +kernel
theorem dX5_copy_98 : decode cX5_copy 98 = .ok (.iload 5, 2) := by decide +kernel
theorem dX5_copy_100 : decode cX5_copy 100 = .ok (.aload 7, 2) := by decide +kernel
theorem dX5_copy_102 : decode cX5_copy 102 = .ok (.getfield 158, 3) := by decide +kernel
theorem dX5_copy_105 : decode cX5_copy 105 = .ok (.arraylength, 1) := by decide +kernel
theorem dX5_copy_106 : decode cX5_copy 106 = .ok (.iload 4, 2) := by decide +kernel
theorem dX5_copy_108 : decode cX5_copy 108 = .ok (.isub, 1) := by decide +kernel
theorem dX5_copy_109 : decode cX5_copy 109 = .ok (.if_icmp .le 11, 3) := by decide +kernel
theorem dX5_copy_112 : decode cX5_copy 112 = .ok (.aload_n 0, 1) := by decide +kernel
theorem dX5_copy_113 : decode cX5_copy 113 = .ok (.iconst 2, 1) := by decide +kernel
theorem dX5_copy_114 : decode cX5_copy 114 = .ok (.bipush (-3), 2) := by decide +kernel
theorem dX5_copy_116 : decode cX5_copy 116 = .ok (.invokevirtual 67, 3) := by decide +kernel
theorem dX5_copy_119 : decode cX5_copy 119 = .ok (.ireturn, 1) := by decide +kernel
theorem dX5_copy_120 : decode cX5_copy 120 = .ok (.aload 6, 2) := by decide +kernel
theorem dX5_copy_122 : decode cX5_copy 122 = .ok (.getfield 158, 3) := by decide +kernel
theorem dX5_copy_125 : decode cX5_copy 125 = .ok (.iload_n 2, 1) := by decide +kernel
theorem dX5_copy_126 : decode cX5_copy 126 = .ok (.aload 7, 2) := by decide +kernel
theorem dX5_copy_128 : decode cX5_copy 128 = .ok (.getfield 158, 3) := by decide +kernel
theorem dX5_copy_131 : decode cX5_copy 131 = .ok (.iload 4, 2) := by decide +kernel
theorem dX5_copy_133 : decode cX5_copy 133 = .ok (.iload 5, 2) := by decide +kernel
theorem dX5_copy_135 : decode cX5_copy 135 = .ok (.invokestatic 179, 3) := by decide +kernel
theorem dX5_copy_138 : decode cX5_copy 138 = .ok (.iload 5, 2) := by decide +kernel
theorem dX5_copy_140 : decode cX5_copy 140 = .ok (.ireturn, 1) := by decide +kernel
theorem dX5_same_0 : decode cX5_same 0 = .ok (.aload_n 0, 1) := by decide +kernel
theorem dX5_same_1 : decode cX5_same 1 = .ok (.iload_n 1, 1) := by decide +kernel
theorem dX5_same_2 : decode cX5_same 2 = .ok (.invokevirtual 75, 3) := by decide +kernel
theorem dX5_same_5 : decode cX5_same 5 = .ok (.astore_n 3, 1) := by decide +kernel
theorem dX5_same_6 : decode cX5_same 6 = .ok (.aload_n 0, 1) := by decide +kernel
theorem dX5_same_7 : decode cX5_same 7 = .ok (.iload_n 2, 1) := by decide +kernel
theorem dX5_same_8 : decode cX5_same 8 = .ok (.invokevirtual 75, 3) := by decide +kernel
theorem dX5_same_11 : decode cX5_same 11 = .ok (.astore 4, 2) := by decide +kernel
theorem dX5_same_13 : decode cX5_same 13 = .ok (.aload_n 3, 1) := by decide +kernel
theorem dX5_same_14 : decode cX5_same 14 = .ok (.ifnull 8, 3) := by decide +kernel
theorem dX5_same_17 : decode cX5_same 17 = .ok (.aload 4, 2) := by decide +kernel
theorem dX5_same_19 : decode cX5_same 19 = .ok (.ifnonnull 5, 3) := by decide +kernel
theorem dX5_same_22 : decode cX5_same 22 = .ok (.iconst (-1), 1) := by decide +kernel
theorem dX5_same_23 : decode cX5_same 23 = .ok (.ireturn, 1) := by decide +kernel
theorem dX5_same_24 : decode cX5_same 24 = .ok (.aload_n 3, 1) := by decide +kernel
theorem dX5_same_25 : decode cX5_same 25 = .ok (.getfield 79, 3) := by decide +kernel
theorem dX5_same_28 : decode cX5_same 28 = .ok (.ifCond .ne 11, 3) := by decide +kernel
theorem dX5_same_31 : decode cX5_same 31 = .ok (.aload 4, 2) := by decide +kernel
theorem dX5_same_33 : decode cX5_same 33 = .ok (.getfield 79, 3) := by decide +kernel
theorem dX5_same_36 : decode cX5_same 36 = .ok (.ifCond .eq 11, 3) := by decide +kernel
theorem dX5_same_39 : decode cX5_same 39 = .ok (.aload_n 0, 1) := by decide +kernel
theorem dX5_same_40 : decode cX5_same 40 = .ok (.iconst 1, 1) := by decide +kernel
theorem dX5_same_41 : decode cX5_same 41 = .ok (.bipush (-3), 2) := by decide +kernel
theorem dX5_same_43 : decode cX5_same 43 = .ok (.invokevirtual 67, 3) := by decide +kernel
theorem dX5_same_46 : decode cX5_same 46 = .ok (.ireturn, 1) := by decide +kernel
theorem dX5_same_47 : decode cX5_same 47 = .ok (.aload_n 3, 1) := by decide +kernel
theorem dX5_same_48 : decode cX5_same 48 = .ok (.aload 4, 2) := by decide +kernel
theorem dX5_same_50 : decode cX5_same 50 = .ok (.invokevirtual 185, 3) := by decide +kernel
theorem dX5_same_53 : decode cX5_same 53 = .ok (.ifCond .eq 7, 3) := by decide +kernel
theorem dX5_same_56 : decode cX5_same 56 = .ok (.iconst 1, 1) := by decide +kernel
theorem dX5_same_57 : decode cX5_same 57 = .ok (.goto 4, 3) := by decide +kernel
theorem dX5_same_60 : decode cX5_same 60 = .ok (.iconst 0, 1) := by decide +kernel
theorem dX5_same_61 : decode cX5_same 61 = .ok (.ireturn, 1) := by decide +kernel
theorem dX5_place_0 : decode cX5_place 0 = .ok (.aload_n 0, 1) := by decide +kernel
theorem dX5_place_1 : decode cX5_place 1 = .ok (.getfield 46, 3) := by decide +kernel
theorem dX5_place_4 : decode cX5_place 4 = .ok (.ireturn, 1) := by decide +kernel
theorem dX5_count_0 : decode cX5_count 0 = .ok (.iload_n 1, 1) := by decide +kernel
theorem dX5_count_1 : decode cX5_count 1 = .ok (.tableswitch 51 0 3 #[31, 36, 41, 46], 31) := by decide +kernel
theorem dX5_count_32 : decode cX5_count 32 = .ok (.aload_n 0, 1) := by decide +kernel
theorem dX5_count_33 : decode cX5_count 33 = .ok (.getfield 33, 3) := by decide +kernel
theorem dX5_count_36 : decode cX5_count 36 = .ok (.ireturn, 1) := by decide +kernel
theorem dX5_count_37 : decode cX5_count 37 = .ok (.aload_n 0, 1) := by decide +kernel
theorem dX5_count_38 : decode cX5_count 38 = .ok (.invokevirtual 188, 3) := by decide +kernel
theorem dX5_count_41 : decode cX5_count 41 = .ok (.ireturn, 1) := by decide +kernel
theorem dX5_count_42 : decode cX5_count 42 = .ok (.aload_n 0, 1) := by decide +kernel
theorem dX5_count_43 : decode cX5_count 43 = .ok (.getfield 40, 3) := by decide +kernel
theorem dX5_count_46 : decode cX5_count 46 = .ok (.ireturn, 1) := by decide +kernel
theorem dX5_count_47 : decode cX5_count 47 = .ok (.aload_n 0, 1) := by decide +kernel
theorem dX5_count_48 : decode cX5_count 48 = .ok (.getfield 43, 3) := by decide +kernel
theorem dX5_count_51 : decode cX5_count 51 = .ok (.ireturn, 1) := by decide +kernel
theorem dX5_count_52 : decode cX5_count 52 = .ok (.iconst (-1), 1) := by decide +kernel
theorem dX5_count_53 : decode cX5_count 53 = .ok (.ireturn, 1) := by decide +kernel
theorem dX5_known_0 : decode cX5_known 0 = .ok (.iload_n 1, 1) := by decide +kernel
theorem dX5_known_1 : decode cX5_known 1 = .ok (.ifCond .lt 29, 3) := by decide +kernel
theorem dX5_known_4 : decode cX5_known 4 = .ok (.iload_n 1, 1) := by decide +kernel
theorem dX5_known_5 : decode cX5_known 5 = .ok (.aload_n 0, 1) := by decide +kernel
theorem dX5_known_6 : decode cX5_known 6 = .ok (.getfield 33, 3) := by decide +kernel
theorem dX5_known_9 : decode cX5_known 9 = .ok (.if_icmp .ge 21, 3) := by decide +kernel
theorem dX5_known_12 : decode cX5_known 12 = .ok (.iload_n 1, 1) := by decide +kernel
theorem dX5_known_13 : decode cX5_known 13 = .ok (.aload_n 0, 1) := by decide +kernel
theorem dX5_known_14 : decode cX5_known 14 = .ok (.getfield 11, 3) := by decide +kernel
theorem dX5_known_17 : decode cX5_known 17 = .ok (.arraylength, 1) := by decide +kernel
theorem dX5_known_18 : decode cX5_known 18 = .ok (.if_icmp .ge 12, 3) := by decide +kernel
theorem dX5_known_21 : decode cX5_known 21 = .ok (.aload_n 0, 1) := by decide +kernel
theorem dX5_known_22 : decode cX5_known 22 = .ok (.getfield 11, 3) := by decide +kernel
theorem dX5_known_25 : decode cX5_known 25 = .ok (.iload_n 1, 1) := by decide +kernel
theorem dX5_known_26 : decode cX5_known 26 = .ok (.aaload, 1) := by decide +kernel
theorem dX5_known_27 : decode cX5_known 27 = .ok (.goto 4, 3) := by decide +kernel
theorem dX5_known_30 : decode cX5_known 30 = .ok (.aconst_null, 1) := by decide +kernel
theorem dX5_known_31 : decode cX5_known 31 = .ok (.areturn, 1) := by decide +kernel
theorem dX5_isFull_0 : decode cX5_isFull 0 = .ok (.aload_n 0, 1) := by decide +kernel
theorem dX5_isFull_1 : decode cX5_isFull 1 = .ok (.getfield 33, 3) := by decide +kernel
theorem dX5_isFull_4 : decode cX5_isFull 4 = .ok (.bipush 16, 2) := by decide +kernel
theorem dX5_isFull_6 : decode cX5_isFull 6 = .ok (.if_icmp .lt 7, 3) := by decide +kernel
theorem dX5_isFull_9 : decode cX5_isFull 9 = .ok (.iconst 1, 1) := by decide +kernel
theorem dX5_isFull_10 : decode cX5_isFull 10 = .ok (.goto 4, 3) := by decide +kernel
theorem dX5_isFull_13 : decode cX5_isFull 13 = .ok (.iconst 0, 1) := by decide +kernel
theorem dX5_isFull_14 : decode cX5_isFull 14 = .ok (.ireturn, 1) := by decide +kernel
theorem dX5_notGone_0 : decode cX5_notGone 0 = .ok (.iconst 0, 1) := by decide +kernel
theorem dX5_notGone_1 : decode cX5_notGone 1 = .ok (.istore_n 1, 1) := by decide +kernel
theorem dX5_notGone_2 : decode cX5_notGone 2 = .ok (.iconst 0, 1) := by decide +kernel
theorem dX5_notGone_3 : decode cX5_notGone 3 = .ok (.istore_n 2, 1) := by decide +kernel
theorem dX5_notGone_4 : decode cX5_notGone 4 = .ok (.iload_n 2, 1) := by decide +kernel
theorem dX5_notGone_5 : decode cX5_notGone 5 = .ok (.aload_n 0, 1) := by decide +kernel
theorem dX5_notGone_6 : decode cX5_notGone 6 = .ok (.getfield 33, 3) := by decide +kernel
theorem dX5_notGone_9 : decode cX5_notGone 9 = .ok (.if_icmp .ge 29, 3) := by decide +kernel
theorem dX5_notGone_12 : decode cX5_notGone 12 = .ok (.aload_n 0, 1) := by decide +kernel
theorem dX5_notGone_13 : decode cX5_notGone 13 = .ok (.iload_n 2, 1) := by decide +kernel
theorem dX5_notGone_14 : decode cX5_notGone 14 = .ok (.invokevirtual 75, 3) := by decide +kernel
theorem dX5_notGone_17 : decode cX5_notGone 17 = .ok (.astore_n 3, 1) := by decide +kernel
theorem dX5_notGone_18 : decode cX5_notGone 18 = .ok (.aload_n 3, 1) := by decide +kernel
theorem dX5_notGone_19 : decode cX5_notGone 19 = .ok (.ifnull 13, 3) := by decide +kernel
theorem dX5_notGone_22 : decode cX5_notGone 22 = .ok (.aload_n 3, 1) := by decide +kernel
theorem dX5_notGone_23 : decode cX5_notGone 23 = .ok (.getfield 79, 3) := by decide +kernel
theorem dX5_notGone_26 : decode cX5_notGone 26 = .ok (.ifCond .ne 6, 3) := by decide +kernel
theorem dX5_notGone_29 : decode cX5_notGone 29 = .ok (.iinc 1 1, 3) := by decide +kernel
theorem dX5_notGone_32 : decode cX5_notGone 32 = .ok (.iinc 2 1, 3) := by decide +kernel
theorem dX5_notGone_35 : decode cX5_notGone 35 = .ok (.goto (-31), 3) := by decide +kernel
theorem dX5_notGone_38 : decode cX5_notGone 38 = .ok (.iload_n 1, 1) := by decide +kernel
theorem dX5_notGone_39 : decode cX5_notGone 39 = .ok (.ireturn, 1) := by decide +kernel
theorem dX5_failed_0 : decode cX5_failed 0 = .ok (.aload_n 0, 1) := by decide +kernel
theorem dX5_failed_1 : decode cX5_failed 1 = .ok (.dup, 1) := by decide +kernel
theorem dX5_failed_2 : decode cX5_failed 2 = .ok (.getfield 43, 3) := by decide +kernel
theorem dX5_failed_5 : decode cX5_failed 5 = .ok (.iconst 1, 1) := by decide +kernel
theorem dX5_failed_6 : decode cX5_failed 6 = .ok (.iadd, 1) := by decide +kernel
theorem dX5_failed_7 : decode cX5_failed 7 = .ok (.putfield 43, 3) := by decide +kernel
theorem dX5_failed_10 : decode cX5_failed 10 = .ok (.aload_n 0, 1) := by decide +kernel
theorem dX5_failed_11 : decode cX5_failed 11 = .ok (.iload_n 2, 1) := by decide +kernel
theorem dX5_failed_12 : decode cX5_failed 12 = .ok (.putfield 46, 3) := by decide +kernel
theorem dX5_failed_15 : decode cX5_failed 15 = .ok (.bipush (-10), 2) := by decide +kernel
theorem dX5_failed_17 : decode cX5_failed 17 = .ok (.iload_n 1, 1) := by decide +kernel
theorem dX5_failed_18 : decode cX5_failed 18 = .ok (.isub, 1) := by decide +kernel
theorem dX5_failed_19 : decode cX5_failed 19 = .ok (.ireturn, 1) := by decide +kernel
theorem dX5_madeOfZeros_0 : decode cX5_madeOfZeros 0 = .ok (.iconst 0, 1) := by decide +kernel
theorem dX5_madeOfZeros_1 : decode cX5_madeOfZeros 1 = .ok (.istore_n 2, 1) := by decide +kernel
theorem dX5_madeOfZeros_2 : decode cX5_madeOfZeros 2 = .ok (.iload_n 2, 1) := by decide +kernel
theorem dX5_madeOfZeros_3 : decode cX5_madeOfZeros 3 = .ok (.aload_n 0, 1) := by decide +kernel
theorem dX5_madeOfZeros_4 : decode cX5_madeOfZeros 4 = .ok (.getfield 29, 3) := by decide +kernel
theorem dX5_madeOfZeros_7 : decode cX5_madeOfZeros 7 = .ok (.arraylength, 1) := by decide +kernel
theorem dX5_madeOfZeros_8 : decode cX5_madeOfZeros 8 = .ok (.if_icmp .ge 16, 3) := by decide +kernel
theorem dX5_madeOfZeros_11 : decode cX5_madeOfZeros 11 = .ok (.aload_n 0, 1) := by decide +kernel
theorem dX5_madeOfZeros_12 : decode cX5_madeOfZeros 12 = .ok (.getfield 29, 3) := by decide +kernel
theorem dX5_madeOfZeros_15 : decode cX5_madeOfZeros 15 = .ok (.iload_n 2, 1) := by decide +kernel
theorem dX5_madeOfZeros_16 : decode cX5_madeOfZeros 16 = .ok (.lconst 0, 1) := by decide +kernel
theorem dX5_madeOfZeros_17 : decode cX5_madeOfZeros 17 = .ok (.lastore, 1) := by decide +kernel
theorem dX5_madeOfZeros_18 : decode cX5_madeOfZeros 18 = .ok (.iinc 2 1, 3) := by decide +kernel
theorem dX5_madeOfZeros_21 : decode cX5_madeOfZeros 21 = .ok (.goto (-19), 3) := by decide +kernel
theorem dX5_madeOfZeros_24 : decode cX5_madeOfZeros 24 = .ok (.aload_n 0, 1) := by decide +kernel
theorem dX5_madeOfZeros_25 : decode cX5_madeOfZeros 25 = .ok (.iload_n 1, 1) := by decide +kernel
theorem dX5_madeOfZeros_26 : decode cX5_madeOfZeros 26 = .ok (.invokevirtual 133, 3) := by decide +kernel
theorem dX5_madeOfZeros_29 : decode cX5_madeOfZeros 29 = .ok (.ireturn, 1) := by decide +kernel
theorem dX5_madeOfRow_0 : decode cX5_madeOfRow 0 = .ok (.aload_n 0, 1) := by decide +kernel
theorem dX5_madeOfRow_1 : decode cX5_madeOfRow 1 = .ok (.getfield 25, 3) := by decide +kernel
theorem dX5_madeOfRow_4 : decode cX5_madeOfRow 4 = .ok (.invokevirtual 71, 3) := by decide +kernel
theorem dX5_madeOfRow_7 : decode cX5_madeOfRow 7 = .ok (.istore_n 2, 1) := by decide +kernel
theorem dX5_madeOfRow_8 : decode cX5_madeOfRow 8 = .ok (.aload_n 0, 1) := by decide +kernel
theorem dX5_madeOfRow_9 : decode cX5_madeOfRow 9 = .ok (.getfield 33, 3) := by decide +kernel
theorem dX5_madeOfRow_12 : decode cX5_madeOfRow 12 = .ok (.ifCond .lt 28, 3) := by decide +kernel
theorem dX5_madeOfRow_15 : decode cX5_madeOfRow 15 = .ok (.aload_n 0, 1) := by decide +kernel
theorem dX5_madeOfRow_16 : decode cX5_madeOfRow 16 = .ok (.getfield 33, 3) := by decide +kernel
theorem dX5_madeOfRow_19 : decode cX5_madeOfRow 19 = .ok (.aload_n 0, 1) := by decide +kernel
theorem dX5_madeOfRow_20 : decode cX5_madeOfRow 20 = .ok (.getfield 11, 3) := by decide +kernel
theorem dX5_madeOfRow_23 : decode cX5_madeOfRow 23 = .ok (.arraylength, 1) := by decide +kernel
theorem dX5_madeOfRow_24 : decode cX5_madeOfRow 24 = .ok (.if_icmp .ge 16, 3) := by decide +kernel
theorem dX5_madeOfRow_27 : decode cX5_madeOfRow 27 = .ok (.iload_n 2, 1) := by decide +kernel
theorem dX5_madeOfRow_28 : decode cX5_madeOfRow 28 = .ok (.ifCond .lt 12, 3) := by decide +kernel
theorem dX5_madeOfRow_31 : decode cX5_madeOfRow 31 = .ok (.iload_n 2, 1) := by decide +kernel
theorem dX5_madeOfRow_32 : decode cX5_madeOfRow 32 = .ok (.aload_n 0, 1) := by decide +kernel
theorem dX5_madeOfRow_33 : decode cX5_madeOfRow 33 = .ok (.getfield 29, 3) := by decide +kernel
theorem dX5_madeOfRow_36 : decode cX5_madeOfRow 36 = .ok (.arraylength, 1) := by decide +kernel
theorem dX5_madeOfRow_37 : decode cX5_madeOfRow 37 = .ok (.if_icmp .le 6, 3) := by decide +kernel
theorem dX5_madeOfRow_40 : decode cX5_madeOfRow 40 = .ok (.bipush (-2), 2) := by decide +kernel
theorem dX5_madeOfRow_42 : decode cX5_madeOfRow 42 = .ok (.ireturn, 1) := by decide +kernel
theorem dX5_madeOfRow_43 : decode cX5_madeOfRow 43 = .ok (.new 9, 3) := by decide +kernel
theorem dX5_madeOfRow_46 : decode cX5_madeOfRow 46 = .ok (.dup, 1) := by decide +kernel
theorem dX5_madeOfRow_47 : decode cX5_madeOfRow 47 = .ok (.iload_n 1, 1) := by decide +kernel
theorem dX5_madeOfRow_48 : decode cX5_madeOfRow 48 = .ok (.aload_n 0, 1) := by decide +kernel
theorem dX5_madeOfRow_49 : decode cX5_madeOfRow 49 = .ok (.getfield 25, 3) := by decide +kernel
theorem dX5_madeOfRow_52 : decode cX5_madeOfRow 52 = .ok (.iload_n 2, 1) := by decide +kernel
theorem dX5_madeOfRow_53 : decode cX5_madeOfRow 53 = .ok (.invokespecial 191, 3) := by decide +kernel
theorem dX5_madeOfRow_56 : decode cX5_madeOfRow 56 = .ok (.astore_n 3, 1) := by decide +kernel
theorem dX5_madeOfRow_57 : decode cX5_madeOfRow 57 = .ok (.aload_n 0, 1) := by decide +kernel
theorem dX5_madeOfRow_58 : decode cX5_madeOfRow 58 = .ok (.getfield 29, 3) := by decide +kernel
theorem dX5_madeOfRow_61 : decode cX5_madeOfRow 61 = .ok (.iconst 0, 1) := by decide +kernel
theorem dX5_madeOfRow_62 : decode cX5_madeOfRow 62 = .ok (.aload_n 3, 1) := by decide +kernel
theorem dX5_madeOfRow_63 : decode cX5_madeOfRow 63 = .ok (.getfield 158, 3) := by decide +kernel
theorem dX5_madeOfRow_66 : decode cX5_madeOfRow 66 = .ok (.iconst 0, 1) := by decide +kernel
theorem dX5_madeOfRow_67 : decode cX5_madeOfRow 67 = .ok (.iload_n 2, 1) := by decide +kernel
theorem dX5_madeOfRow_68 : decode cX5_madeOfRow 68 = .ok (.invokestatic 179, 3) := by decide +kernel
theorem dX5_madeOfRow_71 : decode cX5_madeOfRow 71 = .ok (.aload_n 0, 1) := by decide +kernel
theorem dX5_madeOfRow_72 : decode cX5_madeOfRow 72 = .ok (.getfield 11, 3) := by decide +kernel
theorem dX5_madeOfRow_75 : decode cX5_madeOfRow 75 = .ok (.aload_n 0, 1) := by decide +kernel
theorem dX5_madeOfRow_76 : decode cX5_madeOfRow 76 = .ok (.getfield 33, 3) := by decide +kernel
theorem dX5_madeOfRow_79 : decode cX5_madeOfRow 79 = .ok (.aload_n 3, 1) := by decide +kernel
theorem dX5_madeOfRow_80 : decode cX5_madeOfRow 80 = .ok (.aastore, 1) := by decide +kernel
theorem dX5_madeOfRow_81 : decode cX5_madeOfRow 81 = .ok (.aload_n 0, 1) := by decide +kernel
theorem dX5_madeOfRow_82 : decode cX5_madeOfRow 82 = .ok (.dup, 1) := by decide +kernel
theorem dX5_madeOfRow_83 : decode cX5_madeOfRow 83 = .ok (.getfield 33, 3) := by decide +kernel
theorem dX5_madeOfRow_86 : decode cX5_madeOfRow 86 = .ok (.iconst 1, 1) := by decide +kernel
theorem dX5_madeOfRow_87 : decode cX5_madeOfRow 87 = .ok (.iadd, 1) := by decide +kernel
theorem dX5_madeOfRow_88 : decode cX5_madeOfRow 88 = .ok (.putfield 33, 3) := by decide +kernel
theorem dX5_madeOfRow_91 : decode cX5_madeOfRow 91 = .ok (.aload_n 0, 1) := by decide +kernel
theorem dX5_madeOfRow_92 : decode cX5_madeOfRow 92 = .ok (.getfield 33, 3) := by decide +kernel
theorem dX5_madeOfRow_95 : decode cX5_madeOfRow 95 = .ok (.iconst 1, 1) := by decide +kernel
theorem dX5_madeOfRow_96 : decode cX5_madeOfRow 96 = .ok (.isub, 1) := by decide +kernel
theorem dX5_madeOfRow_97 : decode cX5_madeOfRow 97 = .ok (.ireturn, 1) := by decide +kernel
theorem dX5_spreadOf_0 : decode cX5_spreadOf 0 = .ok (.aload_n 0, 1) := by decide +kernel
theorem dX5_spreadOf_1 : decode cX5_spreadOf 1 = .ok (.getfield 25, 3) := by decide +kernel
theorem dX5_spreadOf_4 : decode cX5_spreadOf 4 = .ok (.aload_n 1, 1) := by decide +kernel
theorem dX5_spreadOf_5 : decode cX5_spreadOf 5 = .ok (.getfield 103, 3) := by decide +kernel
theorem dX5_spreadOf_8 : decode cX5_spreadOf 8 = .ok (.invokevirtual 154, 3) := by decide +kernel
theorem dX5_spreadOf_11 : decode cX5_spreadOf 11 = .ok (.aload_n 0, 1) := by decide +kernel
theorem dX5_spreadOf_12 : decode cX5_spreadOf 12 = .ok (.getfield 25, 3) := by decide +kernel
theorem dX5_spreadOf_15 : decode cX5_spreadOf 15 = .ok (.aload_n 2, 1) := by decide +kernel
theorem dX5_spreadOf_16 : decode cX5_spreadOf 16 = .ok (.getfield 103, 3) := by decide +kernel
theorem dX5_spreadOf_19 : decode cX5_spreadOf 19 = .ok (.invokevirtual 168, 3) := by decide +kernel
theorem dX5_spreadOf_22 : decode cX5_spreadOf 22 = .ok (.ireturn, 1) := by decide +kernel
theorem dX5_rowByAct_0 : decode cX5_rowByAct 0 = .ok (.aload_n 0, 1) := by decide +kernel
theorem dX5_rowByAct_1 : decode cX5_rowByAct 1 = .ok (.getfield 25, 3) := by decide +kernel
theorem dX5_rowByAct_4 : decode cX5_rowByAct 4 = .ok (.invokevirtual 71, 3) := by decide +kernel
theorem dX5_rowByAct_7 : decode cX5_rowByAct 7 = .ok (.istore 5, 2) := by decide +kernel
theorem dX5_rowByAct_9 : decode cX5_rowByAct 9 = .ok (.iconst 0, 1) := by decide +kernel
theorem dX5_rowByAct_10 : decode cX5_rowByAct 10 = .ok (.istore 6, 2) := by decide +kernel
theorem dX5_rowByAct_12 : decode cX5_rowByAct 12 = .ok (.iconst 0, 1) := by decide +kernel
theorem dX5_rowByAct_13 : decode cX5_rowByAct 13 = .ok (.istore 7, 2) := by decide +kernel
theorem dX5_rowByAct_15 : decode cX5_rowByAct 15 = .ok (.iload 7, 2) := by decide +kernel
theorem dX5_rowByAct_17 : decode cX5_rowByAct 17 = .ok (.iload 5, 2) := by decide +kernel
theorem dX5_rowByAct_19 : decode cX5_rowByAct 19 = .ok (.if_icmp .ge 127, 3) := by decide +kernel
theorem dX5_rowByAct_22 : decode cX5_rowByAct 22 = .ok (.iload 7, 2) := by decide +kernel
theorem dX5_rowByAct_24 : decode cX5_rowByAct 24 = .ok (.aload_n 0, 1) := by decide +kernel
theorem dX5_rowByAct_25 : decode cX5_rowByAct 25 = .ok (.getfield 29, 3) := by decide +kernel
theorem dX5_rowByAct_28 : decode cX5_rowByAct 28 = .ok (.arraylength, 1) := by decide +kernel
theorem dX5_rowByAct_29 : decode cX5_rowByAct 29 = .ok (.if_icmp .ge 117, 3) := by decide +kernel
theorem dX5_rowByAct_32 : decode cX5_rowByAct 32 = .ok (.aload_n 0, 1) := by decide +kernel
theorem dX5_rowByAct_33 : decode cX5_rowByAct 33 = .ok (.getfield 18, 3) := by decide +kernel
theorem dX5_rowByAct_36 : decode cX5_rowByAct 36 = .ok (.aload_n 3, 1) := by decide +kernel
theorem dX5_rowByAct_37 : decode cX5_rowByAct 37 = .ok (.iload 7, 2) := by decide +kernel
theorem dX5_rowByAct_39 : decode cX5_rowByAct 39 = .ok (.aload_n 0, 1) := by decide +kernel
theorem dX5_rowByAct_40 : decode cX5_rowByAct 40 = .ok (.getfield 25, 3) := by decide +kernel
theorem dX5_rowByAct_43 : decode cX5_rowByAct 43 = .ok (.invokevirtual 194, 3) := by decide +kernel
theorem dX5_rowByAct_46 : decode cX5_rowByAct 46 = .ok (.aload_n 3, 1) := by decide +kernel
theorem dX5_rowByAct_47 : decode cX5_rowByAct 47 = .ok (.getfield 86, 3) := by decide +kernel
theorem dX5_rowByAct_50 : decode cX5_rowByAct 50 = .ok (.iload_n 2, 1) := by decide +kernel
theorem dX5_rowByAct_51 : decode cX5_rowByAct 51 = .ok (.invokevirtual 161, 3) := by decide +kernel
theorem dX5_rowByAct_54 : decode cX5_rowByAct 54 = .ok (.lstore 8, 2) := by decide +kernel
theorem dX5_rowByAct_56 : decode cX5_rowByAct 56 = .ok (.aload_n 0, 1) := by decide +kernel
theorem dX5_rowByAct_57 : decode cX5_rowByAct 57 = .ok (.getfield 18, 3) := by decide +kernel
theorem dX5_rowByAct_60 : decode cX5_rowByAct 60 = .ok (.aload 4, 2) := by decide +kernel
theorem dX5_rowByAct_62 : decode cX5_rowByAct 62 = .ok (.iload 7, 2) := by decide +kernel
theorem dX5_rowByAct_64 : decode cX5_rowByAct 64 = .ok (.aload_n 0, 1) := by decide +kernel
theorem dX5_rowByAct_65 : decode cX5_rowByAct 65 = .ok (.getfield 25, 3) := by decide +kernel
theorem dX5_rowByAct_68 : decode cX5_rowByAct 68 = .ok (.invokevirtual 194, 3) := by decide +kernel
theorem dX5_rowByAct_71 : decode cX5_rowByAct 71 = .ok (.aload 4, 2) := by decide +kernel
theorem dX5_rowByAct_73 : decode cX5_rowByAct 73 = .ok (.getfield 86, 3) := by decide +kernel
theorem dX5_rowByAct_76 : decode cX5_rowByAct 76 = .ok (.iload_n 2, 1) := by decide +kernel
theorem dX5_rowByAct_77 : decode cX5_rowByAct 77 = .ok (.invokevirtual 161, 3) := by decide +kernel
theorem dX5_rowByAct_80 : decode cX5_rowByAct 80 = .ok (.lstore 10, 2) := by decide +kernel
theorem dX5_rowByAct_82 : decode cX5_rowByAct 82 = .ok (.iload_n 1, 1) := by decide +kernel
theorem dX5_rowByAct_83 : decode cX5_rowByAct 83 = .ok (.iload_n 2, 1) := by decide +kernel
theorem dX5_rowByAct_84 : decode cX5_rowByAct 84 = .ok (.lload 10, 2) := by decide +kernel
theorem dX5_rowByAct_86 : decode cX5_rowByAct 86 = .ok (.invokestatic 198, 3) := by decide +kernel
theorem dX5_rowByAct_89 : decode cX5_rowByAct 89 = .ok (.ifCond .ne 26, 3) := by decide +kernel
theorem dX5_rowByAct_92 : decode cX5_rowByAct 92 = .ok (.aload_n 0, 1) := by decide +kernel
theorem dX5_rowByAct_93 : decode cX5_rowByAct 93 = .ok (.getfield 29, 3) := by decide +kernel
theorem dX5_rowByAct_96 : decode cX5_rowByAct 96 = .ok (.iload 7, 2) := by decide +kernel
theorem dX5_rowByAct_98 : decode cX5_rowByAct 98 = .ok (.aload_n 0, 1) := by decide +kernel
theorem dX5_rowByAct_99 : decode cX5_rowByAct 99 = .ok (.getfield 18, 3) := by decide +kernel
theorem dX5_rowByAct_102 : decode cX5_rowByAct 102 = .ok (.iload_n 1, 1) := by decide +kernel
theorem dX5_rowByAct_103 : decode cX5_rowByAct 103 = .ok (.iload_n 2, 1) := by decide +kernel
theorem dX5_rowByAct_104 : decode cX5_rowByAct 104 = .ok (.lload 8, 2) := by decide +kernel
theorem dX5_rowByAct_106 : decode cX5_rowByAct 106 = .ok (.lload 10, 2) := by decide +kernel
theorem dX5_rowByAct_108 : decode cX5_rowByAct 108 = .ok (.invokevirtual 202, 3) := by decide +kernel
theorem dX5_rowByAct_111 : decode cX5_rowByAct 111 = .ok (.lastore, 1) := by decide +kernel
theorem dX5_rowByAct_112 : decode cX5_rowByAct 112 = .ok (.goto 28, 3) := by decide +kernel
theorem dX5_rowByAct_115 : decode cX5_rowByAct 115 = .ok (.aload_n 0, 1) := by decide +kernel
theorem dX5_rowByAct_116 : decode cX5_rowByAct 116 = .ok (.getfield 37, 3) := by decide +kernel
theorem dX5_rowByAct_119 : decode cX5_rowByAct 119 = .ok (.iconst 1, 1) := by decide +kernel
theorem dX5_rowByAct_120 : decode cX5_rowByAct 120 = .ok (.if_icmp .ne 17, 3) := by decide +kernel
theorem dX5_rowByAct_123 : decode cX5_rowByAct 123 = .ok (.aload_n 0, 1) := by decide +kernel
theorem dX5_rowByAct_124 : decode cX5_rowByAct 124 = .ok (.getfield 29, 3) := by decide +kernel
theorem dX5_rowByAct_127 : decode cX5_rowByAct 127 = .ok (.iload 7, 2) := by decide +kernel
theorem dX5_rowByAct_129 : decode cX5_rowByAct 129 = .ok (.lconst 0, 1) := by decide +kernel
theorem dX5_rowByAct_130 : decode cX5_rowByAct 130 = .ok (.lastore, 1) := by decide +kernel
theorem dX5_rowByAct_131 : decode cX5_rowByAct 131 = .ok (.iinc 6 1, 3) := by decide +kernel
theorem dX5_rowByAct_134 : decode cX5_rowByAct 134 = .ok (.goto 6, 3) := by decide +kernel
theorem dX5_rowByAct_137 : decode cX5_rowByAct 137 = .ok (.iload 7, 2) := by decide +kernel
theorem dX5_rowByAct_139 : decode cX5_rowByAct 139 = .ok (.ireturn, 1) := by decide +kernel
theorem dX5_rowByAct_140 : decode cX5_rowByAct 140 = .ok (.iinc 7 1, 3) := by decide +kernel
theorem dX5_rowByAct_143 : decode cX5_rowByAct 143 = .ok (.goto (-128), 3) := by decide +kernel
theorem dX5_rowByAct_146 : decode cX5_rowByAct 146 = .ok (.aload_n 0, 1) := by decide +kernel
theorem dX5_rowByAct_147 : decode cX5_rowByAct 147 = .ok (.dup, 1) := by decide +kernel
theorem dX5_rowByAct_148 : decode cX5_rowByAct 148 = .ok (.getfield 40, 3) := by decide +kernel
theorem dX5_rowByAct_151 : decode cX5_rowByAct 151 = .ok (.iload 6, 2) := by decide +kernel
theorem dX5_rowByAct_153 : decode cX5_rowByAct 153 = .ok (.iadd, 1) := by decide +kernel
theorem dX5_rowByAct_154 : decode cX5_rowByAct 154 = .ok (.putfield 40, 3) := by decide +kernel
theorem dX5_rowByAct_157 : decode cX5_rowByAct 157 = .ok (.bipush (-3), 2) := by decide +kernel
theorem dX5_rowByAct_159 : decode cX5_rowByAct 159 = .ok (.ireturn, 1) := by decide +kernel
theorem dX5_rowByMask_0 : decode cX5_rowByMask 0 = .ok (.aload_n 0, 1) := by decide +kernel
theorem dX5_rowByMask_1 : decode cX5_rowByMask 1 = .ok (.getfield 25, 3) := by decide +kernel
theorem dX5_rowByMask_4 : decode cX5_rowByMask 4 = .ok (.invokevirtual 71, 3) := by decide +kernel
theorem dX5_rowByMask_7 : decode cX5_rowByMask 7 = .ok (.istore 5, 2) := by decide +kernel
theorem dX5_rowByMask_9 : decode cX5_rowByMask 9 = .ok (.iconst 0, 1) := by decide +kernel
theorem dX5_rowByMask_10 : decode cX5_rowByMask 10 = .ok (.istore 6, 2) := by decide +kernel
theorem dX5_rowByMask_12 : decode cX5_rowByMask 12 = .ok (.iload 6, 2) := by decide +kernel
theorem dX5_rowByMask_14 : decode cX5_rowByMask 14 = .ok (.iload 5, 2) := by decide +kernel
theorem dX5_rowByMask_16 : decode cX5_rowByMask 16 = .ok (.if_icmp .ge 73, 3) := by decide +kernel
theorem dX5_rowByMask_19 : decode cX5_rowByMask 19 = .ok (.iload 6, 2) := by decide +kernel
theorem dX5_rowByMask_21 : decode cX5_rowByMask 21 = .ok (.aload_n 0, 1) := by decide +kernel
theorem dX5_rowByMask_22 : decode cX5_rowByMask 22 = .ok (.getfield 29, 3) := by decide +kernel
theorem dX5_rowByMask_25 : decode cX5_rowByMask 25 = .ok (.arraylength, 1) := by decide +kernel
theorem dX5_rowByMask_26 : decode cX5_rowByMask 26 = .ok (.if_icmp .ge 63, 3) := by decide +kernel
theorem dX5_rowByMask_29 : decode cX5_rowByMask 29 = .ok (.aload_n 2, 1) := by decide +kernel
theorem dX5_rowByMask_30 : decode cX5_rowByMask 30 = .ok (.iload 6, 2) := by decide +kernel
theorem dX5_rowByMask_32 : decode cX5_rowByMask 32 = .ok (.aload_n 0, 1) := by decide +kernel
theorem dX5_rowByMask_33 : decode cX5_rowByMask 33 = .ok (.getfield 25, 3) := by decide +kernel
theorem dX5_rowByMask_36 : decode cX5_rowByMask 36 = .ok (.invokevirtual 194, 3) := by decide +kernel
theorem dX5_rowByMask_39 : decode cX5_rowByMask 39 = .ok (.lconst 0, 1) := by decide +kernel
theorem dX5_rowByMask_40 : decode cX5_rowByMask 40 = .ok (.lcmp, 1) := by decide +kernel
theorem dX5_rowByMask_41 : decode cX5_rowByMask 41 = .ok (.ifCond .eq 7, 3) := by decide +kernel
theorem dX5_rowByMask_44 : decode cX5_rowByMask 44 = .ok (.aload_n 3, 1) := by decide +kernel
theorem dX5_rowByMask_45 : decode cX5_rowByMask 45 = .ok (.goto 5, 3) := by decide +kernel
theorem dX5_rowByMask_48 : decode cX5_rowByMask 48 = .ok (.aload 4, 2) := by decide +kernel
theorem dX5_rowByMask_50 : decode cX5_rowByMask 50 = .ok (.astore 7, 2) := by decide +kernel
theorem dX5_rowByMask_52 : decode cX5_rowByMask 52 = .ok (.aload_n 0, 1) := by decide +kernel
theorem dX5_rowByMask_53 : decode cX5_rowByMask 53 = .ok (.getfield 29, 3) := by decide +kernel
theorem dX5_rowByMask_56 : decode cX5_rowByMask 56 = .ok (.iload 6, 2) := by decide +kernel
theorem dX5_rowByMask_58 : decode cX5_rowByMask 58 = .ok (.aload_n 0, 1) := by decide +kernel
theorem dX5_rowByMask_59 : decode cX5_rowByMask 59 = .ok (.getfield 18, 3) := by decide +kernel
theorem dX5_rowByMask_62 : decode cX5_rowByMask 62 = .ok (.aload 7, 2) := by decide +kernel
theorem dX5_rowByMask_64 : decode cX5_rowByMask 64 = .ok (.iload 6, 2) := by decide +kernel
theorem dX5_rowByMask_66 : decode cX5_rowByMask 66 = .ok (.aload_n 0, 1) := by decide +kernel
theorem dX5_rowByMask_67 : decode cX5_rowByMask 67 = .ok (.getfield 25, 3) := by decide +kernel
theorem dX5_rowByMask_70 : decode cX5_rowByMask 70 = .ok (.invokevirtual 194, 3) := by decide +kernel
theorem dX5_rowByMask_73 : decode cX5_rowByMask 73 = .ok (.aload 7, 2) := by decide +kernel
theorem dX5_rowByMask_75 : decode cX5_rowByMask 75 = .ok (.getfield 86, 3) := by decide +kernel
theorem dX5_rowByMask_78 : decode cX5_rowByMask 78 = .ok (.iload_n 1, 1) := by decide +kernel
theorem dX5_rowByMask_79 : decode cX5_rowByMask 79 = .ok (.invokevirtual 161, 3) := by decide +kernel
theorem dX5_rowByMask_82 : decode cX5_rowByMask 82 = .ok (.lastore, 1) := by decide +kernel
theorem dX5_rowByMask_83 : decode cX5_rowByMask 83 = .ok (.iinc 6 1, 3) := by decide +kernel
theorem dX5_rowByMask_86 : decode cX5_rowByMask 86 = .ok (.goto (-74), 3) := by decide +kernel
theorem dX5_rowByMask_89 : decode cX5_rowByMask 89 = .ok (.return_, 1) := by decide +kernel
theorem dX5_moveRowInto_0 : decode cX5_moveRowInto 0 = .ok (.iconst 0, 1) := by decide +kernel
theorem dX5_moveRowInto_1 : decode cX5_moveRowInto 1 = .ok (.istore_n 3, 1) := by decide +kernel
theorem dX5_moveRowInto_2 : decode cX5_moveRowInto 2 = .ok (.iload_n 3, 1) := by decide +kernel
theorem dX5_moveRowInto_3 : decode cX5_moveRowInto 3 = .ok (.aload_n 1, 1) := by decide +kernel
theorem dX5_moveRowInto_4 : decode cX5_moveRowInto 4 = .ok (.getfield 158, 3) := by decide +kernel
theorem dX5_moveRowInto_7 : decode cX5_moveRowInto 7 = .ok (.arraylength, 1) := by decide +kernel
theorem dX5_moveRowInto_8 : decode cX5_moveRowInto 8 = .ok (.if_icmp .ge 41, 3) := by decide +kernel
theorem dX5_moveRowInto_11 : decode cX5_moveRowInto 11 = .ok (.iload_n 3, 1) := by decide +kernel
theorem dX5_moveRowInto_12 : decode cX5_moveRowInto 12 = .ok (.aload_n 0, 1) := by decide +kernel
theorem dX5_moveRowInto_13 : decode cX5_moveRowInto 13 = .ok (.getfield 29, 3) := by decide +kernel
theorem dX5_moveRowInto_16 : decode cX5_moveRowInto 16 = .ok (.arraylength, 1) := by decide +kernel
theorem dX5_moveRowInto_17 : decode cX5_moveRowInto 17 = .ok (.if_icmp .ge 32, 3) := by decide +kernel
theorem dX5_moveRowInto_20 : decode cX5_moveRowInto 20 = .ok (.aload_n 1, 1) := by decide +kernel
theorem dX5_moveRowInto_21 : decode cX5_moveRowInto 21 = .ok (.iload_n 3, 1) := by decide +kernel
theorem dX5_moveRowInto_22 : decode cX5_moveRowInto 22 = .ok (.aload_n 0, 1) := by decide +kernel
theorem dX5_moveRowInto_23 : decode cX5_moveRowInto 23 = .ok (.getfield 18, 3) := by decide +kernel
theorem dX5_moveRowInto_26 : decode cX5_moveRowInto 26 = .ok (.aload_n 0, 1) := by decide +kernel
theorem dX5_moveRowInto_27 : decode cX5_moveRowInto 27 = .ok (.getfield 29, 3) := by decide +kernel
theorem dX5_moveRowInto_30 : decode cX5_moveRowInto 30 = .ok (.iload_n 3, 1) := by decide +kernel
theorem dX5_moveRowInto_31 : decode cX5_moveRowInto 31 = .ok (.laload, 1) := by decide +kernel
theorem dX5_moveRowInto_32 : decode cX5_moveRowInto 32 = .ok (.iload_n 2, 1) := by decide +kernel
theorem dX5_moveRowInto_33 : decode cX5_moveRowInto 33 = .ok (.aload_n 1, 1) := by decide +kernel
theorem dX5_moveRowInto_34 : decode cX5_moveRowInto 34 = .ok (.getfield 86, 3) := by decide +kernel
theorem dX5_moveRowInto_37 : decode cX5_moveRowInto 37 = .ok (.invokevirtual 161, 3) := by decide +kernel
theorem dX5_moveRowInto_40 : decode cX5_moveRowInto 40 = .ok (.invokevirtual 93, 3) := by decide +kernel
theorem dX5_moveRowInto_43 : decode cX5_moveRowInto 43 = .ok (.iinc 3 1, 3) := by decide +kernel
theorem dX5_moveRowInto_46 : decode cX5_moveRowInto 46 = .ok (.goto (-44), 3) := by decide +kernel
theorem dX5_moveRowInto_49 : decode cX5_moveRowInto 49 = .ok (.return_, 1) := by decide +kernel
