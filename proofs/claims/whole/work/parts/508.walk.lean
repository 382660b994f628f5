theorem dX12_behindNone_0 : decode cX12_behindNone 0 = .ok (.aload_n 0, 1) := by decide +kernel
theorem dX12_behindNone_1 : decode cX12_behindNone 1 = .ok (.invokevirtual 407, 3) := by decide +kernel
theorem dX12_behindNone_4 : decode cX12_behindNone 4 = .ok (.iconst 0, 1) := by decide +kernel
theorem dX12_behindNone_5 : decode cX12_behindNone 5 = .ok (.istore_n 2, 1) := by decide +kernel
theorem dX12_behindNone_6 : decode cX12_behindNone 6 = .ok (.iload_n 2, 1) := by decide +kernel
theorem dX12_behindNone_7 : decode cX12_behindNone 7 = .ok (.sipush 200, 3) := by decide +kernel
theorem dX12_behindNone_10 : decode cX12_behindNone 10 = .ok (.if_icmp .gt 24, 3) := by decide +kernel
theorem dX12_behindNone_13 : decode cX12_behindNone 13 = .ok (.aload_n 0, 1) := by decide +kernel
theorem dX12_behindNone_14 : decode cX12_behindNone 14 = .ok (.getfield 113, 3) := by decide +kernel
theorem dX12_behindNone_17 : decode cX12_behindNone 17 = .ok (.iload_n 1, 1) := by decide +kernel
theorem dX12_behindNone_18 : decode cX12_behindNone 18 = .ok (.iaload, 1) := by decide +kernel
theorem dX12_behindNone_19 : decode cX12_behindNone 19 = .ok (.ifCond .ne 5, 3) := by decide +kernel
theorem dX12_behindNone_22 : decode cX12_behindNone 22 = .ok (.iload_n 2, 1) := by decide +kernel
theorem dX12_behindNone_23 : decode cX12_behindNone 23 = .ok (.ireturn, 1) := by decide +kernel
theorem dX12_behindNone_24 : decode cX12_behindNone 24 = .ok (.aload_n 0, 1) := by decide +kernel
theorem dX12_behindNone_25 : decode cX12_behindNone 25 = .ok (.invokevirtual 368, 3) := by decide +kernel
theorem dX12_behindNone_28 : decode cX12_behindNone 28 = .ok (.iinc 2 1, 3) := by decide +kernel
theorem dX12_behindNone_31 : decode cX12_behindNone 31 = .ok (.goto (-25), 3) := by decide +kernel
theorem dX12_behindNone_34 : decode cX12_behindNone 34 = .ok (.bipush (-2), 2) := by decide +kernel
theorem dX12_behindNone_36 : decode cX12_behindNone 36 = .ok (.ireturn, 1) := by decide +kernel
theorem dX12_bits_0 : decode cX12_bits 0 = .ok (.iconst 0, 1) := by decide +kernel
theorem dX12_bits_1 : decode cX12_bits 1 = .ok (.istore_n 1, 1) := by decide +kernel
theorem dX12_bits_2 : decode cX12_bits 2 = .ok (.iconst 0, 1) := by decide +kernel
theorem dX12_bits_3 : decode cX12_bits 3 = .ok (.istore_n 2, 1) := by decide +kernel
theorem dX12_bits_4 : decode cX12_bits 4 = .ok (.iload_n 2, 1) := by decide +kernel
theorem dX12_bits_5 : decode cX12_bits 5 = .ok (.bipush 6, 2) := by decide +kernel
theorem dX12_bits_7 : decode cX12_bits 7 = .ok (.if_icmp .ge 17, 3) := by decide +kernel
theorem dX12_bits_10 : decode cX12_bits 10 = .ok (.iload_n 1, 1) := by decide +kernel
theorem dX12_bits_11 : decode cX12_bits 11 = .ok (.iload_n 0, 1) := by decide +kernel
theorem dX12_bits_12 : decode cX12_bits 12 = .ok (.iload_n 2, 1) := by decide +kernel
theorem dX12_bits_13 : decode cX12_bits 13 = .ok (.ishr, 1) := by decide +kernel
theorem dX12_bits_14 : decode cX12_bits 14 = .ok (.iconst 1, 1) := by decide +kernel
theorem dX12_bits_15 : decode cX12_bits 15 = .ok (.iand, 1) := by decide +kernel
theorem dX12_bits_16 : decode cX12_bits 16 = .ok (.iadd, 1) := by decide +kernel
theorem dX12_bits_17 : decode cX12_bits 17 = .ok (.istore_n 1, 1) := by decide +kernel
theorem dX12_bits_18 : decode cX12_bits 18 = .ok (.iinc 2 1, 3) := by decide +kernel
theorem dX12_bits_21 : decode cX12_bits 21 = .ok (.goto (-17), 3) := by decide +kernel
theorem dX12_bits_24 : decode cX12_bits 24 = .ok (.iload_n 1, 1) := by decide +kernel
theorem dX12_bits_25 : decode cX12_bits 25 = .ok (.ireturn, 1) := by decide +kernel
theorem dX12_is_0 : decode cX12_is 0 = .ok (.aload_n 0, 1) := by decide +kernel
theorem dX12_is_1 : decode cX12_is 1 = .ok (.getfield 215, 3) := by decide +kernel
theorem dX12_is_4 : decode cX12_is 4 = .ok (.ifCond .ne 20, 3) := by decide +kernel
theorem dX12_is_7 : decode cX12_is 7 = .ok (.aload_n 0, 1) := by decide +kernel
theorem dX12_is_8 : decode cX12_is 8 = .ok (.getfield 20, 3) := by decide +kernel
theorem dX12_is_11 : decode cX12_is 11 = .ok (.aload_n 0, 1) := by decide +kernel
theorem dX12_is_12 : decode cX12_is 12 = .ok (.getfield 218, 3) := by decide +kernel
theorem dX12_is_15 : decode cX12_is 15 = .ok (.iaload, 1) := by decide +kernel
theorem dX12_is_16 : decode cX12_is 16 = .ok (.iload_n 1, 1) := by decide +kernel
theorem dX12_is_17 : decode cX12_is 17 = .ok (.if_icmp .ne 7, 3) := by decide +kernel
theorem dX12_is_20 : decode cX12_is 20 = .ok (.iconst 1, 1) := by decide +kernel
theorem dX12_is_21 : decode cX12_is 21 = .ok (.goto 4, 3) := by decide +kernel
theorem dX12_is_24 : decode cX12_is 24 = .ok (.iconst 0, 1) := by decide +kernel
theorem dX12_is_25 : decode cX12_is 25 = .ok (.ireturn, 1) := by decide +kernel
theorem dX12_fail_0 : decode cX12_fail 0 = .ok (.aload_n 0, 1) := by decide +kernel
theorem dX12_fail_1 : decode cX12_fail 1 = .ok (.getfield 215, 3) := by decide +kernel
theorem dX12_fail_4 : decode cX12_fail 4 = .ok (.ifCond .le 4, 3) := by decide +kernel
theorem dX12_fail_7 : decode cX12_fail 7 = .ok (.return_, 1) := by decide +kernel
theorem dX12_fail_8 : decode cX12_fail 8 = .ok (.aload_n 0, 1) := by decide +kernel
theorem dX12_fail_9 : decode cX12_fail 9 = .ok (.iload_n 1, 1) := by decide +kernel
theorem dX12_fail_10 : decode cX12_fail 10 = .ok (.putfield 215, 3) := by decide +kernel
theorem dX12_fail_13 : decode cX12_fail 13 = .ok (.aload_n 0, 1) := by decide +kernel
theorem dX12_fail_14 : decode cX12_fail 14 = .ok (.aload_n 0, 1) := by decide +kernel
theorem dX12_fail_15 : decode cX12_fail 15 = .ok (.getfield 24, 3) := by decide +kernel
theorem dX12_fail_18 : decode cX12_fail 18 = .ok (.aload_n 0, 1) := by decide +kernel
theorem dX12_fail_19 : decode cX12_fail 19 = .ok (.getfield 218, 3) := by decide +kernel
theorem dX12_fail_22 : decode cX12_fail 22 = .ok (.iaload, 1) := by decide +kernel
theorem dX12_fail_23 : decode cX12_fail 23 = .ok (.putfield 221, 3) := by decide +kernel
theorem dX12_fail_26 : decode cX12_fail 26 = .ok (.return_, 1) := by decide +kernel
theorem dX12_wrong_0 : decode cX12_wrong 0 = .ok (.aload_n 0, 1) := by decide +kernel
theorem dX12_wrong_1 : decode cX12_wrong 1 = .ok (.getfield 24, 3) := by decide +kernel
theorem dX12_wrong_4 : decode cX12_wrong 4 = .ok (.iload_n 2, 1) := by decide +kernel
theorem dX12_wrong_5 : decode cX12_wrong 5 = .ok (.iaload, 1) := by decide +kernel
theorem dX12_wrong_6 : decode cX12_wrong 6 = .ok (.istore_n 3, 1) := by decide +kernel
theorem dX12_wrong_7 : decode cX12_wrong 7 = .ok (.aload_n 0, 1) := by decide +kernel
theorem dX12_wrong_8 : decode cX12_wrong 8 = .ok (.getfield 215, 3) := by decide +kernel
theorem dX12_wrong_11 : decode cX12_wrong 11 = .ok (.ifCond .gt 34, 3) := by decide +kernel
theorem dX12_wrong_14 : decode cX12_wrong 14 = .ok (.aload_n 0, 1) := by decide +kernel
theorem dX12_wrong_15 : decode cX12_wrong 15 = .ok (.getfield 224, 3) := by decide +kernel
theorem dX12_wrong_18 : decode cX12_wrong 18 = .ok (.ifCond .eq 28, 3) := by decide +kernel
theorem dX12_wrong_21 : decode cX12_wrong 21 = .ok (.iload_n 3, 1) := by decide +kernel
theorem dX12_wrong_22 : decode cX12_wrong 22 = .ok (.aload_n 0, 1) := by decide +kernel
theorem dX12_wrong_23 : decode cX12_wrong 23 = .ok (.getfield 227, 3) := by decide +kernel
theorem dX12_wrong_26 : decode cX12_wrong 26 = .ok (.if_icmp .gt 19, 3) := by decide +kernel
theorem dX12_wrong_29 : decode cX12_wrong 29 = .ok (.iload_n 3, 1) := by decide +kernel
theorem dX12_wrong_30 : decode cX12_wrong 30 = .ok (.aload_n 0, 1) := by decide +kernel
theorem dX12_wrong_31 : decode cX12_wrong 31 = .ok (.getfield 227, 3) := by decide +kernel
theorem dX12_wrong_34 : decode cX12_wrong 34 = .ok (.if_icmp .ne 12, 3) := by decide +kernel
theorem dX12_wrong_37 : decode cX12_wrong 37 = .ok (.iload_n 1, 1) := by decide +kernel
theorem dX12_wrong_38 : decode cX12_wrong 38 = .ok (.aload_n 0, 1) := by decide +kernel
theorem dX12_wrong_39 : decode cX12_wrong 39 = .ok (.getfield 224, 3) := by decide +kernel
theorem dX12_wrong_42 : decode cX12_wrong 42 = .ok (.if_icmp .lt 4, 3) := by decide +kernel
theorem dX12_wrong_45 : decode cX12_wrong 45 = .ok (.return_, 1) := by decide +kernel
theorem dX12_wrong_46 : decode cX12_wrong 46 = .ok (.aload_n 0, 1) := by decide +kernel
theorem dX12_wrong_47 : decode cX12_wrong 47 = .ok (.iload_n 1, 1) := by decide +kernel
theorem dX12_wrong_48 : decode cX12_wrong 48 = .ok (.putfield 224, 3) := by decide +kernel
theorem dX12_wrong_51 : decode cX12_wrong 51 = .ok (.aload_n 0, 1) := by decide +kernel
theorem dX12_wrong_52 : decode cX12_wrong 52 = .ok (.iload_n 3, 1) := by decide +kernel
theorem dX12_wrong_53 : decode cX12_wrong 53 = .ok (.putfield 227, 3) := by decide +kernel
theorem dX12_wrong_56 : decode cX12_wrong 56 = .ok (.return_, 1) := by decide +kernel
theorem dX12_goesOn_0 : decode cX12_goesOn 0 = .ok (.aload_n 0, 1) := by decide +kernel
theorem dX12_goesOn_1 : decode cX12_goesOn 1 = .ok (.getfield 218, 3) := by decide +kernel
theorem dX12_goesOn_4 : decode cX12_goesOn 4 = .ok (.sipush 400, 3) := by decide +kernel
theorem dX12_goesOn_7 : decode cX12_goesOn 7 = .ok (.if_icmp .ne 11, 3) := by decide +kernel
theorem dX12_goesOn_10 : decode cX12_goesOn 10 = .ok (.aload_n 0, 1) := by decide +kernel
theorem dX12_goesOn_11 : decode cX12_goesOn 11 = .ok (.iconst 2, 1) := by decide +kernel
theorem dX12_goesOn_12 : decode cX12_goesOn 12 = .ok (.invokevirtual 230, 3) := by decide +kernel
theorem dX12_goesOn_15 : decode cX12_goesOn 15 = .ok (.goto 13, 3) := by decide +kernel
theorem dX12_goesOn_18 : decode cX12_goesOn 18 = .ok (.aload_n 0, 1) := by decide +kernel
theorem dX12_goesOn_19 : decode cX12_goesOn 19 = .ok (.dup, 1) := by decide +kernel
theorem dX12_goesOn_20 : decode cX12_goesOn 20 = .ok (.getfield 218, 3) := by decide +kernel
theorem dX12_goesOn_23 : decode cX12_goesOn 23 = .ok (.iconst 1, 1) := by decide +kernel
theorem dX12_goesOn_24 : decode cX12_goesOn 24 = .ok (.iadd, 1) := by decide +kernel
theorem dX12_goesOn_25 : decode cX12_goesOn 25 = .ok (.putfield 218, 3) := by decide +kernel
theorem dX12_goesOn_28 : decode cX12_goesOn 28 = .ok (.return_, 1) := by decide +kernel
theorem dX12_bounded_0 : decode cX12_bounded 0 = .ok (.aload_n 0, 1) := by decide +kernel
theorem dX12_bounded_1 : decode cX12_bounded 1 = .ok (.getfield 215, 3) := by decide +kernel
theorem dX12_bounded_4 : decode cX12_bounded 4 = .ok (.ifCond .gt 11, 3) := by decide +kernel
theorem dX12_bounded_7 : decode cX12_bounded 7 = .ok (.aload_n 0, 1) := by decide +kernel
theorem dX12_bounded_8 : decode cX12_bounded 8 = .ok (.iconst 2, 1) := by decide +kernel
theorem dX12_bounded_9 : decode cX12_bounded 9 = .ok (.invokevirtual 233, 3) := by decide +kernel
theorem dX12_bounded_12 : decode cX12_bounded 12 = .ok (.ifCond .ne 10, 3) := by decide +kernel
theorem dX12_bounded_15 : decode cX12_bounded 15 = .ok (.aload_n 0, 1) := by decide +kernel
theorem dX12_bounded_16 : decode cX12_bounded 16 = .ok (.iconst 1, 1) := by decide +kernel
theorem dX12_bounded_17 : decode cX12_bounded 17 = .ok (.invokevirtual 230, 3) := by decide +kernel
theorem dX12_bounded_20 : decode cX12_bounded 20 = .ok (.iload_n 1, 1) := by decide +kernel
theorem dX12_bounded_21 : decode cX12_bounded 21 = .ok (.ireturn, 1) := by decide +kernel
theorem dX12_bounded_22 : decode cX12_bounded 22 = .ok (.aload_n 0, 1) := by decide +kernel
theorem dX12_bounded_23 : decode cX12_bounded 23 = .ok (.getfield 27, 3) := by decide +kernel
theorem dX12_bounded_26 : decode cX12_bounded 26 = .ok (.aload_n 0, 1) := by decide +kernel
theorem dX12_bounded_27 : decode cX12_bounded 27 = .ok (.getfield 218, 3) := by decide +kernel
theorem dX12_bounded_30 : decode cX12_bounded 30 = .ok (.iaload, 1) := by decide +kernel
theorem dX12_bounded_31 : decode cX12_bounded 31 = .ok (.istore_n 3, 1) := by decide +kernel
theorem dX12_bounded_32 : decode cX12_bounded 32 = .ok (.iload_n 3, 1) := by decide +kernel
theorem dX12_bounded_33 : decode cX12_bounded 33 = .ok (.iload_n 1, 1) := by decide +kernel
theorem dX12_bounded_34 : decode cX12_bounded 34 = .ok (.if_icmp .lt 8, 3) := by decide +kernel
theorem dX12_bounded_37 : decode cX12_bounded 37 = .ok (.iload_n 3, 1) := by decide +kernel
theorem dX12_bounded_38 : decode cX12_bounded 38 = .ok (.iload_n 2, 1) := by decide +kernel
theorem dX12_bounded_39 : decode cX12_bounded 39 = .ok (.if_icmp .le 12, 3) := by decide +kernel
theorem dX12_bounded_42 : decode cX12_bounded 42 = .ok (.aload_n 0, 1) := by decide +kernel
theorem dX12_bounded_43 : decode cX12_bounded 43 = .ok (.iconst 5, 1) := by decide +kernel
theorem dX12_bounded_44 : decode cX12_bounded 44 = .ok (.aload_n 0, 1) := by decide +kernel
theorem dX12_bounded_45 : decode cX12_bounded 45 = .ok (.getfield 218, 3) := by decide +kernel
theorem dX12_bounded_48 : decode cX12_bounded 48 = .ok (.invokevirtual 282, 3) := by decide +kernel
theorem dX12_bounded_51 : decode cX12_bounded 51 = .ok (.aload_n 0, 1) := by decide +kernel
theorem dX12_bounded_52 : decode cX12_bounded 52 = .ok (.invokevirtual 236, 3) := by decide +kernel
theorem dX12_bounded_55 : decode cX12_bounded 55 = .ok (.iload_n 3, 1) := by decide +kernel
theorem dX12_bounded_56 : decode cX12_bounded 56 = .ok (.ireturn, 1) := by decide +kernel
theorem dX12_in_0 : decode cX12_in 0 = .ok (.iload_n 0, 1) := by decide +kernel
theorem dX12_in_1 : decode cX12_in 1 = .ok (.iload_n 1, 1) := by decide +kernel
theorem dX12_in_2 : decode cX12_in 2 = .ok (.if_icmp .lt 12, 3) := by decide +kernel
theorem dX12_in_5 : decode cX12_in 5 = .ok (.iload_n 0, 1) := by decide +kernel
theorem dX12_in_6 : decode cX12_in 6 = .ok (.iload_n 2, 1) := by decide +kernel
theorem dX12_in_7 : decode cX12_in 7 = .ok (.if_icmp .gt 7, 3) := by decide +kernel
theorem dX12_in_10 : decode cX12_in 10 = .ok (.iconst 1, 1) := by decide +kernel
theorem dX12_in_11 : decode cX12_in 11 = .ok (.goto 4, 3) := by decide +kernel
theorem dX12_in_14 : decode cX12_in 14 = .ok (.iconst 0, 1) := by decide +kernel
theorem dX12_in_15 : decode cX12_in 15 = .ok (.ireturn, 1) := by decide +kernel
theorem dX12_keepsRow_0 : decode cX12_keepsRow 0 = .ok (.iconst 0, 1) := by decide +kernel
theorem dX12_keepsRow_1 : decode cX12_keepsRow 1 = .ok (.istore_n 1, 1) := by decide +kernel
theorem dX12_keepsRow_2 : decode cX12_keepsRow 2 = .ok (.iload_n 1, 1) := by decide +kernel
theorem dX12_keepsRow_3 : decode cX12_keepsRow 3 = .ok (.bipush 39, 2) := by decide +kernel
theorem dX12_keepsRow_5 : decode cX12_keepsRow 5 = .ok (.if_icmp .ge 21, 3) := by decide +kernel
theorem dX12_keepsRow_8 : decode cX12_keepsRow 8 = .ok (.aload_n 0, 1) := by decide +kernel
theorem dX12_keepsRow_9 : decode cX12_keepsRow 9 = .ok (.getfield 110, 3) := by decide +kernel
theorem dX12_keepsRow_12 : decode cX12_keepsRow 12 = .ok (.iload_n 1, 1) := by decide +kernel
theorem dX12_keepsRow_13 : decode cX12_keepsRow 13 = .ok (.aload_n 0, 1) := by decide +kernel
theorem dX12_keepsRow_14 : decode cX12_keepsRow 14 = .ok (.getfield 113, 3) := by decide +kernel
theorem dX12_keepsRow_17 : decode cX12_keepsRow 17 = .ok (.iload_n 1, 1) := by decide +kernel
theorem dX12_keepsRow_18 : decode cX12_keepsRow 18 = .ok (.iaload, 1) := by decide +kernel
theorem dX12_keepsRow_19 : decode cX12_keepsRow 19 = .ok (.iastore, 1) := by decide +kernel
theorem dX12_keepsRow_20 : decode cX12_keepsRow 20 = .ok (.iinc 1 1, 3) := by decide +kernel
theorem dX12_keepsRow_23 : decode cX12_keepsRow 23 = .ok (.goto (-21), 3) := by decide +kernel
theorem dX12_keepsRow_26 : decode cX12_keepsRow 26 = .ok (.return_, 1) := by decide +kernel
theorem dX12_records_0 : decode cX12_records 0 = .ok (.aload_n 0, 1) := by decide +kernel
theorem dX12_records_1 : decode cX12_records 1 = .ok (.getfield 260, 3) := by decide +kernel
theorem dX12_records_4 : decode cX12_records 4 = .ok (.bipush 40, 2) := by decide +kernel
theorem dX12_records_6 : decode cX12_records 6 = .ok (.if_icmp .ne 43, 3) := by decide +kernel
theorem dX12_records_9 : decode cX12_records 9 = .ok (.iconst 0, 1) := by decide +kernel
theorem dX12_records_10 : decode cX12_records 10 = .ok (.istore_n 1, 1) := by decide +kernel
theorem dX12_records_11 : decode cX12_records 11 = .ok (.iload_n 1, 1) := by decide +kernel
theorem dX12_records_12 : decode cX12_records 12 = .ok (.sipush 1521, 3) := by decide +kernel
theorem dX12_records_15 : decode cX12_records 15 = .ok (.if_icmp .ge 24, 3) := by decide +kernel
theorem dX12_records_18 : decode cX12_records 18 = .ok (.aload_n 0, 1) := by decide +kernel
theorem dX12_records_19 : decode cX12_records 19 = .ok (.getfield 122, 3) := by decide +kernel
theorem dX12_records_22 : decode cX12_records 22 = .ok (.iload_n 1, 1) := by decide +kernel
theorem dX12_records_23 : decode cX12_records 23 = .ok (.aload_n 0, 1) := by decide +kernel
theorem dX12_records_24 : decode cX12_records 24 = .ok (.getfield 122, 3) := by decide +kernel
theorem dX12_records_27 : decode cX12_records 27 = .ok (.iload_n 1, 1) := by decide +kernel
theorem dX12_records_28 : decode cX12_records 28 = .ok (.bipush 39, 2) := by decide +kernel
theorem dX12_records_30 : decode cX12_records 30 = .ok (.iadd, 1) := by decide +kernel
theorem dX12_records_31 : decode cX12_records 31 = .ok (.iaload, 1) := by decide +kernel
theorem dX12_records_32 : decode cX12_records 32 = .ok (.iastore, 1) := by decide +kernel
theorem dX12_records_33 : decode cX12_records 33 = .ok (.iinc 1 1, 3) := by decide +kernel
theorem dX12_records_36 : decode cX12_records 36 = .ok (.goto (-25), 3) := by decide +kernel
theorem dX12_records_39 : decode cX12_records 39 = .ok (.aload_n 0, 1) := by decide +kernel
theorem dX12_records_40 : decode cX12_records 40 = .ok (.dup, 1) := by decide +kernel
theorem dX12_records_41 : decode cX12_records 41 = .ok (.getfield 260, 3) := by decide +kernel
theorem dX12_records_44 : decode cX12_records 44 = .ok (.iconst 1, 1) := by decide +kernel
theorem dX12_records_45 : decode cX12_records 45 = .ok (.isub, 1) := by decide +kernel
theorem dX12_records_46 : decode cX12_records 46 = .ok (.putfield 260, 3) := by decide +kernel
theorem dX12_records_49 : decode cX12_records 49 = .ok (.iconst 0, 1) := by decide +kernel
theorem dX12_records_50 : decode cX12_records 50 = .ok (.istore_n 1, 1) := by decide +kernel
theorem dX12_records_51 : decode cX12_records 51 = .ok (.iload_n 1, 1) := by decide +kernel
theorem dX12_records_52 : decode cX12_records 52 = .ok (.bipush 39, 2) := by decide +kernel
theorem dX12_records_54 : decode cX12_records 54 = .ok (.if_icmp .ge 29, 3) := by decide +kernel
theorem dX12_records_57 : decode cX12_records 57 = .ok (.aload_n 0, 1) := by decide +kernel
theorem dX12_records_58 : decode cX12_records 58 = .ok (.getfield 122, 3) := by decide +kernel
theorem dX12_records_61 : decode cX12_records 61 = .ok (.bipush 39, 2) := by decide +kernel
theorem dX12_records_63 : decode cX12_records 63 = .ok (.aload_n 0, 1) := by decide +kernel
theorem dX12_records_64 : decode cX12_records 64 = .ok (.getfield 260, 3) := by decide +kernel
theorem dX12_records_67 : decode cX12_records 67 = .ok (.imul, 1) := by decide +kernel
theorem dX12_records_68 : decode cX12_records 68 = .ok (.iload_n 1, 1) := by decide +kernel
theorem dX12_records_69 : decode cX12_records 69 = .ok (.iadd, 1) := by decide +kernel
theorem dX12_records_70 : decode cX12_records 70 = .ok (.aload_n 0, 1) := by decide +kernel
theorem dX12_records_71 : decode cX12_records 71 = .ok (.getfield 110, 3) := by decide +kernel
theorem dX12_records_74 : decode cX12_records 74 = .ok (.iload_n 1, 1) := by decide +kernel
theorem dX12_records_75 : decode cX12_records 75 = .ok (.iaload, 1) := by decide +kernel
theorem dX12_records_76 : decode cX12_records 76 = .ok (.iastore, 1) := by decide +kernel
theorem dX12_records_77 : decode cX12_records 77 = .ok (.iinc 1 1, 3) := by decide +kernel
theorem dX12_records_80 : decode cX12_records 80 = .ok (.goto (-29), 3) := by decide +kernel
theorem dX12_records_83 : decode cX12_records 83 = .ok (.aload_n 0, 1) := by decide +kernel
theorem dX12_records_84 : decode cX12_records 84 = .ok (.dup, 1) := by decide +kernel
theorem dX12_records_85 : decode cX12_records 85 = .ok (.getfield 260, 3) := by decide +kernel
theorem dX12_records_88 : decode cX12_records 88 = .ok (.iconst 1, 1) := by decide +kernel
theorem dX12_records_89 : decode cX12_records 89 = .ok (.iadd, 1) := by decide +kernel
theorem dX12_records_90 : decode cX12_records 90 = .ok (.putfield 260, 3) := by decide +kernel
theorem dX12_records_93 : decode cX12_records 93 = .ok (.aload_n 0, 1) := by decide +kernel
theorem dX12_records_94 : decode cX12_records 94 = .ok (.invokevirtual 175, 3) := by decide +kernel
theorem dX12_records_97 : decode cX12_records 97 = .ok (.return_, 1) := by decide +kernel
theorem dX12_bring_0 : decode cX12_bring 0 = .ok (.iload_n 1, 1) := by decide +kernel
theorem dX12_bring_1 : decode cX12_bring 1 = .ok (.iconst 1, 1) := by decide +kernel
theorem dX12_bring_2 : decode cX12_bring 2 = .ok (.bipush 99, 2) := by decide +kernel
theorem dX12_bring_4 : decode cX12_bring 4 = .ok (.invokestatic 313, 3) := by decide +kernel
theorem dX12_bring_7 : decode cX12_bring 7 = .ok (.ifCond .ne 5, 3) := by decide +kernel
theorem dX12_bring_10 : decode cX12_bring 10 = .ok (.iconst (-1), 1) := by decide +kernel
theorem dX12_bring_11 : decode cX12_bring 11 = .ok (.ireturn, 1) := by decide +kernel
theorem dX12_bring_12 : decode cX12_bring 12 = .ok (.aload_n 0, 1) := by decide +kernel
theorem dX12_bring_13 : decode cX12_bring 13 = .ok (.invokevirtual 323, 3) := by decide +kernel
theorem dX12_bring_16 : decode cX12_bring 16 = .ok (.aload_n 0, 1) := by decide +kernel
theorem dX12_bring_17 : decode cX12_bring 17 = .ok (.getfield 113, 3) := by decide +kernel
theorem dX12_bring_20 : decode cX12_bring 20 = .ok (.bipush 37, 2) := by decide +kernel
theorem dX12_bring_22 : decode cX12_bring 22 = .ok (.aload_n 0, 1) := by decide +kernel
theorem dX12_bring_23 : decode cX12_bring 23 = .ok (.getfield 113, 3) := by decide +kernel
theorem dX12_bring_26 : decode cX12_bring 26 = .ok (.bipush 37, 2) := by decide +kernel
theorem dX12_bring_28 : decode cX12_bring 28 = .ok (.iaload, 1) := by decide +kernel
theorem dX12_bring_29 : decode cX12_bring 29 = .ok (.iload_n 1, 1) := by decide +kernel
theorem dX12_bring_30 : decode cX12_bring 30 = .ok (.iadd, 1) := by decide +kernel
theorem dX12_bring_31 : decode cX12_bring 31 = .ok (.iconst 0, 1) := by decide +kernel
theorem dX12_bring_32 : decode cX12_bring 32 = .ok (.sipush 9999, 3) := by decide +kernel
theorem dX12_bring_35 : decode cX12_bring 35 = .ok (.invokestatic 342, 3) := by decide +kernel
theorem dX12_bring_38 : decode cX12_bring 38 = .ok (.iastore, 1) := by decide +kernel
theorem dX12_bring_39 : decode cX12_bring 39 = .ok (.aload_n 0, 1) := by decide +kernel
theorem dX12_bring_40 : decode cX12_bring 40 = .ok (.invokevirtual 380, 3) := by decide +kernel
theorem dX12_bring_43 : decode cX12_bring 43 = .ok (.aload_n 0, 1) := by decide +kernel
theorem dX12_bring_44 : decode cX12_bring 44 = .ok (.getfield 110, 3) := by decide +kernel
theorem dX12_bring_47 : decode cX12_bring 47 = .ok (.bipush 37, 2) := by decide +kernel
theorem dX12_bring_49 : decode cX12_bring 49 = .ok (.iaload, 1) := by decide +kernel
theorem dX12_bring_50 : decode cX12_bring 50 = .ok (.ireturn, 1) := by decide +kernel
theorem dX12_isHouse_0 : decode cX12_isHouse 0 = .ok (.iload_n 1, 1) := by decide +kernel
theorem dX12_isHouse_1 : decode cX12_isHouse 1 = .ok (.iconst 0, 1) := by decide +kernel
theorem dX12_isHouse_2 : decode cX12_isHouse 2 = .ok (.aload_n 0, 1) := by decide +kernel
theorem dX12_isHouse_3 : decode cX12_isHouse 3 = .ok (.invokevirtual 309, 3) := by decide +kernel
theorem dX12_isHouse_6 : decode cX12_isHouse 6 = .ok (.iconst 1, 1) := by decide +kernel
theorem dX12_isHouse_7 : decode cX12_isHouse 7 = .ok (.isub, 1) := by decide +kernel
theorem dX12_isHouse_8 : decode cX12_isHouse 8 = .ok (.invokestatic 313, 3) := by decide +kernel
theorem dX12_isHouse_11 : decode cX12_isHouse 11 = .ok (.ireturn, 1) := by decide +kernel
theorem dX12_warmsOf_0 : decode cX12_warmsOf 0 = .ok (.aload_n 0, 1) := by decide +kernel
theorem dX12_warmsOf_1 : decode cX12_warmsOf 1 = .ok (.iload_n 1, 1) := by decide +kernel
theorem dX12_warmsOf_2 : decode cX12_warmsOf 2 = .ok (.iconst 1, 1) := by decide +kernel
theorem dX12_warmsOf_3 : decode cX12_warmsOf 3 = .ok (.iconst 5, 1) := by decide +kernel
theorem dX12_warmsOf_4 : decode cX12_warmsOf 4 = .ok (.bipush 99, 2) := by decide +kernel
theorem dX12_warmsOf_6 : decode cX12_warmsOf 6 = .ok (.invokevirtual 345, 3) := by decide +kernel
theorem dX12_warmsOf_9 : decode cX12_warmsOf 9 = .ok (.ireturn, 1) := by decide +kernel
theorem dX12_burnsOne_0 : decode cX12_burnsOne 0 = .ok (.aload_n 0, 1) := by decide +kernel
theorem dX12_burnsOne_1 : decode cX12_burnsOne 1 = .ok (.getfield 113, 3) := by decide +kernel
theorem dX12_burnsOne_4 : decode cX12_burnsOne 4 = .ok (.bipush 6, 2) := by decide +kernel
theorem dX12_burnsOne_6 : decode cX12_burnsOne 6 = .ok (.iload_n 1, 1) := by decide +kernel
theorem dX12_burnsOne_7 : decode cX12_burnsOne 7 = .ok (.iadd, 1) := by decide +kernel
theorem dX12_burnsOne_8 : decode cX12_burnsOne 8 = .ok (.aload_n 0, 1) := by decide +kernel
theorem dX12_burnsOne_9 : decode cX12_burnsOne 9 = .ok (.getfield 113, 3) := by decide +kernel
theorem dX12_burnsOne_12 : decode cX12_burnsOne 12 = .ok (.bipush 6, 2) := by decide +kernel
theorem dX12_burnsOne_14 : decode cX12_burnsOne 14 = .ok (.iload_n 1, 1) := by decide +kernel
theorem dX12_burnsOne_15 : decode cX12_burnsOne 15 = .ok (.iadd, 1) := by decide +kernel
theorem dX12_burnsOne_16 : decode cX12_burnsOne 16 = .ok (.iaload, 1) := by decide +kernel
theorem dX12_burnsOne_17 : decode cX12_burnsOne 17 = .ok (.aload_n 0, 1) := by decide +kernel
theorem dX12_burnsOne_18 : decode cX12_burnsOne 18 = .ok (.iload_n 1, 1) := by decide +kernel
theorem dX12_burnsOne_19 : decode cX12_burnsOne 19 = .ok (.invokevirtual 352, 3) := by decide +kernel
theorem dX12_burnsOne_22 : decode cX12_burnsOne 22 = .ok (.iadd, 1) := by decide +kernel
theorem dX12_burnsOne_23 : decode cX12_burnsOne 23 = .ok (.iconst 0, 1) := by decide +kernel
theorem dX12_burnsOne_24 : decode cX12_burnsOne 24 = .ok (.sipush 999, 3) := by decide +kernel
theorem dX12_burnsOne_27 : decode cX12_burnsOne 27 = .ok (.invokestatic 342, 3) := by decide +kernel
theorem dX12_burnsOne_30 : decode cX12_burnsOne 30 = .ok (.iastore, 1) := by decide +kernel
theorem dX12_burnsOne_31 : decode cX12_burnsOne 31 = .ok (.aload_n 0, 1) := by decide +kernel
theorem dX12_burnsOne_32 : decode cX12_burnsOne 32 = .ok (.getfield 113, 3) := by decide +kernel
theorem dX12_burnsOne_35 : decode cX12_burnsOne 35 = .ok (.bipush 30, 2) := by decide +kernel
theorem dX12_burnsOne_37 : decode cX12_burnsOne 37 = .ok (.iload_n 1, 1) := by decide +kernel
theorem dX12_burnsOne_38 : decode cX12_burnsOne 38 = .ok (.iadd, 1) := by decide +kernel
theorem dX12_burnsOne_39 : decode cX12_burnsOne 39 = .ok (.dup2, 1) := by decide +kernel
theorem dX12_burnsOne_40 : decode cX12_burnsOne 40 = .ok (.iaload, 1) := by decide +kernel
theorem dX12_burnsOne_41 : decode cX12_burnsOne 41 = .ok (.iconst 1, 1) := by decide +kernel
theorem dX12_burnsOne_42 : decode cX12_burnsOne 42 = .ok (.iadd, 1) := by decide +kernel
theorem dX12_burnsOne_43 : decode cX12_burnsOne 43 = .ok (.iastore, 1) := by decide +kernel
theorem dX12_burnsOne_44 : decode cX12_burnsOne 44 = .ok (.return_, 1) := by decide +kernel
theorem dX12_burns_0 : decode cX12_burns 0 = .ok (.iconst 0, 1) := by decide +kernel
theorem dX12_burns_1 : decode cX12_burns 1 = .ok (.istore_n 3, 1) := by decide +kernel
theorem dX12_burns_2 : decode cX12_burns 2 = .ok (.iload_n 3, 1) := by decide +kernel
theorem dX12_burns_3 : decode cX12_burns 3 = .ok (.iload_n 2, 1) := by decide +kernel
theorem dX12_burns_4 : decode cX12_burns 4 = .ok (.if_icmp .ge 14, 3) := by decide +kernel
theorem dX12_burns_7 : decode cX12_burns 7 = .ok (.aload_n 0, 1) := by decide +kernel
theorem dX12_burns_8 : decode cX12_burns 8 = .ok (.iload_n 1, 1) := by decide +kernel
theorem dX12_burns_9 : decode cX12_burns 9 = .ok (.invokevirtual 355, 3) := by decide +kernel
theorem dX12_burns_12 : decode cX12_burns 12 = .ok (.iinc 3 1, 3) := by decide +kernel
theorem dX12_burns_15 : decode cX12_burns 15 = .ok (.goto (-13), 3) := by decide +kernel
theorem dX12_burns_18 : decode cX12_burns 18 = .ok (.return_, 1) := by decide +kernel
theorem dX12_burn_0 : decode cX12_burn 0 = .ok (.aload_n 0, 1) := by decide +kernel
theorem dX12_burn_1 : decode cX12_burn 1 = .ok (.iload_n 1, 1) := by decide +kernel
theorem dX12_burn_2 : decode cX12_burn 2 = .ok (.invokevirtual 371, 3) := by decide +kernel
theorem dX12_burn_5 : decode cX12_burn 5 = .ok (.ifCond .eq 24, 3) := by decide +kernel
theorem dX12_burn_8 : decode cX12_burn 8 = .ok (.iload_n 2, 1) := by decide +kernel
theorem dX12_burn_9 : decode cX12_burn 9 = .ok (.iconst 1, 1) := by decide +kernel
theorem dX12_burn_10 : decode cX12_burn 10 = .ok (.bipush 99, 2) := by decide +kernel
theorem dX12_burn_12 : decode cX12_burn 12 = .ok (.invokestatic 313, 3) := by decide +kernel
theorem dX12_burn_15 : decode cX12_burn 15 = .ok (.ifCond .eq 14, 3) := by decide +kernel
theorem dX12_burn_18 : decode cX12_burn 18 = .ok (.iload_n 2, 1) := by decide +kernel
theorem dX12_burn_19 : decode cX12_burn 19 = .ok (.aload_n 0, 1) := by decide +kernel
theorem dX12_burn_20 : decode cX12_burn 20 = .ok (.getfield 110, 3) := by decide +kernel
theorem dX12_burn_23 : decode cX12_burn 23 = .ok (.bipush 37, 2) := by decide +kernel
theorem dX12_burn_25 : decode cX12_burn 25 = .ok (.iaload, 1) := by decide +kernel
theorem dX12_burn_26 : decode cX12_burn 26 = .ok (.if_icmp .le 5, 3) := by decide +kernel
theorem dX12_burn_29 : decode cX12_burn 29 = .ok (.iconst (-1), 1) := by decide +kernel
theorem dX12_burn_30 : decode cX12_burn 30 = .ok (.ireturn, 1) := by decide +kernel
theorem dX12_burn_31 : decode cX12_burn 31 = .ok (.aload_n 0, 1) := by decide +kernel
theorem dX12_burn_32 : decode cX12_burn 32 = .ok (.invokevirtual 323, 3) := by decide +kernel
theorem dX12_burn_35 : decode cX12_burn 35 = .ok (.aload_n 0, 1) := by decide +kernel
theorem dX12_burn_36 : decode cX12_burn 36 = .ok (.iload_n 1, 1) := by decide +kernel
theorem dX12_burn_37 : decode cX12_burn 37 = .ok (.iload_n 2, 1) := by decide +kernel
theorem dX12_burn_38 : decode cX12_burn 38 = .ok (.invokevirtual 377, 3) := by decide +kernel
theorem dX12_burn_41 : decode cX12_burn 41 = .ok (.aload_n 0, 1) := by decide +kernel
theorem dX12_burn_42 : decode cX12_burn 42 = .ok (.getfield 113, 3) := by decide +kernel
theorem dX12_burn_45 : decode cX12_burn 45 = .ok (.bipush 37, 2) := by decide +kernel
theorem dX12_burn_47 : decode cX12_burn 47 = .ok (.dup2, 1) := by decide +kernel
theorem dX12_burn_48 : decode cX12_burn 48 = .ok (.iaload, 1) := by decide +kernel
theorem dX12_burn_49 : decode cX12_burn 49 = .ok (.iload_n 2, 1) := by decide +kernel
theorem dX12_burn_50 : decode cX12_burn 50 = .ok (.isub, 1) := by decide +kernel
theorem dX12_burn_51 : decode cX12_burn 51 = .ok (.iastore, 1) := by decide +kernel
theorem dX12_burn_52 : decode cX12_burn 52 = .ok (.aload_n 0, 1) := by decide +kernel
theorem dX12_burn_53 : decode cX12_burn 53 = .ok (.getfield 113, 3) := by decide +kernel
theorem dX12_burn_56 : decode cX12_burn 56 = .ok (.bipush 38, 2) := by decide +kernel
theorem dX12_burn_58 : decode cX12_burn 58 = .ok (.dup2, 1) := by decide +kernel
theorem dX12_burn_59 : decode cX12_burn 59 = .ok (.iaload, 1) := by decide +kernel
theorem dX12_burn_60 : decode cX12_burn 60 = .ok (.iload_n 2, 1) := by decide +kernel
theorem dX12_burn_61 : decode cX12_burn 61 = .ok (.iadd, 1) := by decide +kernel
theorem dX12_burn_62 : decode cX12_burn 62 = .ok (.iastore, 1) := by decide +kernel
theorem dX12_burn_63 : decode cX12_burn 63 = .ok (.aload_n 0, 1) := by decide +kernel
theorem dX12_burn_64 : decode cX12_burn 64 = .ok (.invokevirtual 380, 3) := by decide +kernel
theorem dX12_burn_67 : decode cX12_burn 67 = .ok (.aload_n 0, 1) := by decide +kernel
theorem dX12_burn_68 : decode cX12_burn 68 = .ok (.getfield 110, 3) := by decide +kernel
theorem dX12_burn_71 : decode cX12_burn 71 = .ok (.bipush 6, 2) := by decide +kernel
theorem dX12_burn_73 : decode cX12_burn 73 = .ok (.iload_n 1, 1) := by decide +kernel
theorem dX12_burn_74 : decode cX12_burn 74 = .ok (.iadd, 1) := by decide +kernel
theorem dX12_burn_75 : decode cX12_burn 75 = .ok (.iaload, 1) := by decide +kernel
theorem dX12_burn_76 : decode cX12_burn 76 = .ok (.ireturn, 1) := by decide +kernel
theorem dX12_fillsLoss_0 : decode cX12_fillsLoss 0 = .ok (.iconst 0, 1) := by decide +kernel
theorem dX12_fillsLoss_1 : decode cX12_fillsLoss 1 = .ok (.istore_n 2, 1) := by decide +kernel
theorem dX12_fillsLoss_2 : decode cX12_fillsLoss 2 = .ok (.iload_n 2, 1) := by decide +kernel
theorem dX12_fillsLoss_3 : decode cX12_fillsLoss 3 = .ok (.aload_n 0, 1) := by decide +kernel
theorem dX12_fillsLoss_4 : decode cX12_fillsLoss 4 = .ok (.invokevirtual 309, 3) := by decide +kernel
theorem dX12_fillsLoss_7 : decode cX12_fillsLoss 7 = .ok (.if_icmp .ge 94, 3) := by decide +kernel
theorem dX12_fillsLoss_10 : decode cX12_fillsLoss 10 = .ok (.aload_n 0, 1) := by decide +kernel
theorem dX12_fillsLoss_11 : decode cX12_fillsLoss 11 = .ok (.getfield 113, 3) := by decide +kernel
theorem dX12_fillsLoss_14 : decode cX12_fillsLoss 14 = .ok (.bipush 6, 2) := by decide +kernel
theorem dX12_fillsLoss_16 : decode cX12_fillsLoss 16 = .ok (.iload_n 2, 1) := by decide +kernel
theorem dX12_fillsLoss_17 : decode cX12_fillsLoss 17 = .ok (.iadd, 1) := by decide +kernel
theorem dX12_fillsLoss_18 : decode cX12_fillsLoss 18 = .ok (.iaload, 1) := by decide +kernel
theorem dX12_fillsLoss_19 : decode cX12_fillsLoss 19 = .ok (.istore_n 3, 1) := by decide +kernel
theorem dX12_fillsLoss_20 : decode cX12_fillsLoss 20 = .ok (.aload_n 0, 1) := by decide +kernel
theorem dX12_fillsLoss_21 : decode cX12_fillsLoss 21 = .ok (.getfield 113, 3) := by decide +kernel
theorem dX12_fillsLoss_24 : decode cX12_fillsLoss 24 = .ok (.bipush 30, 2) := by decide +kernel
theorem dX12_fillsLoss_26 : decode cX12_fillsLoss 26 = .ok (.iload_n 2, 1) := by decide +kernel
theorem dX12_fillsLoss_27 : decode cX12_fillsLoss 27 = .ok (.iadd, 1) := by decide +kernel
theorem dX12_fillsLoss_28 : decode cX12_fillsLoss 28 = .ok (.iaload, 1) := by decide +kernel
theorem dX12_fillsLoss_29 : decode cX12_fillsLoss 29 = .ok (.istore 4, 2) := by decide +kernel
theorem dX12_fillsLoss_31 : decode cX12_fillsLoss 31 = .ok (.iconst 0, 1) := by decide +kernel
theorem dX12_fillsLoss_32 : decode cX12_fillsLoss 32 = .ok (.istore 5, 2) := by decide +kernel
theorem dX12_fillsLoss_34 : decode cX12_fillsLoss 34 = .ok (.iload 5, 2) := by decide +kernel
theorem dX12_fillsLoss_36 : decode cX12_fillsLoss 36 = .ok (.iload_n 1, 1) := by decide +kernel
theorem dX12_fillsLoss_37 : decode cX12_fillsLoss 37 = .ok (.if_icmp .gt 37, 3) := by decide +kernel
theorem dX12_fillsLoss_40 : decode cX12_fillsLoss 40 = .ok (.aload_n 0, 1) := by decide +kernel
theorem dX12_fillsLoss_41 : decode cX12_fillsLoss 41 = .ok (.getfield 125, 3) := by decide +kernel
theorem dX12_fillsLoss_44 : decode cX12_fillsLoss 44 = .ok (.bipush 31, 2) := by decide +kernel
theorem dX12_fillsLoss_46 : decode cX12_fillsLoss 46 = .ok (.iload_n 2, 1) := by decide +kernel
theorem dX12_fillsLoss_47 : decode cX12_fillsLoss 47 = .ok (.imul, 1) := by decide +kernel
theorem dX12_fillsLoss_48 : decode cX12_fillsLoss 48 = .ok (.iload 5, 2) := by decide +kernel
theorem dX12_fillsLoss_50 : decode cX12_fillsLoss 50 = .ok (.iadd, 1) := by decide +kernel
theorem dX12_fillsLoss_51 : decode cX12_fillsLoss 51 = .ok (.aload_n 0, 1) := by decide +kernel
theorem dX12_fillsLoss_52 : decode cX12_fillsLoss 52 = .ok (.iload_n 2, 1) := by decide +kernel
theorem dX12_fillsLoss_53 : decode cX12_fillsLoss 53 = .ok (.invokevirtual 358, 3) := by decide +kernel
theorem dX12_fillsLoss_56 : decode cX12_fillsLoss 56 = .ok (.iastore, 1) := by decide +kernel
theorem dX12_fillsLoss_57 : decode cX12_fillsLoss 57 = .ok (.iload 5, 2) := by decide +kernel
theorem dX12_fillsLoss_59 : decode cX12_fillsLoss 59 = .ok (.iload_n 1, 1) := by decide +kernel
theorem dX12_fillsLoss_60 : decode cX12_fillsLoss 60 = .ok (.if_icmp .ge 8, 3) := by decide +kernel
theorem dX12_fillsLoss_63 : decode cX12_fillsLoss 63 = .ok (.aload_n 0, 1) := by decide +kernel
theorem dX12_fillsLoss_64 : decode cX12_fillsLoss 64 = .ok (.iload_n 2, 1) := by decide +kernel
theorem dX12_fillsLoss_65 : decode cX12_fillsLoss 65 = .ok (.invokevirtual 355, 3) := by decide +kernel
theorem dX12_fillsLoss_68 : decode cX12_fillsLoss 68 = .ok (.iinc 5 1, 3) := by decide +kernel
theorem dX12_fillsLoss_71 : decode cX12_fillsLoss 71 = .ok (.goto (-37), 3) := by decide +kernel
theorem dX12_fillsLoss_74 : decode cX12_fillsLoss 74 = .ok (.aload_n 0, 1) := by decide +kernel
theorem dX12_fillsLoss_75 : decode cX12_fillsLoss 75 = .ok (.getfield 113, 3) := by decide +kernel
theorem dX12_fillsLoss_78 : decode cX12_fillsLoss 78 = .ok (.bipush 6, 2) := by decide +kernel
theorem dX12_fillsLoss_80 : decode cX12_fillsLoss 80 = .ok (.iload_n 2, 1) := by decide +kernel
theorem dX12_fillsLoss_81 : decode cX12_fillsLoss 81 = .ok (.iadd, 1) := by decide +kernel
theorem dX12_fillsLoss_82 : decode cX12_fillsLoss 82 = .ok (.iload_n 3, 1) := by decide +kernel
theorem dX12_fillsLoss_83 : decode cX12_fillsLoss 83 = .ok (.iastore, 1) := by decide +kernel
theorem dX12_fillsLoss_84 : decode cX12_fillsLoss 84 = .ok (.aload_n 0, 1) := by decide +kernel
theorem dX12_fillsLoss_85 : decode cX12_fillsLoss 85 = .ok (.getfield 113, 3) := by decide +kernel
theorem dX12_fillsLoss_88 : decode cX12_fillsLoss 88 = .ok (.bipush 30, 2) := by decide +kernel
theorem dX12_fillsLoss_90 : decode cX12_fillsLoss 90 = .ok (.iload_n 2, 1) := by decide +kernel
theorem dX12_fillsLoss_91 : decode cX12_fillsLoss 91 = .ok (.iadd, 1) := by decide +kernel
theorem dX12_fillsLoss_92 : decode cX12_fillsLoss 92 = .ok (.iload 4, 2) := by decide +kernel
theorem dX12_fillsLoss_94 : decode cX12_fillsLoss 94 = .ok (.iastore, 1) := by decide +kernel
theorem dX12_fillsLoss_95 : decode cX12_fillsLoss 95 = .ok (.iinc 2 1, 3) := by decide +kernel
theorem dX12_fillsLoss_98 : decode cX12_fillsLoss 98 = .ok (.goto (-96), 3) := by decide +kernel
theorem dX12_fillsLoss_101 : decode cX12_fillsLoss 101 = .ok (.return_, 1) := by decide +kernel
theorem dX12_lossWith_0 : decode cX12_lossWith 0 = .ok (.aload_n 0, 1) := by decide +kernel
theorem dX12_lossWith_1 : decode cX12_lossWith 1 = .ok (.getfield 125, 3) := by decide +kernel
theorem dX12_lossWith_4 : decode cX12_lossWith 4 = .ok (.bipush 31, 2) := by decide +kernel
theorem dX12_lossWith_6 : decode cX12_lossWith 6 = .ok (.iload_n 1, 1) := by decide +kernel
theorem dX12_lossWith_7 : decode cX12_lossWith 7 = .ok (.imul, 1) := by decide +kernel
theorem dX12_lossWith_8 : decode cX12_lossWith 8 = .ok (.iload_n 2, 1) := by decide +kernel
theorem dX12_lossWith_9 : decode cX12_lossWith 9 = .ok (.iadd, 1) := by decide +kernel
theorem dX12_lossWith_10 : decode cX12_lossWith 10 = .ok (.iaload, 1) := by decide +kernel
theorem dX12_lossWith_11 : decode cX12_lossWith 11 = .ok (.aload_n 0, 1) := by decide +kernel
theorem dX12_lossWith_12 : decode cX12_lossWith 12 = .ok (.getfield 128, 3) := by decide +kernel
theorem dX12_lossWith_15 : decode cX12_lossWith 15 = .ok (.bipush 31, 2) := by decide +kernel
theorem dX12_lossWith_17 : decode cX12_lossWith 17 = .ok (.iload_n 1, 1) := by decide +kernel
theorem dX12_lossWith_18 : decode cX12_lossWith 18 = .ok (.imul, 1) := by decide +kernel
theorem dX12_lossWith_19 : decode cX12_lossWith 19 = .ok (.bipush 31, 2) := by decide +kernel
theorem dX12_lossWith_21 : decode cX12_lossWith 21 = .ok (.iadd, 1) := by decide +kernel
theorem dX12_lossWith_22 : decode cX12_lossWith 22 = .ok (.iload_n 3, 1) := by decide +kernel
theorem dX12_lossWith_23 : decode cX12_lossWith 23 = .ok (.iadd, 1) := by decide +kernel
theorem dX12_lossWith_24 : decode cX12_lossWith 24 = .ok (.iload_n 2, 1) := by decide +kernel
theorem dX12_lossWith_25 : decode cX12_lossWith 25 = .ok (.isub, 1) := by decide +kernel
theorem dX12_lossWith_26 : decode cX12_lossWith 26 = .ok (.iaload, 1) := by decide +kernel
theorem dX12_lossWith_27 : decode cX12_lossWith 27 = .ok (.iadd, 1) := by decide +kernel
theorem dX12_lossWith_28 : decode cX12_lossWith 28 = .ok (.ireturn, 1) := by decide +kernel
theorem dX12_fillsShare_0 : decode cX12_fillsShare 0 = .ok (.aload_n 0, 1) := by decide +kernel
theorem dX12_fillsShare_1 : decode cX12_fillsShare 1 = .ok (.iload_n 1, 1) := by decide +kernel
theorem dX12_fillsShare_2 : decode cX12_fillsShare 2 = .ok (.invokevirtual 389, 3) := by decide +kernel
theorem dX12_fillsShare_5 : decode cX12_fillsShare 5 = .ok (.iconst 0, 1) := by decide +kernel
theorem dX12_fillsShare_6 : decode cX12_fillsShare 6 = .ok (.istore_n 2, 1) := by decide +kernel
theorem dX12_fillsShare_7 : decode cX12_fillsShare 7 = .ok (.iload_n 2, 1) := by decide +kernel
theorem dX12_fillsShare_8 : decode cX12_fillsShare 8 = .ok (.iload_n 1, 1) := by decide +kernel
theorem dX12_fillsShare_9 : decode cX12_fillsShare 9 = .ok (.if_icmp .gt 24, 3) := by decide +kernel
theorem dX12_fillsShare_12 : decode cX12_fillsShare 12 = .ok (.aload_n 0, 1) := by decide +kernel
theorem dX12_fillsShare_13 : decode cX12_fillsShare 13 = .ok (.getfield 128, 3) := by decide +kernel
theorem dX12_fillsShare_16 : decode cX12_fillsShare 16 = .ok (.bipush 31, 2) := by decide +kernel
theorem dX12_fillsShare_18 : decode cX12_fillsShare 18 = .ok (.aload_n 0, 1) := by decide +kernel
theorem dX12_fillsShare_19 : decode cX12_fillsShare 19 = .ok (.invokevirtual 309, 3) := by decide +kernel
theorem dX12_fillsShare_22 : decode cX12_fillsShare 22 = .ok (.imul, 1) := by decide +kernel
theorem dX12_fillsShare_23 : decode cX12_fillsShare 23 = .ok (.iload_n 2, 1) := by decide +kernel
theorem dX12_fillsShare_24 : decode cX12_fillsShare 24 = .ok (.iadd, 1) := by decide +kernel
theorem dX12_fillsShare_25 : decode cX12_fillsShare 25 = .ok (.iconst 0, 1) := by decide +kernel
theorem dX12_fillsShare_26 : decode cX12_fillsShare 26 = .ok (.iastore, 1) := by decide +kernel
theorem dX12_fillsShare_27 : decode cX12_fillsShare 27 = .ok (.iinc 2 1, 3) := by decide +kernel
theorem dX12_fillsShare_30 : decode cX12_fillsShare 30 = .ok (.goto (-23), 3) := by decide +kernel
theorem dX12_fillsShare_33 : decode cX12_fillsShare 33 = .ok (.aload_n 0, 1) := by decide +kernel
theorem dX12_fillsShare_34 : decode cX12_fillsShare 34 = .ok (.invokevirtual 309, 3) := by decide +kernel
theorem dX12_fillsShare_37 : decode cX12_fillsShare 37 = .ok (.iconst 1, 1) := by decide +kernel
theorem dX12_fillsShare_38 : decode cX12_fillsShare 38 = .ok (.isub, 1) := by decide +kernel
theorem dX12_fillsShare_39 : decode cX12_fillsShare 39 = .ok (.istore_n 2, 1) := by decide +kernel
theorem dX12_fillsShare_40 : decode cX12_fillsShare 40 = .ok (.iload_n 2, 1) := by decide +kernel
theorem dX12_fillsShare_41 : decode cX12_fillsShare 41 = .ok (.ifCond .lt 82, 3) := by decide +kernel
theorem dX12_fillsShare_44 : decode cX12_fillsShare 44 = .ok (.iconst 0, 1) := by decide +kernel
theorem dX12_fillsShare_45 : decode cX12_fillsShare 45 = .ok (.istore_n 3, 1) := by decide +kernel
theorem dX12_fillsShare_46 : decode cX12_fillsShare 46 = .ok (.iload_n 3, 1) := by decide +kernel
theorem dX12_fillsShare_47 : decode cX12_fillsShare 47 = .ok (.iload_n 1, 1) := by decide +kernel
theorem dX12_fillsShare_48 : decode cX12_fillsShare 48 = .ok (.if_icmp .gt 69, 3) := by decide +kernel
theorem dX12_fillsShare_51 : decode cX12_fillsShare 51 = .ok (.aload_n 0, 1) := by decide +kernel
theorem dX12_fillsShare_52 : decode cX12_fillsShare 52 = .ok (.iload_n 2, 1) := by decide +kernel
theorem dX12_fillsShare_53 : decode cX12_fillsShare 53 = .ok (.iconst 0, 1) := by decide +kernel
theorem dX12_fillsShare_54 : decode cX12_fillsShare 54 = .ok (.iload_n 3, 1) := by decide +kernel
theorem dX12_fillsShare_55 : decode cX12_fillsShare 55 = .ok (.invokevirtual 392, 3) := by decide +kernel
theorem dX12_fillsShare_58 : decode cX12_fillsShare 58 = .ok (.istore 4, 2) := by decide +kernel
theorem dX12_fillsShare_60 : decode cX12_fillsShare 60 = .ok (.iconst 1, 1) := by decide +kernel
theorem dX12_fillsShare_61 : decode cX12_fillsShare 61 = .ok (.istore 5, 2) := by decide +kernel
theorem dX12_fillsShare_63 : decode cX12_fillsShare 63 = .ok (.iload 5, 2) := by decide +kernel
theorem dX12_fillsShare_65 : decode cX12_fillsShare 65 = .ok (.iload_n 3, 1) := by decide +kernel
theorem dX12_fillsShare_66 : decode cX12_fillsShare 66 = .ok (.if_icmp .gt 32, 3) := by decide +kernel
theorem dX12_fillsShare_69 : decode cX12_fillsShare 69 = .ok (.aload_n 0, 1) := by decide +kernel
theorem dX12_fillsShare_70 : decode cX12_fillsShare 70 = .ok (.iload_n 2, 1) := by decide +kernel
theorem dX12_fillsShare_71 : decode cX12_fillsShare 71 = .ok (.iload 5, 2) := by decide +kernel
theorem dX12_fillsShare_73 : decode cX12_fillsShare 73 = .ok (.iload_n 3, 1) := by decide +kernel
theorem dX12_fillsShare_74 : decode cX12_fillsShare 74 = .ok (.invokevirtual 392, 3) := by decide +kernel
theorem dX12_fillsShare_77 : decode cX12_fillsShare 77 = .ok (.iload 4, 2) := by decide +kernel
theorem dX12_fillsShare_79 : decode cX12_fillsShare 79 = .ok (.if_icmp .ge 13, 3) := by decide +kernel
theorem dX12_fillsShare_82 : decode cX12_fillsShare 82 = .ok (.aload_n 0, 1) := by decide +kernel
theorem dX12_fillsShare_83 : decode cX12_fillsShare 83 = .ok (.iload_n 2, 1) := by decide +kernel
theorem dX12_fillsShare_84 : decode cX12_fillsShare 84 = .ok (.iload 5, 2) := by decide +kernel
theorem dX12_fillsShare_86 : decode cX12_fillsShare 86 = .ok (.iload_n 3, 1) := by decide +kernel
theorem dX12_fillsShare_87 : decode cX12_fillsShare 87 = .ok (.invokevirtual 392, 3) := by decide +kernel
theorem dX12_fillsShare_90 : decode cX12_fillsShare 90 = .ok (.istore 4, 2) := by decide +kernel
theorem dX12_fillsShare_92 : decode cX12_fillsShare 92 = .ok (.iinc 5 1, 3) := by decide +kernel
theorem dX12_fillsShare_95 : decode cX12_fillsShare 95 = .ok (.goto (-32), 3) := by decide +kernel
theorem dX12_fillsShare_98 : decode cX12_fillsShare 98 = .ok (.aload_n 0, 1) := by decide +kernel
theorem dX12_fillsShare_99 : decode cX12_fillsShare 99 = .ok (.getfield 128, 3) := by decide +kernel
theorem dX12_fillsShare_102 : decode cX12_fillsShare 102 = .ok (.bipush 31, 2) := by decide +kernel
theorem dX12_fillsShare_104 : decode cX12_fillsShare 104 = .ok (.iload_n 2, 1) := by decide +kernel
theorem dX12_fillsShare_105 : decode cX12_fillsShare 105 = .ok (.imul, 1) := by decide +kernel
theorem dX12_fillsShare_106 : decode cX12_fillsShare 106 = .ok (.iload_n 3, 1) := by decide +kernel
theorem dX12_fillsShare_107 : decode cX12_fillsShare 107 = .ok (.iadd, 1) := by decide +kernel
theorem dX12_fillsShare_108 : decode cX12_fillsShare 108 = .ok (.iload 4, 2) := by decide +kernel
theorem dX12_fillsShare_110 : decode cX12_fillsShare 110 = .ok (.iastore, 1) := by decide +kernel
theorem dX12_fillsShare_111 : decode cX12_fillsShare 111 = .ok (.iinc 3 1, 3) := by decide +kernel
theorem dX12_fillsShare_114 : decode cX12_fillsShare 114 = .ok (.goto (-68), 3) := by decide +kernel
theorem dX12_fillsShare_117 : decode cX12_fillsShare 117 = .ok (.iinc 2 (-1), 3) := by decide +kernel
theorem dX12_fillsShare_120 : decode cX12_fillsShare 120 = .ok (.goto (-80), 3) := by decide +kernel
theorem dX12_fillsShare_123 : decode cX12_fillsShare 123 = .ok (.return_, 1) := by decide +kernel
theorem dX12_shareFor_0 : decode cX12_shareFor 0 = .ok (.iconst 0, 1) := by decide +kernel
theorem dX12_shareFor_1 : decode cX12_shareFor 1 = .ok (.istore_n 3, 1) := by decide +kernel
theorem dX12_shareFor_2 : decode cX12_shareFor 2 = .ok (.aload_n 0, 1) := by decide +kernel
theorem dX12_shareFor_3 : decode cX12_shareFor 3 = .ok (.iload_n 1, 1) := by decide +kernel
theorem dX12_shareFor_4 : decode cX12_shareFor 4 = .ok (.iload_n 3, 1) := by decide +kernel
theorem dX12_shareFor_5 : decode cX12_shareFor 5 = .ok (.iload_n 2, 1) := by decide +kernel
theorem dX12_shareFor_6 : decode cX12_shareFor 6 = .ok (.invokevirtual 392, 3) := by decide +kernel
theorem dX12_shareFor_9 : decode cX12_shareFor 9 = .ok (.aload_n 0, 1) := by decide +kernel
theorem dX12_shareFor_10 : decode cX12_shareFor 10 = .ok (.getfield 128, 3) := by decide +kernel
theorem dX12_shareFor_13 : decode cX12_shareFor 13 = .ok (.bipush 31, 2) := by decide +kernel
theorem dX12_shareFor_15 : decode cX12_shareFor 15 = .ok (.iload_n 1, 1) := by decide +kernel
theorem dX12_shareFor_16 : decode cX12_shareFor 16 = .ok (.imul, 1) := by decide +kernel
theorem dX12_shareFor_17 : decode cX12_shareFor 17 = .ok (.iload_n 2, 1) := by decide +kernel
theorem dX12_shareFor_18 : decode cX12_shareFor 18 = .ok (.iadd, 1) := by decide +kernel
theorem dX12_shareFor_19 : decode cX12_shareFor 19 = .ok (.iaload, 1) := by decide +kernel
theorem dX12_shareFor_20 : decode cX12_shareFor 20 = .ok (.if_icmp .eq 9, 3) := by decide +kernel
theorem dX12_shareFor_23 : decode cX12_shareFor 23 = .ok (.iinc 3 1, 3) := by decide +kernel
theorem dX12_shareFor_26 : decode cX12_shareFor 26 = .ok (.goto (-24), 3) := by decide +kernel
theorem dX12_shareFor_29 : decode cX12_shareFor 29 = .ok (.iload_n 3, 1) := by decide +kernel
theorem dX12_shareFor_30 : decode cX12_shareFor 30 = .ok (.ireturn, 1) := by decide +kernel
theorem dX12_burnsShared_0 : decode cX12_burnsShared 0 = .ok (.aload_n 0, 1) := by decide +kernel
theorem dX12_burnsShared_1 : decode cX12_burnsShared 1 = .ok (.iload_n 1, 1) := by decide +kernel
theorem dX12_burnsShared_2 : decode cX12_burnsShared 2 = .ok (.invokevirtual 398, 3) := by decide +kernel
theorem dX12_burnsShared_5 : decode cX12_burnsShared 5 = .ok (.iload_n 1, 1) := by decide +kernel
theorem dX12_burnsShared_6 : decode cX12_burnsShared 6 = .ok (.istore_n 2, 1) := by decide +kernel
theorem dX12_burnsShared_7 : decode cX12_burnsShared 7 = .ok (.iconst 0, 1) := by decide +kernel
theorem dX12_burnsShared_8 : decode cX12_burnsShared 8 = .ok (.istore_n 3, 1) := by decide +kernel
theorem dX12_burnsShared_9 : decode cX12_burnsShared 9 = .ok (.iload_n 3, 1) := by decide +kernel
theorem dX12_burnsShared_10 : decode cX12_burnsShared 10 = .ok (.aload_n 0, 1) := by decide +kernel
theorem dX12_burnsShared_11 : decode cX12_burnsShared 11 = .ok (.invokevirtual 309, 3) := by decide +kernel
theorem dX12_burnsShared_14 : decode cX12_burnsShared 14 = .ok (.if_icmp .ge 29, 3) := by decide +kernel
theorem dX12_burnsShared_17 : decode cX12_burnsShared 17 = .ok (.aload_n 0, 1) := by decide +kernel
theorem dX12_burnsShared_18 : decode cX12_burnsShared 18 = .ok (.iload_n 3, 1) := by decide +kernel
theorem dX12_burnsShared_19 : decode cX12_burnsShared 19 = .ok (.iload_n 2, 1) := by decide +kernel
theorem dX12_burnsShared_20 : decode cX12_burnsShared 20 = .ok (.invokevirtual 401, 3) := by decide +kernel
theorem dX12_burnsShared_23 : decode cX12_burnsShared 23 = .ok (.istore 4, 2) := by decide +kernel
theorem dX12_burnsShared_25 : decode cX12_burnsShared 25 = .ok (.iload_n 2, 1) := by decide +kernel
theorem dX12_burnsShared_26 : decode cX12_burnsShared 26 = .ok (.iload 4, 2) := by decide +kernel
theorem dX12_burnsShared_28 : decode cX12_burnsShared 28 = .ok (.isub, 1) := by decide +kernel
theorem dX12_burnsShared_29 : decode cX12_burnsShared 29 = .ok (.istore_n 2, 1) := by decide +kernel
theorem dX12_burnsShared_30 : decode cX12_burnsShared 30 = .ok (.aload_n 0, 1) := by decide +kernel
theorem dX12_burnsShared_31 : decode cX12_burnsShared 31 = .ok (.iload_n 3, 1) := by decide +kernel
theorem dX12_burnsShared_32 : decode cX12_burnsShared 32 = .ok (.iload 4, 2) := by decide +kernel
theorem dX12_burnsShared_34 : decode cX12_burnsShared 34 = .ok (.invokevirtual 377, 3) := by decide +kernel
theorem dX12_burnsShared_37 : decode cX12_burnsShared 37 = .ok (.iinc 3 1, 3) := by decide +kernel
theorem dX12_burnsShared_40 : decode cX12_burnsShared 40 = .ok (.goto (-31), 3) := by decide +kernel
theorem dX12_burnsShared_43 : decode cX12_burnsShared 43 = .ok (.aload_n 0, 1) := by decide +kernel
theorem dX12_burnsShared_44 : decode cX12_burnsShared 44 = .ok (.invokevirtual 368, 3) := by decide +kernel
theorem dX12_burnsShared_47 : decode cX12_burnsShared 47 = .ok (.return_, 1) := by decide +kernel
theorem dX12_byteAt_0 : decode cX12_byteAt 0 = .ok (.iload_n 1, 1) := by decide +kernel
theorem dX12_byteAt_1 : decode cX12_byteAt 1 = .ok (.aload_n 0, 1) := by decide +kernel
theorem dX12_byteAt_2 : decode cX12_byteAt 2 = .ok (.getfield 184, 3) := by decide +kernel
theorem dX12_byteAt_5 : decode cX12_byteAt 5 = .ok (.if_icmp .ge 16, 3) := by decide +kernel
theorem dX12_byteAt_8 : decode cX12_byteAt 8 = .ok (.aload_n 0, 1) := by decide +kernel
theorem dX12_byteAt_9 : decode cX12_byteAt 9 = .ok (.getfield 17, 3) := by decide +kernel
theorem dX12_byteAt_12 : decode cX12_byteAt 12 = .ok (.iload_n 1, 1) := by decide +kernel
theorem dX12_byteAt_13 : decode cX12_byteAt 13 = .ok (.baload, 1) := by decide +kernel
theorem dX12_byteAt_14 : decode cX12_byteAt 14 = .ok (.sipush 255, 3) := by decide +kernel
theorem dX12_byteAt_17 : decode cX12_byteAt 17 = .ok (.iand, 1) := by decide +kernel
theorem dX12_byteAt_18 : decode cX12_byteAt 18 = .ok (.goto 4, 3) := by decide +kernel
theorem dX12_byteAt_21 : decode cX12_byteAt 21 = .ok (.iconst 0, 1) := by decide +kernel
theorem dX12_byteAt_22 : decode cX12_byteAt 22 = .ok (.ireturn, 1) := by decide +kernel
theorem dX12_cold_0 : decode cX12_cold 0 = .ok (.aload_n 0, 1) := by decide +kernel
theorem dX12_cold_1 : decode cX12_cold 1 = .ok (.iload_n 1, 1) := by decide +kernel
theorem dX12_cold_2 : decode cX12_cold 2 = .ok (.invokevirtual 371, 3) := by decide +kernel
theorem dX12_cold_5 : decode cX12_cold 5 = .ok (.ifCond .eq 14, 3) := by decide +kernel
theorem dX12_cold_8 : decode cX12_cold 8 = .ok (.aload_n 0, 1) := by decide +kernel
theorem dX12_cold_9 : decode cX12_cold 9 = .ok (.bipush 6, 2) := by decide +kernel
theorem dX12_cold_11 : decode cX12_cold 11 = .ok (.iload_n 1, 1) := by decide +kernel
theorem dX12_cold_12 : decode cX12_cold 12 = .ok (.iadd, 1) := by decide +kernel
theorem dX12_cold_13 : decode cX12_cold 13 = .ok (.invokevirtual 422, 3) := by decide +kernel
theorem dX12_cold_16 : decode cX12_cold 16 = .ok (.goto 4, 3) := by decide +kernel
theorem dX12_cold_19 : decode cX12_cold 19 = .ok (.iconst (-1), 1) := by decide +kernel
theorem dX12_cold_20 : decode cX12_cold 20 = .ok (.ireturn, 1) := by decide +kernel
theorem dX12_emit_0 : decode cX12_emit 0 = .ok (.aload_n 0, 1) := by decide +kernel
theorem dX12_emit_1 : decode cX12_emit 1 = .ok (.getfield 95, 3) := by decide +kernel
theorem dX12_emit_4 : decode cX12_emit 4 = .ok (.aload_n 0, 1) := by decide +kernel
theorem dX12_emit_5 : decode cX12_emit 5 = .ok (.getfield 254, 3) := by decide +kernel
theorem dX12_emit_8 : decode cX12_emit 8 = .ok (.iload_n 1, 1) := by decide +kernel
theorem dX12_emit_9 : decode cX12_emit 9 = .ok (.iastore, 1) := by decide +kernel
theorem dX12_emit_10 : decode cX12_emit 10 = .ok (.aload_n 0, 1) := by decide +kernel
theorem dX12_emit_11 : decode cX12_emit 11 = .ok (.getfield 98, 3) := by decide +kernel
theorem dX12_emit_14 : decode cX12_emit 14 = .ok (.aload_n 0, 1) := by decide +kernel
theorem dX12_emit_15 : decode cX12_emit 15 = .ok (.getfield 254, 3) := by decide +kernel
theorem dX12_emit_18 : decode cX12_emit 18 = .ok (.iload_n 2, 1) := by decide +kernel
theorem dX12_emit_19 : decode cX12_emit 19 = .ok (.iastore, 1) := by decide +kernel
theorem dX12_emit_20 : decode cX12_emit 20 = .ok (.aload_n 0, 1) := by decide +kernel
theorem dX12_emit_21 : decode cX12_emit 21 = .ok (.dup, 1) := by decide +kernel
theorem dX12_emit_22 : decode cX12_emit 22 = .ok (.getfield 254, 3) := by decide +kernel
theorem dX12_emit_25 : decode cX12_emit 25 = .ok (.iconst 1, 1) := by decide +kernel
theorem dX12_emit_26 : decode cX12_emit 26 = .ok (.iadd, 1) := by decide +kernel
theorem dX12_emit_27 : decode cX12_emit 27 = .ok (.putfield 254, 3) := by decide +kernel
theorem dX12_emit_30 : decode cX12_emit 30 = .ok (.return_, 1) := by decide +kernel
section WK8
variable {p : Program} {l : Launch} {e : Env} {s : State} {m : MethodId} {args : Array Value} {below : List Frame} {meth : Method} {c : Code} {ω : WW}

set_option maxHeartbeats 4000000 in
set_option maxRecDepth 100000 in
theorem wX12_behindNone_s6 (hW : FWM ω) (C : Cx ω p s m args c cX12_behindNone 3 RX12) (hr : meth.sig.returnType = some .int) (hk : meth.locks = false) {rr : Int32} {μo : Mem} {x1 : Int32} {x2 : Int32} {rec : Int32 → Mem → Option (Int32 × Mem)} (hrec : ∀ (z2 : Int32) (ν : Mem) (H : Heap) (locs : List Loc) (ls : Array Slot), Hd ω ν H → FS ω s H locs → lv_has ls 3 [(0, .ref (wB ω + 0)), (1, .int x1), (2, .int z2)] → rec z2 ν = some (rr, μo) → W p l e (rmd 7) s m args below meth c H locs 0 0 (MQ below (QR ω (some (.int rr)) μo) args s 0 0 (wA ω)) (F0 m 6 ls [])) {μ : Mem} {H : Heap} {locs : List Loc} {ls : Array Slot} (hH : Hd ω μ H) (hS : FS ω s H locs) (hl : lv_has ls 3 [(0, .ref (wB ω + 0)), (1, .int x1), (2, .int x2)]) (h : fX12_behindNone_s6 rec x1 x2 μ = some (rr, μo)) : W p l e (rmd 7) s m args below meth c H locs 0 0 (MQ below (QR ω (some (.int rr)) μo) args s 0 0 (wA ω)) (F0 m 6 ls []) := by
  have hx := C.1
  have hb := C.2.1
  unfold fX12_behindNone_s6 at h
  refine lv_iload_n hx hb dX12_behindNone_6 rfl (lv_at hl 2 rfl) ?_
  refine lv_sipush (v := 200) hx hb dX12_behindNone_7 (by decide) ?_
  refine lv_icmp_gt (tgt := 34) hx hb dX12_behindNone_10 (by decide) (fun hc => ?_) (fun hc => ?_)
  · have h := ite_t hc h
    refine lv_bipush (v := (-2)) hx hb dX12_behindNone_34 (by decide) ?_
    exact h_iret C hr hk hH hS rfl (by cases h; rfl) dX12_behindNone_36
  · have h := ite_f hc h
    refine lv_aload_n hx hb dX12_behindNone_13 rfl (lv_at hl 0 rfl) ?_
    refine g_1235 (i := 32) C hH (jM_0 hW) rfl dX12_behindNone_14 ?_
    refine lv_iload_n hx hb dX12_behindNone_17 rfl (lv_at hl 1 rfl) ?_
    obtain ⟨b3, h⟩ := gd_e h
    refine h_iald C hH (jM_32 hW).1 (jM_32 hW).2.1 b3 dX12_behindNone_18 ?_
    refine lv_if_ne (tgt := 24) hx hb dX12_behindNone_19 (by decide) (fun hc => ?_) (fun hc => ?_)
    · have h := ite_f hc h
      refine lv_aload_n hx hb dX12_behindNone_24 rfl (lv_at hl 0 rfl) ?_
      obtain ⟨μ5, e4, h⟩ := b1_e h
      refine cVv (as := []) (rest := []) (c_X12_dayGoes hW e4) C hl.1 hH hS rfl (jM_0 hW) rfl wd_67 wd_1592 mw_X12_dayGoes wd_1590 rfl (rm_ok (by decide) (by decide)) (Nat.le_of_ble_eq_true rfl) ⟨Nat.zero_le _, Nat.zero_le _⟩ (by decide) dX12_behindNone_25 (fun H locs hH hS => ?_)
      refine lv_iinc (v := x2 + 1) (lv' := [(2, .int (x2 + 1)), (0, .ref (wB ω + 0)), (1, .int x1)]) hx hb dX12_behindNone_28 hl (k := 2) rfl rfl (by decide) rfl (fun ls hl => ?_)
      refine lv_goto (tgt := 6) hx hb dX12_behindNone_31 (by decide) ?_
      exact hrec _ _ H locs ls hH hS (lv_sub hl [1, 2, 0] rfl) h
    · have h := ite_t hc h
      refine lv_iload_n hx hb dX12_behindNone_22 rfl (lv_at hl 2 rfl) ?_
      exact h_iret C hr hk hH hS rfl (by cases h; rfl) dX12_behindNone_23
theorem wX12_behindNone_l6 (hW : FWM ω) (C : Cx ω p s m args c cX12_behindNone 3 RX12) (hr : meth.sig.returnType = some .int) (hk : meth.locks = false) {rr : Int32} {μo : Mem} {x1 : Int32} : ∀ (n : Nat) (x2 : Int32) (μ : Mem) (H : Heap) (locs : List Loc) (ls : Array Slot), Hd ω μ H → FS ω s H locs → lv_has ls 3 [(0, .ref (wB ω + 0)), (1, .int x1), (2, .int x2)] → fX12_behindNone_l6 x1 n x2 μ = some (rr, μo) → W p l e (rmd 7) s m args below meth c H locs 0 0 (MQ below (QR ω (some (.int rr)) μo) args s 0 0 (wA ω)) (F0 m 6 ls []) := by
  intro n
  induction n with
  | zero => intro x2 μ H locs ls hH hS hl h; cases h
  | succ n ih => intro x2 μ H locs ls hH hS hl h; exact wX12_behindNone_s6 hW C hr hk ih hH hS hl h
set_option maxHeartbeats 4000000 in
set_option maxRecDepth 100000 in
theorem wX12_behindNone_e (hW : FWM ω) (C : Cx ω p s m args c cX12_behindNone 3 RX12) (hr : meth.sig.returnType = some .int) (hk : meth.locks = false) {rr : Int32} {μo : Mem} {x1 : Int32} {μ : Mem} {H : Heap} {locs : List Loc} {ls : Array Slot} (hH : Hd ω μ H) (hS : FS ω s H locs) (hl : lv_has ls 3 [(0, .ref (wB ω + 0)), (1, .int x1)]) (h : fX12_behindNone x1 μ = some (rr, μo)) : W p l e (rmd 7) s m args below meth c H locs 0 0 (MQ below (QR ω (some (.int rr)) μo) args s 0 0 (wA ω)) (F0 m 0 ls []) := by
  have hx := C.1
  have hb := C.2.1
  unfold fX12_behindNone at h
  refine lv_aload_n hx hb dX12_behindNone_0 rfl (lv_at hl 0 rfl) ?_
  obtain ⟨μ2, e1, h⟩ := b1_e h
  refine cVv (as := []) (rest := []) (c_X12_copiesStill hW e1) C hl.1 hH hS rfl (jM_0 hW) rfl wd_76 wd_1655 mw_X12_copiesStill wd_1653 rfl (rm_ok (by decide) (by decide)) (Nat.le_of_ble_eq_true rfl) ⟨Nat.zero_le _, Nat.zero_le _⟩ (by decide) dX12_behindNone_1 (fun H locs hH hS => ?_)
  refine lv_iconst (v := 0) hx hb dX12_behindNone_4 (by decide) ?_
  refine lv_istore_n (lv' := [(2, .int 0), (0, .ref (wB ω + 0)), (1, .int x1)]) hx hb dX12_behindNone_5 rfl hl (by decide) rfl (fun ls hl => ?_)
  exact wX12_behindNone_l6 hW C hr hk FU _ _ H locs ls hH hS (lv_sub hl [1, 2, 0] rfl) h
theorem c_X12_behindNone {l : Launch} {ω : WW} {x1 : Int32} (hW : FWM ω) {μ : Mem} {rr : Int32} {μo : Mem} (h : fX12_behindNone x1 μ = some (rr, μo)) : Con l yX12_behindNone cX12_behindNone 3 (some .int) 7 ω [.ref (wB ω + 0), .int x1] μ (some (.int rr)) μo :=
  con_of (by decide) (Nat.le_of_ble_eq_true rfl) (fun p e s m args below meth c ls C hr hk hl hH hS => wX12_behindNone_e hW C hr hk hH hS (lv_sub hl [0, 1] rfl) h)
set_option maxHeartbeats 4000000 in
set_option maxRecDepth 100000 in
theorem wX12_bits_s4 (C : Cx ω p s m args c cX12_bits 3 RX12) (hr : meth.sig.returnType = some .int) (hk : meth.locks = false) {rr : Int32} {μ : Mem} {x0 : Int32} {x1 : Int32} {x2 : Int32} {rec : Int32 → Int32 → Option Int32} (hrec : ∀ (z1 : Int32) (z2 : Int32) (H : Heap) (locs : List Loc) (ls : Array Slot), Hd ω μ H → FS ω s H locs → lv_has ls 3 [(0, .int x0), (1, .int z1), (2, .int z2)] → rec z1 z2 = some rr → W p l e (rmd 1) s m args below meth c H locs 0 0 (MQ below (QR ω (some (.int rr)) μ) args s 0 0 (wA ω)) (F0 m 4 ls [])) {H : Heap} {locs : List Loc} {ls : Array Slot} (hH : Hd ω μ H) (hS : FS ω s H locs) (hl : lv_has ls 3 [(0, .int x0), (1, .int x1), (2, .int x2)]) (h : fX12_bits_s4 rec x0 x1 x2 = some rr) : W p l e (rmd 1) s m args below meth c H locs 0 0 (MQ below (QR ω (some (.int rr)) μ) args s 0 0 (wA ω)) (F0 m 4 ls []) := by
  have hx := C.1
  have hb := C.2.1
  unfold fX12_bits_s4 at h
  refine lv_iload_n hx hb dX12_bits_4 rfl (lv_at hl 2 rfl) ?_
  refine lv_bipush (v := 6) hx hb dX12_bits_5 (by decide) ?_
  refine lv_icmp_ge (tgt := 24) hx hb dX12_bits_7 (by decide) (fun hc => ?_) (fun hc => ?_)
  · have h := ite_t hc h
    refine lv_iload_n hx hb dX12_bits_24 rfl (lv_at hl 1 rfl) ?_
    exact h_iret C hr hk hH hS rfl (by cases h; rfl) dX12_bits_25
  · have h := ite_f hc h
    refine lv_iload_n hx hb dX12_bits_10 rfl (lv_at hl 1 rfl) ?_
    refine lv_iload_n hx hb dX12_bits_11 rfl (lv_at hl 0 rfl) ?_
    refine lv_iload_n hx hb dX12_bits_12 rfl (lv_at hl 2 rfl) ?_
    refine lv_ishr hx hb dX12_bits_13 ?_
    refine lv_iconst (v := 1) hx hb dX12_bits_14 (by decide) ?_
    refine lv_iand hx hb dX12_bits_15 ?_
    refine lv_iadd hx hb dX12_bits_16 ?_
    obtain ⟨y1, e2, h⟩ := bd_e h
    refine h_topi e2 ?_
    refine lv_istore_n (lv' := [(1, .int y1), (0, .int x0), (2, .int x2)]) hx hb dX12_bits_17 rfl hl (by decide) rfl (fun ls hl => ?_)
    refine lv_iinc (v := x2 + 1) (lv' := [(2, .int (x2 + 1)), (1, .int y1), (0, .int x0)]) hx hb dX12_bits_18 hl (k := 2) rfl rfl (by decide) rfl (fun ls hl => ?_)
    refine lv_goto (tgt := 4) hx hb dX12_bits_21 (by decide) ?_
    exact hrec _ _ H locs ls hH hS (lv_sub hl [2, 1, 0] rfl) h
theorem wX12_bits_l4 (C : Cx ω p s m args c cX12_bits 3 RX12) (hr : meth.sig.returnType = some .int) (hk : meth.locks = false) {rr : Int32} {μ : Mem} {x0 : Int32} : ∀ (n : Nat) (x1 : Int32) (x2 : Int32) (H : Heap) (locs : List Loc) (ls : Array Slot), Hd ω μ H → FS ω s H locs → lv_has ls 3 [(0, .int x0), (1, .int x1), (2, .int x2)] → fX12_bits_l4 x0 n x1 x2 = some rr → W p l e (rmd 1) s m args below meth c H locs 0 0 (MQ below (QR ω (some (.int rr)) μ) args s 0 0 (wA ω)) (F0 m 4 ls []) := by
  intro n
  induction n with
  | zero => intro x1 x2 H locs ls hH hS hl h; cases h
  | succ n ih => intro x1 x2 H locs ls hH hS hl h; exact wX12_bits_s4 C hr hk ih hH hS hl h
set_option maxHeartbeats 4000000 in
set_option maxRecDepth 100000 in
theorem wX12_bits_e (C : Cx ω p s m args c cX12_bits 3 RX12) (hr : meth.sig.returnType = some .int) (hk : meth.locks = false) {rr : Int32} {μ : Mem} {x0 : Int32} {H : Heap} {locs : List Loc} {ls : Array Slot} (hH : Hd ω μ H) (hS : FS ω s H locs) (hl : lv_has ls 3 [(0, .int x0)]) (h : fX12_bits x0 = some rr) : W p l e (rmd 1) s m args below meth c H locs 0 0 (MQ below (QR ω (some (.int rr)) μ) args s 0 0 (wA ω)) (F0 m 0 ls []) := by
  have hx := C.1
  have hb := C.2.1
  unfold fX12_bits at h
  refine lv_iconst (v := 0) hx hb dX12_bits_0 (by decide) ?_
  refine lv_istore_n (lv' := [(1, .int 0), (0, .int x0)]) hx hb dX12_bits_1 rfl hl (by decide) rfl (fun ls hl => ?_)
  refine lv_iconst (v := 0) hx hb dX12_bits_2 (by decide) ?_
  refine lv_istore_n (lv' := [(2, .int 0), (1, .int 0), (0, .int x0)]) hx hb dX12_bits_3 rfl hl (by decide) rfl (fun ls hl => ?_)
  exact wX12_bits_l4 C hr hk FU _ _ H locs ls hH hS (lv_sub hl [2, 1, 0] rfl) h
theorem c_X12_bits {l : Launch} {ω : WW} {x0 : Int32} {μ : Mem} {rr : Int32} (h : fX12_bits x0 = some rr) : Con l yX12_bits cX12_bits 3 (some .int) 1 ω [.int x0] μ (some (.int rr)) μ :=
  con_of (by decide) (Nat.le_of_ble_eq_true rfl) (fun p e s m args below meth c ls C hr hk hl hH hS => wX12_bits_e C hr hk hH hS (lv_sub hl [0] rfl) h)
set_option maxHeartbeats 4000000 in
set_option maxRecDepth 100000 in
theorem wX12_is_e (hW : FWM ω) (C : Cx ω p s m args c cX12_is 2 RX12) (hr : meth.sig.returnType = some .boolean) (hk : meth.locks = false) {rr : Int32} {μ : Mem} {x1 : Int32} {H : Heap} {locs : List Loc} {ls : Array Slot} (hH : Hd ω μ H) (hS : FS ω s H locs) (hl : lv_has ls 2 [(0, .ref (wB ω + 0)), (1, .int x1)]) (h : fX12_is x1 μ = some rr) : W p l e (rmd 1) s m args below meth c H locs 0 0 (MQ below (QR ω (some (.int rr)) μ) args s 0 0 (wA ω)) (F0 m 0 ls []) := by
  have hx := C.1
  have hb := C.2.1
  unfold fX12_is at h
  refine lv_aload_n hx hb dX12_is_0 rfl (lv_at hl 0 rfl) ?_
  refine g_1200 C hH (jM_0 hW) dX12_is_1 ?_
  refine lv_if_ne (tgt := 24) hx hb dX12_is_4 (by decide) (fun hc => ?_) (fun hc => ?_)
  · have h := ite_f hc h
    refine lv_iconst (v := 0) hx hb dX12_is_24 (by decide) ?_
    exact h_zret (y := 0) C hr hk hH hS rfl (by cases h; rfl) dX12_is_25
  · have h := ite_t hc h
    refine lv_aload_n hx hb dX12_is_7 rfl (lv_at hl 0 rfl) ?_
    refine g_1192 (i := 3) C hH (jM_0 hW) rfl dX12_is_8 ?_
    refine lv_aload_n hx hb dX12_is_11 rfl (lv_at hl 0 rfl) ?_
    refine g_1198 C hH (jM_0 hW) dX12_is_12 ?_
    obtain ⟨b1, h⟩ := gd_e h
    refine h_iald C hH (jM_3 hW).1 (jM_3 hW).2.1 b1 dX12_is_15 ?_
    refine lv_iload_n hx hb dX12_is_16 rfl (lv_at hl 1 rfl) ?_
    refine lv_icmp_ne (tgt := 24) hx hb dX12_is_17 (by decide) (fun hc => ?_) (fun hc => ?_)
    · have h := ite_f hc h
      refine lv_iconst (v := 0) hx hb dX12_is_24 (by decide) ?_
      exact h_zret (y := 0) C hr hk hH hS rfl (by cases h; rfl) dX12_is_25
    · have h := ite_t hc h
      refine lv_iconst (v := 1) hx hb dX12_is_20 (by decide) ?_
      refine lv_goto (tgt := 25) hx hb dX12_is_21 (by decide) ?_
      exact h_zret (y := 1) C hr hk hH hS rfl (by cases h; rfl) dX12_is_25
theorem c_X12_is {l : Launch} {ω : WW} {x1 : Int32} (hW : FWM ω) {μ : Mem} {rr : Int32} (h : fX12_is x1 μ = some rr) : Con l yX12_is cX12_is 2 (some .boolean) 1 ω [.ref (wB ω + 0), .int x1] μ (some (.int rr)) μ :=
  con_of (by decide) (Nat.le_of_ble_eq_true rfl) (fun p e s m args below meth c ls C hr hk hl hH hS => wX12_is_e hW C hr hk hH hS (lv_sub hl [0, 1] rfl) h)
set_option maxHeartbeats 4000000 in
set_option maxRecDepth 100000 in
theorem wX12_fail_e (hW : FWM ω) (C : Cx ω p s m args c cX12_fail 2 RX12) (hr : meth.sig.returnType = none) (hk : meth.locks = false) {μo : Mem} {x1 : Int32} {μ : Mem} {H : Heap} {locs : List Loc} {ls : Array Slot} (hH : Hd ω μ H) (hS : FS ω s H locs) (hl : lv_has ls 2 [(0, .ref (wB ω + 0)), (1, .int x1)]) (h : fX12_fail x1 μ = some μo) : W p l e (rmd 1) s m args below meth c H locs 0 0 (MQ below (QR ω none μo) args s 0 0 (wA ω)) (F0 m 0 ls []) := by
  have hx := C.1
  have hb := C.2.1
  unfold fX12_fail at h
  refine lv_aload_n hx hb dX12_fail_0 rfl (lv_at hl 0 rfl) ?_
  refine g_1200 C hH (jM_0 hW) dX12_fail_1 ?_
  refine lv_if_le (tgt := 8) hx hb dX12_fail_4 (by decide) (fun hc => ?_) (fun hc => ?_)
  · have h := ite_t hc h
    refine lv_aload_n hx hb dX12_fail_8 rfl (lv_at hl 0 rfl) ?_
    refine lv_iload_n hx hb dX12_fail_9 rfl (lv_at hl 1 rfl) ?_
    obtain ⟨μ1, e2, h⟩ := bd_e h
    refine p_1200 C hH hS (jM_0 hW) dX12_fail_10 (fun H locs hH hS => ?_)
    have hH := Hd.to e2 hH
    refine lv_aload_n hx hb dX12_fail_13 rfl (lv_at hl 0 rfl) ?_
    refine lv_aload_n hx hb dX12_fail_14 rfl (lv_at hl 0 rfl) ?_
    refine g_1193 (i := 4) C hH (jM_0 hW) rfl dX12_fail_15 ?_
    refine lv_aload_n hx hb dX12_fail_18 rfl (lv_at hl 0 rfl) ?_
    refine g_1198 C hH (jM_0 hW) dX12_fail_19 ?_
    obtain ⟨b3, h⟩ := gd_e h
    refine h_iald C hH (jM_4 hW).1 (jM_4 hW).2.1 b3 dX12_fail_22 ?_
    obtain ⟨μ4, e5, h⟩ := bd_e h
    refine p_1201 C hH hS (jM_0 hW) dX12_fail_23 (fun H locs hH hS => ?_)
    have hH := Hd.to e5 hH
    exact h_vret C hr hk hH hS (by cases h; rfl) dX12_fail_26
  · have h := ite_f hc h
    exact h_vret C hr hk hH hS (by cases h; rfl) dX12_fail_7
theorem c_X12_fail {l : Launch} {ω : WW} {x1 : Int32} (hW : FWM ω) {μ : Mem} {μo : Mem} (h : fX12_fail x1 μ = some μo) : Con l yX12_fail cX12_fail 2 none 1 ω [.ref (wB ω + 0), .int x1] μ none μo :=
  con_of (by decide) (Nat.le_of_ble_eq_true rfl) (fun p e s m args below meth c ls C hr hk hl hH hS => wX12_fail_e hW C hr hk hH hS (lv_sub hl [0, 1] rfl) h)
set_option maxHeartbeats 4000000 in
set_option maxRecDepth 100000 in
theorem wX12_wrong_e (hW : FWM ω) (C : Cx ω p s m args c cX12_wrong 4 RX12) (hr : meth.sig.returnType = none) (hk : meth.locks = false) {μo : Mem} {x1 : Int32} {x2 : Int32} {μ : Mem} {H : Heap} {locs : List Loc} {ls : Array Slot} (hH : Hd ω μ H) (hS : FS ω s H locs) (hl : lv_has ls 4 [(0, .ref (wB ω + 0)), (1, .int x1), (2, .int x2)]) (h : fX12_wrong x1 x2 μ = some μo) : W p l e (rmd 1) s m args below meth c H locs 0 0 (MQ below (QR ω none μo) args s 0 0 (wA ω)) (F0 m 0 ls []) := by
  have hx := C.1
  have hb := C.2.1
  unfold fX12_wrong at h
  refine lv_aload_n hx hb dX12_wrong_0 rfl (lv_at hl 0 rfl) ?_
  refine g_1193 (i := 4) C hH (jM_0 hW) rfl dX12_wrong_1 ?_
  refine lv_iload_n hx hb dX12_wrong_4 rfl (lv_at hl 2 rfl) ?_
  obtain ⟨b1, h⟩ := gd_e h
  refine h_iald C hH (jM_4 hW).1 (jM_4 hW).2.1 b1 dX12_wrong_5 ?_
  obtain ⟨y2, e3, h⟩ := bd_e h
  refine h_topi e3 ?_
  refine lv_istore_n (lv' := [(3, .int y2), (0, .ref (wB ω + 0)), (1, .int x1), (2, .int x2)]) hx hb dX12_wrong_6 rfl hl (by decide) rfl (fun ls hl => ?_)
  refine lv_aload_n hx hb dX12_wrong_7 rfl (lv_at hl 1 rfl) ?_
  refine g_1200 C hH (jM_0 hW) dX12_wrong_8 ?_
  refine lv_if_gt (tgt := 45) hx hb dX12_wrong_11 (by decide) (fun hc => ?_) (fun hc => ?_)
  · have h := ite_t hc h
    exact h_vret C hr hk hH hS (by cases h; rfl) dX12_wrong_45
  · have h := ite_f hc h
    refine lv_aload_n hx hb dX12_wrong_14 rfl (lv_at hl 1 rfl) ?_
    refine g_1202 C hH (jM_0 hW) dX12_wrong_15 ?_
    refine lv_if_eq (tgt := 46) hx hb dX12_wrong_18 (by decide) (fun hc => ?_) (fun hc => ?_)
    · have h := ite_t hc h
      refine lv_aload_n hx hb dX12_wrong_46 rfl (lv_at hl 1 rfl) ?_
      refine lv_iload_n hx hb dX12_wrong_47 rfl (lv_at hl 2 rfl) ?_
      obtain ⟨μ4, e5, h⟩ := bd_e h
      refine p_1202 C hH hS (jM_0 hW) dX12_wrong_48 (fun H locs hH hS => ?_)
      have hH := Hd.to e5 hH
      refine lv_aload_n hx hb dX12_wrong_51 rfl (lv_at hl 1 rfl) ?_
      refine lv_iload_n hx hb dX12_wrong_52 rfl (lv_at hl 0 rfl) ?_
      obtain ⟨μ6, e7, h⟩ := bd_e h
      refine p_1203 C hH hS (jM_0 hW) dX12_wrong_53 (fun H locs hH hS => ?_)
      have hH := Hd.to e7 hH
      exact h_vret C hr hk hH hS (by cases h; rfl) dX12_wrong_56
    · have h := ite_f hc h
      refine lv_iload_n hx hb dX12_wrong_21 rfl (lv_at hl 0 rfl) ?_
      refine lv_aload_n hx hb dX12_wrong_22 rfl (lv_at hl 1 rfl) ?_
      refine g_1203 C hH (jM_0 hW) dX12_wrong_23 ?_
      refine lv_icmp_gt (tgt := 45) hx hb dX12_wrong_26 (by decide) (fun hc => ?_) (fun hc => ?_)
      · have h := ite_t hc h
        exact h_vret C hr hk hH hS (by cases h; rfl) dX12_wrong_45
      · have h := ite_f hc h
        refine lv_iload_n hx hb dX12_wrong_29 rfl (lv_at hl 0 rfl) ?_
        refine lv_aload_n hx hb dX12_wrong_30 rfl (lv_at hl 1 rfl) ?_
        refine g_1203 C hH (jM_0 hW) dX12_wrong_31 ?_
        refine lv_icmp_ne (tgt := 46) hx hb dX12_wrong_34 (by decide) (fun hc => ?_) (fun hc => ?_)
        · have h := ite_f hc h
          refine lv_aload_n hx hb dX12_wrong_46 rfl (lv_at hl 1 rfl) ?_
          refine lv_iload_n hx hb dX12_wrong_47 rfl (lv_at hl 2 rfl) ?_
          obtain ⟨μ8, e9, h⟩ := bd_e h
          refine p_1202 C hH hS (jM_0 hW) dX12_wrong_48 (fun H locs hH hS => ?_)
          have hH := Hd.to e9 hH
          refine lv_aload_n hx hb dX12_wrong_51 rfl (lv_at hl 1 rfl) ?_
          refine lv_iload_n hx hb dX12_wrong_52 rfl (lv_at hl 0 rfl) ?_
          obtain ⟨μ10, e11, h⟩ := bd_e h
          refine p_1203 C hH hS (jM_0 hW) dX12_wrong_53 (fun H locs hH hS => ?_)
          have hH := Hd.to e11 hH
          exact h_vret C hr hk hH hS (by cases h; rfl) dX12_wrong_56
        · have h := ite_t hc h
          refine lv_iload_n hx hb dX12_wrong_37 rfl (lv_at hl 2 rfl) ?_
          refine lv_aload_n hx hb dX12_wrong_38 rfl (lv_at hl 1 rfl) ?_
          refine g_1202 C hH (jM_0 hW) dX12_wrong_39 ?_
          refine lv_icmp_lt (tgt := 46) hx hb dX12_wrong_42 (by decide) (fun hc => ?_) (fun hc => ?_)
          · have h := ite_t hc h
            refine lv_aload_n hx hb dX12_wrong_46 rfl (lv_at hl 1 rfl) ?_
            refine lv_iload_n hx hb dX12_wrong_47 rfl (lv_at hl 2 rfl) ?_
            obtain ⟨μ12, e13, h⟩ := bd_e h
            refine p_1202 C hH hS (jM_0 hW) dX12_wrong_48 (fun H locs hH hS => ?_)
            have hH := Hd.to e13 hH
            refine lv_aload_n hx hb dX12_wrong_51 rfl (lv_at hl 1 rfl) ?_
            refine lv_iload_n hx hb dX12_wrong_52 rfl (lv_at hl 0 rfl) ?_
            obtain ⟨μ14, e15, h⟩ := bd_e h
            refine p_1203 C hH hS (jM_0 hW) dX12_wrong_53 (fun H locs hH hS => ?_)
            have hH := Hd.to e15 hH
            exact h_vret C hr hk hH hS (by cases h; rfl) dX12_wrong_56
          · have h := ite_f hc h
            exact h_vret C hr hk hH hS (by cases h; rfl) dX12_wrong_45
theorem c_X12_wrong {l : Launch} {ω : WW} {x1 : Int32} {x2 : Int32} (hW : FWM ω) {μ : Mem} {μo : Mem} (h : fX12_wrong x1 x2 μ = some μo) : Con l yX12_wrong cX12_wrong 4 none 1 ω [.ref (wB ω + 0), .int x1, .int x2] μ none μo :=
  con_of (by decide) (Nat.le_of_ble_eq_true rfl) (fun p e s m args below meth c ls C hr hk hl hH hS => wX12_wrong_e hW C hr hk hH hS (lv_sub hl [0, 1, 2] rfl) h)
set_option maxHeartbeats 4000000 in
set_option maxRecDepth 100000 in
theorem wX12_goesOn_e (hW : FWM ω) (C : Cx ω p s m args c cX12_goesOn 1 RX12) (hr : meth.sig.returnType = none) (hk : meth.locks = false) {μo : Mem} {μ : Mem} {H : Heap} {locs : List Loc} {ls : Array Slot} (hH : Hd ω μ H) (hS : FS ω s H locs) (hl : lv_has ls 1 [(0, .ref (wB ω + 0))]) (h : fX12_goesOn μ = some μo) : W p l e (rmd 2) s m args below meth c H locs 0 0 (MQ below (QR ω none μo) args s 0 0 (wA ω)) (F0 m 0 ls []) := by
  have hx := C.1
  have hb := C.2.1
  unfold fX12_goesOn at h
  refine lv_aload_n hx hb dX12_goesOn_0 rfl (lv_at hl 0 rfl) ?_
  refine g_1198 C hH (jM_0 hW) dX12_goesOn_1 ?_
  refine lv_sipush (v := 400) hx hb dX12_goesOn_4 (by decide) ?_
  refine lv_icmp_ne (tgt := 18) hx hb dX12_goesOn_7 (by decide) (fun hc => ?_) (fun hc => ?_)
  · have h := ite_f hc h
    refine lv_aload_n hx hb dX12_goesOn_18 rfl (lv_at hl 0 rfl) ?_
    refine lv_dup hx hb dX12_goesOn_19 rfl ?_
    refine g_1198 C hH (jM_0 hW) dX12_goesOn_20 ?_
    refine lv_iconst (v := 1) hx hb dX12_goesOn_23 (by decide) ?_
    refine lv_iadd hx hb dX12_goesOn_24 ?_
    obtain ⟨μ1, e2, h⟩ := bd_e h
    refine p_1198 C hH hS (jM_0 hW) dX12_goesOn_25 (fun H locs hH hS => ?_)
    have hH := Hd.to e2 hH
    exact h_vret C hr hk hH hS (by cases h; rfl) dX12_goesOn_28
  · have h := ite_t hc h
    refine lv_aload_n hx hb dX12_goesOn_10 rfl (lv_at hl 0 rfl) ?_
    refine lv_iconst (v := 2) hx hb dX12_goesOn_11 (by decide) ?_
    obtain ⟨μ4, e3, h⟩ := b1_e h
    refine cVv (as := [.int 2]) (rest := []) (c_X12_fail hW e3) C hl.1 hH hS rfl (jM_0 hW) rfl wd_40 wd_1443 mw_X12_fail wd_1441 rfl (rm_ok (by decide) (by decide)) (Nat.le_of_ble_eq_true rfl) ⟨Nat.zero_le _, Nat.zero_le _⟩ (by decide) dX12_goesOn_12 (fun H locs hH hS => ?_)
    refine lv_goto (tgt := 28) hx hb dX12_goesOn_15 (by decide) ?_
    exact h_vret C hr hk hH hS (by cases h; rfl) dX12_goesOn_28
theorem c_X12_goesOn {l : Launch} {ω : WW} (hW : FWM ω) {μ : Mem} {μo : Mem} (h : fX12_goesOn μ = some μo) : Con l yX12_goesOn cX12_goesOn 1 none 2 ω [.ref (wB ω + 0)] μ none μo :=
  con_of (by decide) (Nat.le_of_ble_eq_true rfl) (fun p e s m args below meth c ls C hr hk hl hH hS => wX12_goesOn_e hW C hr hk hH hS (lv_sub hl [0] rfl) h)
set_option maxHeartbeats 4000000 in
set_option maxRecDepth 100000 in
theorem wX12_bounded_b42 (hW : FWM ω) (C : Cx ω p s m args c cX12_bounded 4 RX12) (hr : meth.sig.returnType = some .int) (hk : meth.locks = false) {rr : Int32} {μo : Mem} {x3 : Int32} {μ : Mem} {H : Heap} {locs : List Loc} {ls : Array Slot} (hH : Hd ω μ H) (hS : FS ω s H locs) (hl : lv_has ls 4 [(0, .ref (wB ω + 0)), (3, .int x3)]) (h : fX12_bounded_b42 x3 μ = some (rr, μo)) : W p l e (rmd 3) s m args below meth c H locs 0 0 (MQ below (QR ω (some (.int rr)) μo) args s 0 0 (wA ω)) (F0 m 42 ls []) := by
  have hx := C.1
  have hb := C.2.1
  unfold fX12_bounded_b42 at h
  refine lv_aload_n hx hb dX12_bounded_42 rfl (lv_at hl 0 rfl) ?_
  refine lv_iconst (v := 5) hx hb dX12_bounded_43 (by decide) ?_
  refine lv_aload_n hx hb dX12_bounded_44 rfl (lv_at hl 0 rfl) ?_
  refine g_1198 C hH (jM_0 hW) dX12_bounded_45 ?_
  obtain ⟨μ9, e8, h⟩ := b1_e h
  refine cVv (as := [.int 5, .int (μ.1 0 11)]) (rest := []) (c_X12_wrong hW e8) C hl.1 hH hS rfl (jM_0 hW) rfl wd_44 wd_1459 mw_X12_wrong wd_1457 rfl (rm_ok (by decide) (by decide)) (Nat.le_of_ble_eq_true rfl) ⟨Nat.zero_le _, Nat.zero_le _⟩ (by decide) dX12_bounded_48 (fun H locs hH hS => ?_)
  refine lv_aload_n hx hb dX12_bounded_51 rfl (lv_at hl 0 rfl) ?_
  obtain ⟨μ11, e10, h⟩ := b1_e h
  refine cVv (as := []) (rest := []) (c_X12_goesOn hW e10) C hl.1 hH hS rfl (jM_0 hW) rfl wd_42 wd_1451 mw_X12_goesOn wd_1449 rfl (rm_ok (by decide) (by decide)) (Nat.le_of_ble_eq_true rfl) ⟨Nat.zero_le _, Nat.zero_le _⟩ (by decide) dX12_bounded_52 (fun H locs hH hS => ?_)
  refine lv_iload_n hx hb dX12_bounded_55 rfl (lv_at hl 1 rfl) ?_
  exact h_iret C hr hk hH hS rfl (by cases h; rfl) dX12_bounded_56
set_option maxHeartbeats 4000000 in
set_option maxRecDepth 100000 in
theorem wX12_bounded_e (hW : FWM ω) (C : Cx ω p s m args c cX12_bounded 4 RX12) (hr : meth.sig.returnType = some .int) (hk : meth.locks = false) {rr : Int32} {μo : Mem} {x1 : Int32} {x2 : Int32} {μ : Mem} {H : Heap} {locs : List Loc} {ls : Array Slot} (hH : Hd ω μ H) (hS : FS ω s H locs) (hl : lv_has ls 4 [(0, .ref (wB ω + 0)), (1, .int x1), (2, .int x2)]) (h : fX12_bounded x1 x2 μ = some (rr, μo)) : W p l e (rmd 3) s m args below meth c H locs 0 0 (MQ below (QR ω (some (.int rr)) μo) args s 0 0 (wA ω)) (F0 m 0 ls []) := by
  have hx := C.1
  have hb := C.2.1
  unfold fX12_bounded at h
  refine lv_aload_n hx hb dX12_bounded_0 rfl (lv_at hl 0 rfl) ?_
  refine g_1200 C hH (jM_0 hW) dX12_bounded_1 ?_
  refine lv_if_gt (tgt := 15) hx hb dX12_bounded_4 (by decide) (fun hc => ?_) (fun hc => ?_)
  · have h := ite_t hc h
    refine lv_aload_n hx hb dX12_bounded_15 rfl (lv_at hl 0 rfl) ?_
    refine lv_iconst (v := 1) hx hb dX12_bounded_16 (by decide) ?_
    obtain ⟨μ2, e1, h⟩ := b1_e h
    refine cVv (as := [.int 1]) (rest := []) (c_X12_fail hW e1) C hl.1 hH hS rfl (jM_0 hW) rfl wd_40 wd_1443 mw_X12_fail wd_1441 rfl (rm_ok (by decide) (by decide)) (Nat.le_of_ble_eq_true rfl) ⟨Nat.zero_le _, Nat.zero_le _⟩ (by decide) dX12_bounded_17 (fun H locs hH hS => ?_)
    refine lv_iload_n hx hb dX12_bounded_20 rfl (lv_at hl 1 rfl) ?_
    exact h_iret C hr hk hH hS rfl (by cases h; rfl) dX12_bounded_21
  · have h := ite_f hc h
    refine lv_aload_n hx hb dX12_bounded_7 rfl (lv_at hl 0 rfl) ?_
    refine lv_iconst (v := 2) hx hb dX12_bounded_8 (by decide) ?_
    obtain ⟨r4, e3, h⟩ := b1_e h
    refine cVi (as := [.int 2]) (rest := []) (c_X12_is hW e3) C hl.1 hH hS rfl (jM_0 hW) rfl wd_38 wd_1435 mw_X12_is wd_1433 rfl (rm_ok (by decide) (by decide)) (Nat.le_of_ble_eq_true rfl) ⟨Nat.zero_le _, Nat.zero_le _⟩ (by decide) dX12_bounded_9 (fun H locs hH hS => ?_)
    refine lv_if_ne (tgt := 22) hx hb dX12_bounded_12 (by decide) (fun hc => ?_) (fun hc => ?_)
    · have h := ite_f hc h
      refine lv_aload_n hx hb dX12_bounded_22 rfl (lv_at hl 0 rfl) ?_
      refine g_1194 (i := 5) C hH (jM_0 hW) rfl dX12_bounded_23 ?_
      refine lv_aload_n hx hb dX12_bounded_26 rfl (lv_at hl 0 rfl) ?_
      refine g_1198 C hH (jM_0 hW) dX12_bounded_27 ?_
      obtain ⟨b5, h⟩ := gd_e h
      refine h_iald C hH (jM_5 hW).1 (jM_5 hW).2.1 b5 dX12_bounded_30 ?_
      obtain ⟨y6, e7, h⟩ := bd_e h
      refine h_topi e7 ?_
      refine lv_istore_n (lv' := [(3, .int y6), (0, .ref (wB ω + 0)), (1, .int x1), (2, .int x2)]) hx hb dX12_bounded_31 rfl hl (by decide) rfl (fun ls hl => ?_)
      refine lv_iload_n hx hb dX12_bounded_32 rfl (lv_at hl 0 rfl) ?_
      refine lv_iload_n hx hb dX12_bounded_33 rfl (lv_at hl 2 rfl) ?_
      refine lv_icmp_lt (tgt := 42) hx hb dX12_bounded_34 (by decide) (fun hc => ?_) (fun hc => ?_)
      · have h := ite_t hc h
        exact wX12_bounded_b42 hW C hr hk hH hS (lv_sub hl [1, 0] rfl) h
      · have h := ite_f hc h
        refine lv_iload_n hx hb dX12_bounded_37 rfl (lv_at hl 0 rfl) ?_
        refine lv_iload_n hx hb dX12_bounded_38 rfl (lv_at hl 3 rfl) ?_
        refine lv_icmp_le (tgt := 51) hx hb dX12_bounded_39 (by decide) (fun hc => ?_) (fun hc => ?_)
        · have h := ite_t hc h
          refine lv_aload_n hx hb dX12_bounded_51 rfl (lv_at hl 1 rfl) ?_
          obtain ⟨μ13, e12, h⟩ := b1_e h
          refine cVv (as := []) (rest := []) (c_X12_goesOn hW e12) C hl.1 hH hS rfl (jM_0 hW) rfl wd_42 wd_1451 mw_X12_goesOn wd_1449 rfl (rm_ok (by decide) (by decide)) (Nat.le_of_ble_eq_true rfl) ⟨Nat.zero_le _, Nat.zero_le _⟩ (by decide) dX12_bounded_52 (fun H locs hH hS => ?_)
          refine lv_iload_n hx hb dX12_bounded_55 rfl (lv_at hl 0 rfl) ?_
          exact h_iret C hr hk hH hS rfl (by cases h; rfl) dX12_bounded_56
        · have h := ite_f hc h
          exact wX12_bounded_b42 hW C hr hk hH hS (lv_sub hl [1, 0] rfl) h
    · have h := ite_t hc h
      refine lv_aload_n hx hb dX12_bounded_15 rfl (lv_at hl 0 rfl) ?_
      refine lv_iconst (v := 1) hx hb dX12_bounded_16 (by decide) ?_
      obtain ⟨μ15, e14, h⟩ := b1_e h
      refine cVv (as := [.int 1]) (rest := []) (c_X12_fail hW e14) C hl.1 hH hS rfl (jM_0 hW) rfl wd_40 wd_1443 mw_X12_fail wd_1441 rfl (rm_ok (by decide) (by decide)) (Nat.le_of_ble_eq_true rfl) ⟨Nat.zero_le _, Nat.zero_le _⟩ (by decide) dX12_bounded_17 (fun H locs hH hS => ?_)
      refine lv_iload_n hx hb dX12_bounded_20 rfl (lv_at hl 1 rfl) ?_
      exact h_iret C hr hk hH hS rfl (by cases h; rfl) dX12_bounded_21
theorem c_X12_bounded {l : Launch} {ω : WW} {x1 : Int32} {x2 : Int32} (hW : FWM ω) {μ : Mem} {rr : Int32} {μo : Mem} (h : fX12_bounded x1 x2 μ = some (rr, μo)) : Con l yX12_bounded cX12_bounded 4 (some .int) 3 ω [.ref (wB ω + 0), .int x1, .int x2] μ (some (.int rr)) μo :=
  con_of (by decide) (Nat.le_of_ble_eq_true rfl) (fun p e s m args below meth c ls C hr hk hl hH hS => wX12_bounded_e hW C hr hk hH hS (lv_sub hl [0, 1, 2] rfl) h)
set_option maxHeartbeats 4000000 in
set_option maxRecDepth 100000 in
theorem wX12_in_e (C : Cx ω p s m args c cX12_in 3 RX12) (hr : meth.sig.returnType = some .boolean) (hk : meth.locks = false) {rr : Int32} {μ : Mem} {x0 : Int32} {x1 : Int32} {x2 : Int32} {H : Heap} {locs : List Loc} {ls : Array Slot} (hH : Hd ω μ H) (hS : FS ω s H locs) (hl : lv_has ls 3 [(0, .int x0), (1, .int x1), (2, .int x2)]) (h : fX12_in x0 x1 x2 = some rr) : W p l e (rmd 1) s m args below meth c H locs 0 0 (MQ below (QR ω (some (.int rr)) μ) args s 0 0 (wA ω)) (F0 m 0 ls []) := by
  have hx := C.1
  have hb := C.2.1
  unfold fX12_in at h
  refine lv_iload_n hx hb dX12_in_0 rfl (lv_at hl 0 rfl) ?_
  refine lv_iload_n hx hb dX12_in_1 rfl (lv_at hl 1 rfl) ?_
  refine lv_icmp_lt (tgt := 14) hx hb dX12_in_2 (by decide) (fun hc => ?_) (fun hc => ?_)
  · have h := ite_t hc h
    refine lv_iconst (v := 0) hx hb dX12_in_14 (by decide) ?_
    exact h_zret (y := 0) C hr hk hH hS rfl (by cases h; rfl) dX12_in_15
  · have h := ite_f hc h
    refine lv_iload_n hx hb dX12_in_5 rfl (lv_at hl 0 rfl) ?_
    refine lv_iload_n hx hb dX12_in_6 rfl (lv_at hl 2 rfl) ?_
    refine lv_icmp_gt (tgt := 14) hx hb dX12_in_7 (by decide) (fun hc => ?_) (fun hc => ?_)
    · have h := ite_t hc h
      refine lv_iconst (v := 0) hx hb dX12_in_14 (by decide) ?_
      exact h_zret (y := 0) C hr hk hH hS rfl (by cases h; rfl) dX12_in_15
    · have h := ite_f hc h
      refine lv_iconst (v := 1) hx hb dX12_in_10 (by decide) ?_
      refine lv_goto (tgt := 15) hx hb dX12_in_11 (by decide) ?_
      exact h_zret (y := 1) C hr hk hH hS rfl (by cases h; rfl) dX12_in_15
theorem c_X12_in {l : Launch} {ω : WW} {x0 : Int32} {x1 : Int32} {x2 : Int32} {μ : Mem} {rr : Int32} (h : fX12_in x0 x1 x2 = some rr) : Con l yX12_in cX12_in 3 (some .boolean) 1 ω [.int x0, .int x1, .int x2] μ (some (.int rr)) μ :=
  con_of (by decide) (Nat.le_of_ble_eq_true rfl) (fun p e s m args below meth c ls C hr hk hl hH hS => wX12_in_e C hr hk hH hS (lv_sub hl [0, 1, 2] rfl) h)
set_option maxHeartbeats 4000000 in
set_option maxRecDepth 100000 in
theorem wX12_keepsRow_s2 (hW : FWM ω) (C : Cx ω p s m args c cX12_keepsRow 2 RX12) (hr : meth.sig.returnType = none) (hk : meth.locks = false) {μo : Mem} {x1 : Int32} {rec : Int32 → Mem → Option Mem} (hrec : ∀ (z1 : Int32) (ν : Mem) (H : Heap) (locs : List Loc) (ls : Array Slot), Hd ω ν H → FS ω s H locs → lv_has ls 2 [(0, .ref (wB ω + 0)), (1, .int z1)] → rec z1 ν = some μo → W p l e (rmd 1) s m args below meth c H locs 0 0 (MQ below (QR ω none μo) args s 0 0 (wA ω)) (F0 m 2 ls [])) {μ : Mem} {H : Heap} {locs : List Loc} {ls : Array Slot} (hH : Hd ω μ H) (hS : FS ω s H locs) (hl : lv_has ls 2 [(0, .ref (wB ω + 0)), (1, .int x1)]) (h : fX12_keepsRow_s2 rec x1 μ = some μo) : W p l e (rmd 1) s m args below meth c H locs 0 0 (MQ below (QR ω none μo) args s 0 0 (wA ω)) (F0 m 2 ls []) := by
  have hx := C.1
  have hb := C.2.1
  unfold fX12_keepsRow_s2 at h
  refine lv_iload_n hx hb dX12_keepsRow_2 rfl (lv_at hl 1 rfl) ?_
  refine lv_bipush (v := 39) hx hb dX12_keepsRow_3 (by decide) ?_
  refine lv_icmp_ge (tgt := 26) hx hb dX12_keepsRow_5 (by decide) (fun hc => ?_) (fun hc => ?_)
  · have h := ite_t hc h
    exact h_vret C hr hk hH hS (by cases h; rfl) dX12_keepsRow_26
  · have h := ite_f hc h
    refine lv_aload_n hx hb dX12_keepsRow_8 rfl (lv_at hl 0 rfl) ?_
    refine g_1234 (i := 31) C hH (jM_0 hW) rfl dX12_keepsRow_9 ?_
    refine lv_iload_n hx hb dX12_keepsRow_12 rfl (lv_at hl 1 rfl) ?_
    refine lv_aload_n hx hb dX12_keepsRow_13 rfl (lv_at hl 0 rfl) ?_
    refine g_1235 (i := 32) C hH (jM_0 hW) rfl dX12_keepsRow_14 ?_
    refine lv_iload_n hx hb dX12_keepsRow_17 rfl (lv_at hl 1 rfl) ?_
    obtain ⟨b1, h⟩ := gd_e h
    refine h_iald C hH (jM_32 hW).1 (jM_32 hW).2.1 b1 dX12_keepsRow_18 ?_
    obtain ⟨b2, h⟩ := gd_e h
    obtain ⟨μ3, e4, h⟩ := bd_e h
    refine h_iast C hH hS (jM_31 hW).1 (jM_31 hW).2.1 b2 dX12_keepsRow_19 (fun H locs hH hS => ?_)
    have hH := Hd.to e4 hH
    refine lv_iinc (v := x1 + 1) (lv' := [(1, .int (x1 + 1)), (0, .ref (wB ω + 0))]) hx hb dX12_keepsRow_20 hl (k := 1) rfl rfl (by decide) rfl (fun ls hl => ?_)
    refine lv_goto (tgt := 2) hx hb dX12_keepsRow_23 (by decide) ?_
    exact hrec _ _ H locs ls hH hS (lv_sub hl [1, 0] rfl) h
theorem wX12_keepsRow_l2 (hW : FWM ω) (C : Cx ω p s m args c cX12_keepsRow 2 RX12) (hr : meth.sig.returnType = none) (hk : meth.locks = false) {μo : Mem} : ∀ (n : Nat) (x1 : Int32) (μ : Mem) (H : Heap) (locs : List Loc) (ls : Array Slot), Hd ω μ H → FS ω s H locs → lv_has ls 2 [(0, .ref (wB ω + 0)), (1, .int x1)] → fX12_keepsRow_l2 n x1 μ = some μo → W p l e (rmd 1) s m args below meth c H locs 0 0 (MQ below (QR ω none μo) args s 0 0 (wA ω)) (F0 m 2 ls []) := by
  intro n
  induction n with
  | zero => intro x1 μ H locs ls hH hS hl h; cases h
  | succ n ih => intro x1 μ H locs ls hH hS hl h; exact wX12_keepsRow_s2 hW C hr hk ih hH hS hl h
set_option maxHeartbeats 4000000 in
set_option maxRecDepth 100000 in
theorem wX12_keepsRow_e (hW : FWM ω) (C : Cx ω p s m args c cX12_keepsRow 2 RX12) (hr : meth.sig.returnType = none) (hk : meth.locks = false) {μo : Mem} {μ : Mem} {H : Heap} {locs : List Loc} {ls : Array Slot} (hH : Hd ω μ H) (hS : FS ω s H locs) (hl : lv_has ls 2 [(0, .ref (wB ω + 0))]) (h : fX12_keepsRow μ = some μo) : W p l e (rmd 1) s m args below meth c H locs 0 0 (MQ below (QR ω none μo) args s 0 0 (wA ω)) (F0 m 0 ls []) := by
  have hx := C.1
  have hb := C.2.1
  unfold fX12_keepsRow at h
  refine lv_iconst (v := 0) hx hb dX12_keepsRow_0 (by decide) ?_
  refine lv_istore_n (lv' := [(1, .int 0), (0, .ref (wB ω + 0))]) hx hb dX12_keepsRow_1 rfl hl (by decide) rfl (fun ls hl => ?_)
  exact wX12_keepsRow_l2 hW C hr hk FU _ _ H locs ls hH hS (lv_sub hl [1, 0] rfl) h
theorem c_X12_keepsRow {l : Launch} {ω : WW} (hW : FWM ω) {μ : Mem} {μo : Mem} (h : fX12_keepsRow μ = some μo) : Con l yX12_keepsRow cX12_keepsRow 2 none 1 ω [.ref (wB ω + 0)] μ none μo :=
  con_of (by decide) (Nat.le_of_ble_eq_true rfl) (fun p e s m args below meth c ls C hr hk hl hH hS => wX12_keepsRow_e hW C hr hk hH hS (lv_sub hl [0] rfl) h)
set_option maxHeartbeats 4000000 in
set_option maxRecDepth 100000 in
theorem wX12_records_s51 (hW : FWM ω) (C : Cx ω p s m args c cX12_records 2 RX12) (hr : meth.sig.returnType = none) (hk : meth.locks = false) {μo : Mem} {x1 : Int32} {rec : Int32 → Mem → Option Mem} (hrec : ∀ (z1 : Int32) (ν : Mem) (H : Heap) (locs : List Loc) (ls : Array Slot), Hd ω ν H → FS ω s H locs → lv_has ls 2 [(0, .ref (wB ω + 0)), (1, .int z1)] → rec z1 ν = some μo → W p l e (rmd 2) s m args below meth c H locs 0 0 (MQ below (QR ω none μo) args s 0 0 (wA ω)) (F0 m 51 ls [])) {μ : Mem} {H : Heap} {locs : List Loc} {ls : Array Slot} (hH : Hd ω μ H) (hS : FS ω s H locs) (hl : lv_has ls 2 [(0, .ref (wB ω + 0)), (1, .int x1)]) (h : fX12_records_s51 rec x1 μ = some μo) : W p l e (rmd 2) s m args below meth c H locs 0 0 (MQ below (QR ω none μo) args s 0 0 (wA ω)) (F0 m 51 ls []) := by
  have hx := C.1
  have hb := C.2.1
  unfold fX12_records_s51 at h
  refine lv_iload_n hx hb dX12_records_51 rfl (lv_at hl 1 rfl) ?_
  refine lv_bipush (v := 39) hx hb dX12_records_52 (by decide) ?_
  refine lv_icmp_ge (tgt := 83) hx hb dX12_records_54 (by decide) (fun hc => ?_) (fun hc => ?_)
  · have h := ite_t hc h
    refine lv_aload_n hx hb dX12_records_83 rfl (lv_at hl 0 rfl) ?_
    refine lv_dup hx hb dX12_records_84 rfl ?_
    refine g_1240 C hH (jM_0 hW) dX12_records_85 ?_
    refine lv_iconst (v := 1) hx hb dX12_records_88 (by decide) ?_
    refine lv_iadd hx hb dX12_records_89 ?_
    obtain ⟨μ1, e2, h⟩ := bd_e h
    refine p_1240 C hH hS (jM_0 hW) dX12_records_90 (fun H locs hH hS => ?_)
    have hH := Hd.to e2 hH
    refine lv_aload_n hx hb dX12_records_93 rfl (lv_at hl 0 rfl) ?_
    obtain ⟨μ4, e3, h⟩ := b1_e h
    refine cVv (as := []) (rest := []) (c_X12_keepsRow hW e3) C hl.1 hH hS rfl (jM_0 hW) rfl wd_32 wd_1186 mw_X12_keepsRow wd_1184 rfl (rm_ok (by decide) (by decide)) (Nat.le_of_ble_eq_true rfl) ⟨Nat.zero_le _, Nat.zero_le _⟩ (by decide) dX12_records_94 (fun H locs hH hS => ?_)
    exact h_vret C hr hk hH hS (by cases h; rfl) dX12_records_97
  · have h := ite_f hc h
    refine lv_aload_n hx hb dX12_records_57 rfl (lv_at hl 0 rfl) ?_
    refine g_1241 (i := 35) C hH (jM_0 hW) rfl dX12_records_58 ?_
    refine lv_bipush (v := 39) hx hb dX12_records_61 (by decide) ?_
    refine lv_aload_n hx hb dX12_records_63 rfl (lv_at hl 0 rfl) ?_
    refine g_1240 C hH (jM_0 hW) dX12_records_64 ?_
    refine lv_imul hx hb dX12_records_67 ?_
    refine lv_iload_n hx hb dX12_records_68 rfl (lv_at hl 1 rfl) ?_
    refine lv_iadd hx hb dX12_records_69 ?_
    refine lv_aload_n hx hb dX12_records_70 rfl (lv_at hl 0 rfl) ?_
    refine g_1234 (i := 31) C hH (jM_0 hW) rfl dX12_records_71 ?_
    refine lv_iload_n hx hb dX12_records_74 rfl (lv_at hl 1 rfl) ?_
    obtain ⟨b5, h⟩ := gd_e h
    refine h_iald C hH (jM_31 hW).1 (jM_31 hW).2.1 b5 dX12_records_75 ?_
    obtain ⟨b6, h⟩ := gd_e h
    obtain ⟨μ7, e8, h⟩ := bd_e h
    refine h_iast C hH hS (jM_35 hW).1 (jM_35 hW).2.1 b6 dX12_records_76 (fun H locs hH hS => ?_)
    have hH := Hd.to e8 hH
    refine lv_iinc (v := x1 + 1) (lv' := [(1, .int (x1 + 1)), (0, .ref (wB ω + 0))]) hx hb dX12_records_77 hl (k := 1) rfl rfl (by decide) rfl (fun ls hl => ?_)
    refine lv_goto (tgt := 51) hx hb dX12_records_80 (by decide) ?_
    exact hrec _ _ H locs ls hH hS (lv_sub hl [1, 0] rfl) h
theorem wX12_records_l51 (hW : FWM ω) (C : Cx ω p s m args c cX12_records 2 RX12) (hr : meth.sig.returnType = none) (hk : meth.locks = false) {μo : Mem} : ∀ (n : Nat) (x1 : Int32) (μ : Mem) (H : Heap) (locs : List Loc) (ls : Array Slot), Hd ω μ H → FS ω s H locs → lv_has ls 2 [(0, .ref (wB ω + 0)), (1, .int x1)] → fX12_records_l51 n x1 μ = some μo → W p l e (rmd 2) s m args below meth c H locs 0 0 (MQ below (QR ω none μo) args s 0 0 (wA ω)) (F0 m 51 ls []) := by
  intro n
  induction n with
  | zero => intro x1 μ H locs ls hH hS hl h; cases h
  | succ n ih => intro x1 μ H locs ls hH hS hl h; exact wX12_records_s51 hW C hr hk ih hH hS hl h
set_option maxHeartbeats 4000000 in
set_option maxRecDepth 100000 in
theorem wX12_records_b49 (hW : FWM ω) (C : Cx ω p s m args c cX12_records 2 RX12) (hr : meth.sig.returnType = none) (hk : meth.locks = false) {μo : Mem} {μ : Mem} {H : Heap} {locs : List Loc} {ls : Array Slot} (hH : Hd ω μ H) (hS : FS ω s H locs) (hl : lv_has ls 2 [(0, .ref (wB ω + 0))]) (h : fX12_records_b49 μ = some μo) : W p l e (rmd 2) s m args below meth c H locs 0 0 (MQ below (QR ω none μo) args s 0 0 (wA ω)) (F0 m 49 ls []) := by
  have hx := C.1
  have hb := C.2.1
  unfold fX12_records_b49 at h
  refine lv_iconst (v := 0) hx hb dX12_records_49 (by decide) ?_
  refine lv_istore_n (lv' := [(1, .int 0), (0, .ref (wB ω + 0))]) hx hb dX12_records_50 rfl hl (by decide) rfl (fun ls hl => ?_)
  exact wX12_records_l51 hW C hr hk FU _ _ H locs ls hH hS (lv_sub hl [1, 0] rfl) h
set_option maxHeartbeats 4000000 in
set_option maxRecDepth 100000 in
theorem wX12_records_s11 (hW : FWM ω) (C : Cx ω p s m args c cX12_records 2 RX12) (hr : meth.sig.returnType = none) (hk : meth.locks = false) {μo : Mem} {x1 : Int32} {rec : Int32 → Mem → Option Mem} (hrec : ∀ (z1 : Int32) (ν : Mem) (H : Heap) (locs : List Loc) (ls : Array Slot), Hd ω ν H → FS ω s H locs → lv_has ls 2 [(0, .ref (wB ω + 0)), (1, .int z1)] → rec z1 ν = some μo → W p l e (rmd 2) s m args below meth c H locs 0 0 (MQ below (QR ω none μo) args s 0 0 (wA ω)) (F0 m 11 ls [])) {K : Mem → Option Mem} (hK : ∀ (ν : Mem) (H : Heap) (locs : List Loc) (ls : Array Slot), Hd ω ν H → FS ω s H locs → lv_has ls 2 [(0, .ref (wB ω + 0))] → K ν = some μo → W p l e (rmd 2) s m args below meth c H locs 0 0 (MQ below (QR ω none μo) args s 0 0 (wA ω)) (F0 m 39 ls [])) {μ : Mem} {H : Heap} {locs : List Loc} {ls : Array Slot} (hH : Hd ω μ H) (hS : FS ω s H locs) (hl : lv_has ls 2 [(0, .ref (wB ω + 0)), (1, .int x1)]) (h : fX12_records_s11 rec K x1 μ = some μo) : W p l e (rmd 2) s m args below meth c H locs 0 0 (MQ below (QR ω none μo) args s 0 0 (wA ω)) (F0 m 11 ls []) := by
  have hx := C.1
  have hb := C.2.1
  unfold fX12_records_s11 at h
  refine lv_iload_n hx hb dX12_records_11 rfl (lv_at hl 1 rfl) ?_
  refine lv_sipush (v := 1521) hx hb dX12_records_12 (by decide) ?_
  refine lv_icmp_ge (tgt := 39) hx hb dX12_records_15 (by decide) (fun hc => ?_) (fun hc => ?_)
  · have h := ite_t hc h
    exact hK _ H locs ls hH hS (lv_sub hl [0] rfl) h
  · have h := ite_f hc h
    refine lv_aload_n hx hb dX12_records_18 rfl (lv_at hl 0 rfl) ?_
    refine g_1241 (i := 35) C hH (jM_0 hW) rfl dX12_records_19 ?_
    refine lv_iload_n hx hb dX12_records_22 rfl (lv_at hl 1 rfl) ?_
    refine lv_aload_n hx hb dX12_records_23 rfl (lv_at hl 0 rfl) ?_
    refine g_1241 (i := 35) C hH (jM_0 hW) rfl dX12_records_24 ?_
    refine lv_iload_n hx hb dX12_records_27 rfl (lv_at hl 1 rfl) ?_
    refine lv_bipush (v := 39) hx hb dX12_records_28 (by decide) ?_
    refine lv_iadd hx hb dX12_records_30 ?_
    obtain ⟨b9, h⟩ := gd_e h
    refine h_iald C hH (jM_35 hW).1 (jM_35 hW).2.1 b9 dX12_records_31 ?_
    obtain ⟨b10, h⟩ := gd_e h
    obtain ⟨μ11, e12, h⟩ := bd_e h
    refine h_iast C hH hS (jM_35 hW).1 (jM_35 hW).2.1 b10 dX12_records_32 (fun H locs hH hS => ?_)
    have hH := Hd.to e12 hH
    refine lv_iinc (v := x1 + 1) (lv' := [(1, .int (x1 + 1)), (0, .ref (wB ω + 0))]) hx hb dX12_records_33 hl (k := 1) rfl rfl (by decide) rfl (fun ls hl => ?_)
    refine lv_goto (tgt := 11) hx hb dX12_records_36 (by decide) ?_
    exact hrec _ _ H locs ls hH hS (lv_sub hl [1, 0] rfl) h
theorem wX12_records_l11 (hW : FWM ω) (C : Cx ω p s m args c cX12_records 2 RX12) (hr : meth.sig.returnType = none) (hk : meth.locks = false) {μo : Mem} {K : Mem → Option Mem} (hK : ∀ (ν : Mem) (H : Heap) (locs : List Loc) (ls : Array Slot), Hd ω ν H → FS ω s H locs → lv_has ls 2 [(0, .ref (wB ω + 0))] → K ν = some μo → W p l e (rmd 2) s m args below meth c H locs 0 0 (MQ below (QR ω none μo) args s 0 0 (wA ω)) (F0 m 39 ls [])) : ∀ (n : Nat) (x1 : Int32) (μ : Mem) (H : Heap) (locs : List Loc) (ls : Array Slot), Hd ω μ H → FS ω s H locs → lv_has ls 2 [(0, .ref (wB ω + 0)), (1, .int x1)] → fX12_records_l11 K n x1 μ = some μo → W p l e (rmd 2) s m args below meth c H locs 0 0 (MQ below (QR ω none μo) args s 0 0 (wA ω)) (F0 m 11 ls []) := by
  intro n
  induction n with
  | zero => intro x1 μ H locs ls hH hS hl h; cases h
  | succ n ih => intro x1 μ H locs ls hH hS hl h; exact wX12_records_s11 hW C hr hk ih hK hH hS hl h
set_option maxHeartbeats 4000000 in
set_option maxRecDepth 100000 in
theorem wX12_records_e (hW : FWM ω) (C : Cx ω p s m args c cX12_records 2 RX12) (hr : meth.sig.returnType = none) (hk : meth.locks = false) {μo : Mem} {μ : Mem} {H : Heap} {locs : List Loc} {ls : Array Slot} (hH : Hd ω μ H) (hS : FS ω s H locs) (hl : lv_has ls 2 [(0, .ref (wB ω + 0))]) (h : fX12_records μ = some μo) : W p l e (rmd 2) s m args below meth c H locs 0 0 (MQ below (QR ω none μo) args s 0 0 (wA ω)) (F0 m 0 ls []) := by
  have hx := C.1
  have hb := C.2.1
  unfold fX12_records at h
  refine lv_aload_n hx hb dX12_records_0 rfl (lv_at hl 0 rfl) ?_
  refine g_1240 C hH (jM_0 hW) dX12_records_1 ?_
  refine lv_bipush (v := 40) hx hb dX12_records_4 (by decide) ?_
  refine lv_icmp_ne (tgt := 49) hx hb dX12_records_6 (by decide) (fun hc => ?_) (fun hc => ?_)
  · have h := ite_f hc h
    exact wX12_records_b49 hW C hr hk hH hS hl h
  · have h := ite_t hc h
    refine lv_iconst (v := 0) hx hb dX12_records_9 (by decide) ?_
    refine lv_istore_n (lv' := [(1, .int 0), (0, .ref (wB ω + 0))]) hx hb dX12_records_10 rfl hl (by decide) rfl (fun ls hl => ?_)
    refine wX12_records_l11 hW C hr hk (fun μ13 H locs ls hH hS hl h => ?_) FU _ _ H locs ls hH hS (lv_sub hl [1, 0] rfl) h
    refine lv_aload_n hx hb dX12_records_39 rfl (lv_at hl 0 rfl) ?_
    refine lv_dup hx hb dX12_records_40 rfl ?_
    refine g_1240 C hH (jM_0 hW) dX12_records_41 ?_
    refine lv_iconst (v := 1) hx hb dX12_records_44 (by decide) ?_
    refine lv_isub hx hb dX12_records_45 ?_
    obtain ⟨μ14, e15, h⟩ := bd_e h
    refine p_1240 C hH hS (jM_0 hW) dX12_records_46 (fun H locs hH hS => ?_)
    have hH := Hd.to e15 hH
    exact wX12_records_b49 hW C hr hk hH hS hl h
theorem c_X12_records {l : Launch} {ω : WW} (hW : FWM ω) {μ : Mem} {μo : Mem} (h : fX12_records μ = some μo) : Con l yX12_records cX12_records 2 none 2 ω [.ref (wB ω + 0)] μ none μo :=
  con_of (by decide) (Nat.le_of_ble_eq_true rfl) (fun p e s m args below meth c ls C hr hk hl hH hS => wX12_records_e hW C hr hk hH hS (lv_sub hl [0] rfl) h)
set_option maxHeartbeats 4000000 in
set_option maxRecDepth 100000 in
theorem wX12_bring_e (hW : FWM ω) (C : Cx ω p s m args c cX12_bring 2 RX12) (hr : meth.sig.returnType = some .int) (hk : meth.locks = false) {rr : Int32} {μo : Mem} {x1 : Int32} {μ : Mem} {H : Heap} {locs : List Loc} {ls : Array Slot} (hH : Hd ω μ H) (hS : FS ω s H locs) (hl : lv_has ls 2 [(0, .ref (wB ω + 0)), (1, .int x1)]) (h : fX12_bring x1 μ = some (rr, μo)) : W p l e (rmd 3) s m args below meth c H locs 0 0 (MQ below (QR ω (some (.int rr)) μo) args s 0 0 (wA ω)) (F0 m 0 ls []) := by
  have hx := C.1
  have hb := C.2.1
  unfold fX12_bring at h
  refine lv_iload_n hx hb dX12_bring_0 rfl (lv_at hl 1 rfl) ?_
  refine lv_iconst (v := 1) hx hb dX12_bring_1 (by decide) ?_
  refine lv_bipush (v := 99) hx hb dX12_bring_2 (by decide) ?_
  obtain ⟨r2, e1, h⟩ := b1_e h
  refine cSi (as := [.int x1, .int 1, .int 99]) (rest := []) (c_X12_in e1) C hl.1 hH hS rfl wd_1506 mw_X12_in wd_1505 rfl (rm_ok (by decide) (by decide)) (Nat.le_of_ble_eq_true rfl) ⟨Nat.zero_le _, Nat.zero_le _⟩ dX12_bring_4 (fun H locs hH hS => ?_)
  refine lv_if_ne (tgt := 12) hx hb dX12_bring_7 (by decide) (fun hc => ?_) (fun hc => ?_)
  · have h := ite_f hc h
    refine lv_aload_n hx hb dX12_bring_12 rfl (lv_at hl 0 rfl) ?_
    obtain ⟨μ4, e3, h⟩ := b1_e h
    refine cVv (as := []) (rest := []) (c_X12_copies hW e3) C hl.1 hH hS rfl (jM_0 hW) rfl wd_54 wd_1510 mw_X12_copies wd_1508 rfl (rm_ok (by decide) (by decide)) (Nat.le_of_ble_eq_true rfl) ⟨Nat.zero_le _, Nat.zero_le _⟩ (by decide) dX12_bring_13 (fun H locs hH hS => ?_)
    refine lv_aload_n hx hb dX12_bring_16 rfl (lv_at hl 0 rfl) ?_
    refine g_1235 (i := 32) C hH (jM_0 hW) rfl dX12_bring_17 ?_
    refine lv_bipush (v := 37) hx hb dX12_bring_20 (by decide) ?_
    refine lv_aload_n hx hb dX12_bring_22 rfl (lv_at hl 0 rfl) ?_
    refine g_1235 (i := 32) C hH (jM_0 hW) rfl dX12_bring_23 ?_
    refine lv_bipush (v := 37) hx hb dX12_bring_26 (by decide) ?_
    refine h_iald C hH (jM_32 hW).1 (jM_32 hW).2.1 (by decide) dX12_bring_28 ?_
    refine h_topi (y := μ4.1 32 37) rfl ?_
    refine lv_iload_n hx hb dX12_bring_29 rfl (lv_at hl 1 rfl) ?_
    refine lv_iadd hx hb dX12_bring_30 ?_
    refine lv_iconst (v := 0) hx hb dX12_bring_31 (by decide) ?_
    refine lv_sipush (v := 9999) hx hb dX12_bring_32 (by decide) ?_
    obtain ⟨r6, e5, h⟩ := b1_e h
    refine cSi (as := [.int ((μ4.1 32 37) + x1), .int 0, .int 9999]) (rest := [.int 37, .ref (wB ω + 32)]) (c_X12_within e5) C hl.1 hH hS rfl wd_1533 mw_X12_within wd_1532 rfl (rm_ok (by decide) (by decide)) (Nat.le_of_ble_eq_true rfl) ⟨Nat.zero_le _, Nat.zero_le _⟩ dX12_bring_35 (fun H locs hH hS => ?_)
    obtain ⟨μ7, e8, h⟩ := bd_e h
    refine h_iast C hH hS (jM_32 hW).1 (jM_32 hW).2.1 (by decide) dX12_bring_38 (fun H locs hH hS => ?_)
    have hH := Hd.to e8 hH
    refine lv_aload_n hx hb dX12_bring_39 rfl (lv_at hl 0 rfl) ?_
    obtain ⟨μ10, e9, h⟩ := b1_e h
    refine cVv (as := []) (rest := []) (c_X12_records hW e9) C hl.1 hH hS rfl (jM_0 hW) rfl wd_65 wd_1561 mw_X12_records wd_1559 rfl (rm_ok (by decide) (by decide)) (Nat.le_of_ble_eq_true rfl) ⟨Nat.zero_le _, Nat.zero_le _⟩ (by decide) dX12_bring_40 (fun H locs hH hS => ?_)
    refine lv_aload_n hx hb dX12_bring_43 rfl (lv_at hl 0 rfl) ?_
    refine g_1234 (i := 31) C hH (jM_0 hW) rfl dX12_bring_44 ?_
    refine lv_bipush (v := 37) hx hb dX12_bring_47 (by decide) ?_
    refine h_iald C hH (jM_31 hW).1 (jM_31 hW).2.1 (by decide) dX12_bring_49 ?_
    refine h_topi (y := μ10.1 31 37) rfl ?_
    exact h_iret C hr hk hH hS rfl (by cases h; rfl) dX12_bring_50
  · have h := ite_t hc h
    refine lv_iconst (v := (-1)) hx hb dX12_bring_10 (by decide) ?_
    exact h_iret C hr hk hH hS rfl (by cases h; rfl) dX12_bring_11
theorem c_X12_bring {l : Launch} {ω : WW} {x1 : Int32} (hW : FWM ω) {μ : Mem} {rr : Int32} {μo : Mem} (h : fX12_bring x1 μ = some (rr, μo)) : Con l yX12_bring cX12_bring 2 (some .int) 3 ω [.ref (wB ω + 0), .int x1] μ (some (.int rr)) μo :=
  con_of (by decide) (Nat.le_of_ble_eq_true rfl) (fun p e s m args below meth c ls C hr hk hl hH hS => wX12_bring_e hW C hr hk hH hS (lv_sub hl [0, 1] rfl) h)
set_option maxHeartbeats 4000000 in
set_option maxRecDepth 100000 in
theorem wX12_isHouse_e (hW : FWM ω) (C : Cx ω p s m args c cX12_isHouse 2 RX12) (hr : meth.sig.returnType = some .boolean) (hk : meth.locks = false) {rr : Int32} {μ : Mem} {x1 : Int32} {H : Heap} {locs : List Loc} {ls : Array Slot} (hH : Hd ω μ H) (hS : FS ω s H locs) (hl : lv_has ls 2 [(0, .ref (wB ω + 0)), (1, .int x1)]) (h : fX12_isHouse x1 μ = some rr) : W p l e (rmd 2) s m args below meth c H locs 0 0 (MQ below (QR ω (some (.int rr)) μ) args s 0 0 (wA ω)) (F0 m 0 ls []) := by
  have hx := C.1
  have hb := C.2.1
  unfold fX12_isHouse at h
  refine lv_iload_n hx hb dX12_isHouse_0 rfl (lv_at hl 1 rfl) ?_
  refine lv_iconst (v := 0) hx hb dX12_isHouse_1 (by decide) ?_
  refine lv_aload_n hx hb dX12_isHouse_2 rfl (lv_at hl 0 rfl) ?_
  obtain ⟨r2, e1, h⟩ := b1_e h
  refine cVi (as := []) (rest := [.int 0, .int x1]) (c_X12_many hW e1) C hl.1 hH hS rfl (jM_0 hW) rfl wd_31 wd_1182 mw_X12_many wd_1180 rfl (rm_ok (by decide) (by decide)) (Nat.le_of_ble_eq_true rfl) ⟨Nat.zero_le _, Nat.zero_le _⟩ (by decide) dX12_isHouse_3 (fun H locs hH hS => ?_)
  refine lv_iconst (v := 1) hx hb dX12_isHouse_6 (by decide) ?_
  refine lv_isub hx hb dX12_isHouse_7 ?_
  obtain ⟨r4, e3, h⟩ := b1_e h
  refine cSi (as := [.int x1, .int 0, .int (r2 - 1)]) (rest := []) (c_X12_in e3) C hl.1 hH hS rfl wd_1506 mw_X12_in wd_1505 rfl (rm_ok (by decide) (by decide)) (Nat.le_of_ble_eq_true rfl) ⟨Nat.zero_le _, Nat.zero_le _⟩ dX12_isHouse_8 (fun H locs hH hS => ?_)
  exact h_zret (y := r4 &&& 1) C hr hk hH hS rfl (by cases h; rfl) dX12_isHouse_11
theorem c_X12_isHouse {l : Launch} {ω : WW} {x1 : Int32} (hW : FWM ω) {μ : Mem} {rr : Int32} (h : fX12_isHouse x1 μ = some rr) : Con l yX12_isHouse cX12_isHouse 2 (some .boolean) 2 ω [.ref (wB ω + 0), .int x1] μ (some (.int rr)) μ :=
  con_of (by decide) (Nat.le_of_ble_eq_true rfl) (fun p e s m args below meth c ls C hr hk hl hH hS => wX12_isHouse_e hW C hr hk hH hS (lv_sub hl [0, 1] rfl) h)
set_option maxHeartbeats 4000000 in
set_option maxRecDepth 100000 in
theorem wX12_warmsOf_e (hW : FWM ω) (C : Cx ω p s m args c cX12_warmsOf 2 RX12) (hr : meth.sig.returnType = some .int) (hk : meth.locks = false) {rr : Int32} {μo : Mem} {x1 : Int32} {μ : Mem} {H : Heap} {locs : List Loc} {ls : Array Slot} (hH : Hd ω μ H) (hS : FS ω s H locs) (hl : lv_has ls 2 [(0, .ref (wB ω + 0)), (1, .int x1)]) (h : fX12_warmsOf x1 μ = some (rr, μo)) : W p l e (rmd 4) s m args below meth c H locs 0 0 (MQ below (QR ω (some (.int rr)) μo) args s 0 0 (wA ω)) (F0 m 0 ls []) := by
  have hx := C.1
  have hb := C.2.1
  unfold fX12_warmsOf at h
  refine lv_aload_n hx hb dX12_warmsOf_0 rfl (lv_at hl 0 rfl) ?_
  refine lv_iload_n hx hb dX12_warmsOf_1 rfl (lv_at hl 1 rfl) ?_
  refine lv_iconst (v := 1) hx hb dX12_warmsOf_2 (by decide) ?_
  refine lv_iconst (v := 5) hx hb dX12_warmsOf_3 (by decide) ?_
  refine lv_bipush (v := 99) hx hb dX12_warmsOf_4 (by decide) ?_
  obtain ⟨r3, μ2, e1, h⟩ := b2_e h
  refine cVi (as := [.int x1, .int 1, .int 5, .int 99]) (rest := []) (c_X12_lawOf hW e1) C hl.1 hH hS rfl (jM_0 hW) rfl wd_57 wd_1522 mw_X12_lawOf wd_1520 rfl (rm_ok (by decide) (by decide)) (Nat.le_of_ble_eq_true rfl) ⟨Nat.zero_le _, Nat.zero_le _⟩ (by decide) dX12_warmsOf_6 (fun H locs hH hS => ?_)
  exact h_iret C hr hk hH hS rfl (by cases h; rfl) dX12_warmsOf_9
theorem c_X12_warmsOf {l : Launch} {ω : WW} {x1 : Int32} (hW : FWM ω) {μ : Mem} {rr : Int32} {μo : Mem} (h : fX12_warmsOf x1 μ = some (rr, μo)) : Con l yX12_warmsOf cX12_warmsOf 2 (some .int) 4 ω [.ref (wB ω + 0), .int x1] μ (some (.int rr)) μo :=
  con_of (by decide) (Nat.le_of_ble_eq_true rfl) (fun p e s m args below meth c ls C hr hk hl hH hS => wX12_warmsOf_e hW C hr hk hH hS (lv_sub hl [0, 1] rfl) h)
set_option maxHeartbeats 4000000 in
set_option maxRecDepth 100000 in
theorem wX12_burnsOne_e (hW : FWM ω) (C : Cx ω p s m args c cX12_burnsOne 2 RX12) (hr : meth.sig.returnType = none) (hk : meth.locks = false) {μo : Mem} {x1 : Int32} {μ : Mem} {H : Heap} {locs : List Loc} {ls : Array Slot} (hH : Hd ω μ H) (hS : FS ω s H locs) (hl : lv_has ls 2 [(0, .ref (wB ω + 0)), (1, .int x1)]) (h : fX12_burnsOne x1 μ = some μo) : W p l e (rmd 5) s m args below meth c H locs 0 0 (MQ below (QR ω none μo) args s 0 0 (wA ω)) (F0 m 0 ls []) := by
  have hx := C.1
  have hb := C.2.1
  unfold fX12_burnsOne at h
  refine lv_aload_n hx hb dX12_burnsOne_0 rfl (lv_at hl 0 rfl) ?_
  refine g_1235 (i := 32) C hH (jM_0 hW) rfl dX12_burnsOne_1 ?_
  refine lv_bipush (v := 6) hx hb dX12_burnsOne_4 (by decide) ?_
  refine lv_iload_n hx hb dX12_burnsOne_6 rfl (lv_at hl 1 rfl) ?_
  refine lv_iadd hx hb dX12_burnsOne_7 ?_
  refine lv_aload_n hx hb dX12_burnsOne_8 rfl (lv_at hl 0 rfl) ?_
  refine g_1235 (i := 32) C hH (jM_0 hW) rfl dX12_burnsOne_9 ?_
  refine lv_bipush (v := 6) hx hb dX12_burnsOne_12 (by decide) ?_
  refine lv_iload_n hx hb dX12_burnsOne_14 rfl (lv_at hl 1 rfl) ?_
  refine lv_iadd hx hb dX12_burnsOne_15 ?_
  obtain ⟨b1, h⟩ := gd_e h
  refine h_iald C hH (jM_32 hW).1 (jM_32 hW).2.1 b1 dX12_burnsOne_16 ?_
  refine lv_aload_n hx hb dX12_burnsOne_17 rfl (lv_at hl 0 rfl) ?_
  refine lv_iload_n hx hb dX12_burnsOne_18 rfl (lv_at hl 1 rfl) ?_
  obtain ⟨r4, μ3, e2, h⟩ := b2_e h
  refine cVi (as := [.int x1]) (rest := [.int (μ.1 32 ((6 + x1).toNatClampNeg)), .int (6 + x1), .ref (wB ω + 32)]) (c_X12_warmsOf hW e2) C hl.1 hH hS rfl (jM_0 hW) rfl wd_60 wd_1537 mw_X12_warmsOf wd_1535 rfl (rm_ok (by decide) (by decide)) (Nat.le_of_ble_eq_true rfl) ⟨Nat.zero_le _, Nat.zero_le _⟩ (by decide) dX12_burnsOne_19 (fun H locs hH hS => ?_)
  refine lv_iadd hx hb dX12_burnsOne_22 ?_
  refine lv_iconst (v := 0) hx hb dX12_burnsOne_23 (by decide) ?_
  refine lv_sipush (v := 999) hx hb dX12_burnsOne_24 (by decide) ?_
  obtain ⟨r6, e5, h⟩ := b1_e h
  refine cSi (as := [.int ((μ.1 32 ((6 + x1).toNatClampNeg)) + r4), .int 0, .int 999]) (rest := [.int (6 + x1), .ref (wB ω + 32)]) (c_X12_within e5) C hl.1 hH hS rfl wd_1533 mw_X12_within wd_1532 rfl (rm_ok (by decide) (by decide)) (Nat.le_of_ble_eq_true rfl) ⟨Nat.zero_le _, Nat.zero_le _⟩ dX12_burnsOne_27 (fun H locs hH hS => ?_)
  obtain ⟨b7, h⟩ := gd_e h
  obtain ⟨μ8, e9, h⟩ := bd_e h
  refine h_iast C hH hS (jM_32 hW).1 (jM_32 hW).2.1 b7 dX12_burnsOne_30 (fun H locs hH hS => ?_)
  have hH := Hd.to e9 hH
  refine lv_aload_n hx hb dX12_burnsOne_31 rfl (lv_at hl 0 rfl) ?_
  refine g_1235 (i := 32) C hH (jM_0 hW) rfl dX12_burnsOne_32 ?_
  refine lv_bipush (v := 30) hx hb dX12_burnsOne_35 (by decide) ?_
  refine lv_iload_n hx hb dX12_burnsOne_37 rfl (lv_at hl 1 rfl) ?_
  refine lv_iadd hx hb dX12_burnsOne_38 ?_
  refine lv_dup2_11 hx hb dX12_burnsOne_39 rfl rfl ?_
  obtain ⟨b10, h⟩ := gd_e h
  refine h_iald C hH (jM_32 hW).1 (jM_32 hW).2.1 b10 dX12_burnsOne_40 ?_
  refine lv_iconst (v := 1) hx hb dX12_burnsOne_41 (by decide) ?_
  refine lv_iadd hx hb dX12_burnsOne_42 ?_
  obtain ⟨b11, h⟩ := gd_e h
  obtain ⟨μ12, e13, h⟩ := bd_e h
  refine h_iast C hH hS (jM_32 hW).1 (jM_32 hW).2.1 b11 dX12_burnsOne_43 (fun H locs hH hS => ?_)
  have hH := Hd.to e13 hH
  exact h_vret C hr hk hH hS (by cases h; rfl) dX12_burnsOne_44
theorem c_X12_burnsOne {l : Launch} {ω : WW} {x1 : Int32} (hW : FWM ω) {μ : Mem} {μo : Mem} (h : fX12_burnsOne x1 μ = some μo) : Con l yX12_burnsOne cX12_burnsOne 2 none 5 ω [.ref (wB ω + 0), .int x1] μ none μo :=
  con_of (by decide) (Nat.le_of_ble_eq_true rfl) (fun p e s m args below meth c ls C hr hk hl hH hS => wX12_burnsOne_e hW C hr hk hH hS (lv_sub hl [0, 1] rfl) h)
set_option maxHeartbeats 4000000 in
set_option maxRecDepth 100000 in
theorem wX12_burns_s2 (hW : FWM ω) (C : Cx ω p s m args c cX12_burns 4 RX12) (hr : meth.sig.returnType = none) (hk : meth.locks = false) {μo : Mem} {x1 : Int32} {x2 : Int32} {x3 : Int32} {rec : Int32 → Mem → Option Mem} (hrec : ∀ (z3 : Int32) (ν : Mem) (H : Heap) (locs : List Loc) (ls : Array Slot), Hd ω ν H → FS ω s H locs → lv_has ls 4 [(0, .ref (wB ω + 0)), (1, .int x1), (2, .int x2), (3, .int z3)] → rec z3 ν = some μo → W p l e (rmd 6) s m args below meth c H locs 0 0 (MQ below (QR ω none μo) args s 0 0 (wA ω)) (F0 m 2 ls [])) {μ : Mem} {H : Heap} {locs : List Loc} {ls : Array Slot} (hH : Hd ω μ H) (hS : FS ω s H locs) (hl : lv_has ls 4 [(0, .ref (wB ω + 0)), (1, .int x1), (2, .int x2), (3, .int x3)]) (h : fX12_burns_s2 rec x1 x2 x3 μ = some μo) : W p l e (rmd 6) s m args below meth c H locs 0 0 (MQ below (QR ω none μo) args s 0 0 (wA ω)) (F0 m 2 ls []) := by
  have hx := C.1
  have hb := C.2.1
  unfold fX12_burns_s2 at h
  refine lv_iload_n hx hb dX12_burns_2 rfl (lv_at hl 3 rfl) ?_
  refine lv_iload_n hx hb dX12_burns_3 rfl (lv_at hl 2 rfl) ?_
  refine lv_icmp_ge (tgt := 18) hx hb dX12_burns_4 (by decide) (fun hc => ?_) (fun hc => ?_)
  · have h := ite_t hc h
    exact h_vret C hr hk hH hS (by cases h; rfl) dX12_burns_18
  · have h := ite_f hc h
    refine lv_aload_n hx hb dX12_burns_7 rfl (lv_at hl 0 rfl) ?_
    refine lv_iload_n hx hb dX12_burns_8 rfl (lv_at hl 1 rfl) ?_
    obtain ⟨μ2, e1, h⟩ := b1_e h
    refine cVv (as := [.int x1]) (rest := []) (c_X12_burnsOne hW e1) C hl.1 hH hS rfl (jM_0 hW) rfl wd_64 wd_1557 mw_X12_burnsOne wd_1555 rfl (rm_ok (by decide) (by decide)) (Nat.le_of_ble_eq_true rfl) ⟨Nat.zero_le _, Nat.zero_le _⟩ (by decide) dX12_burns_9 (fun H locs hH hS => ?_)
    refine lv_iinc (v := x3 + 1) (lv' := [(3, .int (x3 + 1)), (0, .ref (wB ω + 0)), (1, .int x1), (2, .int x2)]) hx hb dX12_burns_12 hl (k := 3) rfl rfl (by decide) rfl (fun ls hl => ?_)
    refine lv_goto (tgt := 2) hx hb dX12_burns_15 (by decide) ?_
    exact hrec _ _ H locs ls hH hS (lv_sub hl [1, 2, 3, 0] rfl) h
theorem wX12_burns_l2 (hW : FWM ω) (C : Cx ω p s m args c cX12_burns 4 RX12) (hr : meth.sig.returnType = none) (hk : meth.locks = false) {μo : Mem} {x1 : Int32} {x2 : Int32} : ∀ (n : Nat) (x3 : Int32) (μ : Mem) (H : Heap) (locs : List Loc) (ls : Array Slot), Hd ω μ H → FS ω s H locs → lv_has ls 4 [(0, .ref (wB ω + 0)), (1, .int x1), (2, .int x2), (3, .int x3)] → fX12_burns_l2 x1 x2 n x3 μ = some μo → W p l e (rmd 6) s m args below meth c H locs 0 0 (MQ below (QR ω none μo) args s 0 0 (wA ω)) (F0 m 2 ls []) := by
  intro n
  induction n with
  | zero => intro x3 μ H locs ls hH hS hl h; cases h
  | succ n ih => intro x3 μ H locs ls hH hS hl h; exact wX12_burns_s2 hW C hr hk ih hH hS hl h
set_option maxHeartbeats 4000000 in
set_option maxRecDepth 100000 in
theorem wX12_burns_e (hW : FWM ω) (C : Cx ω p s m args c cX12_burns 4 RX12) (hr : meth.sig.returnType = none) (hk : meth.locks = false) {μo : Mem} {x1 : Int32} {x2 : Int32} {μ : Mem} {H : Heap} {locs : List Loc} {ls : Array Slot} (hH : Hd ω μ H) (hS : FS ω s H locs) (hl : lv_has ls 4 [(0, .ref (wB ω + 0)), (1, .int x1), (2, .int x2)]) (h : fX12_burns x1 x2 μ = some μo) : W p l e (rmd 6) s m args below meth c H locs 0 0 (MQ below (QR ω none μo) args s 0 0 (wA ω)) (F0 m 0 ls []) := by
  have hx := C.1
  have hb := C.2.1
  unfold fX12_burns at h
  refine lv_iconst (v := 0) hx hb dX12_burns_0 (by decide) ?_
  refine lv_istore_n (lv' := [(3, .int 0), (0, .ref (wB ω + 0)), (1, .int x1), (2, .int x2)]) hx hb dX12_burns_1 rfl hl (by decide) rfl (fun ls hl => ?_)
  exact wX12_burns_l2 hW C hr hk FU _ _ H locs ls hH hS (lv_sub hl [1, 2, 3, 0] rfl) h
theorem c_X12_burns {l : Launch} {ω : WW} {x1 : Int32} {x2 : Int32} (hW : FWM ω) {μ : Mem} {μo : Mem} (h : fX12_burns x1 x2 μ = some μo) : Con l yX12_burns cX12_burns 4 none 6 ω [.ref (wB ω + 0), .int x1, .int x2] μ none μo :=
  con_of (by decide) (Nat.le_of_ble_eq_true rfl) (fun p e s m args below meth c ls C hr hk hl hH hS => wX12_burns_e hW C hr hk hH hS (lv_sub hl [0, 1, 2] rfl) h)
set_option maxHeartbeats 4000000 in
set_option maxRecDepth 100000 in
theorem wX12_burn_e (hW : FWM ω) (C : Cx ω p s m args c cX12_burn 3 RX12) (hr : meth.sig.returnType = some .int) (hk : meth.locks = false) {rr : Int32} {μo : Mem} {x1 : Int32} {x2 : Int32} {μ : Mem} {H : Heap} {locs : List Loc} {ls : Array Slot} (hH : Hd ω μ H) (hS : FS ω s H locs) (hl : lv_has ls 3 [(0, .ref (wB ω + 0)), (1, .int x1), (2, .int x2)]) (h : fX12_burn x1 x2 μ = some (rr, μo)) : W p l e (rmd 7) s m args below meth c H locs 0 0 (MQ below (QR ω (some (.int rr)) μo) args s 0 0 (wA ω)) (F0 m 0 ls []) := by
  have hx := C.1
  have hb := C.2.1
  unfold fX12_burn at h
  refine lv_aload_n hx hb dX12_burn_0 rfl (lv_at hl 0 rfl) ?_
  refine lv_iload_n hx hb dX12_burn_1 rfl (lv_at hl 1 rfl) ?_
  obtain ⟨r2, e1, h⟩ := b1_e h
  refine cVi (as := [.int x1]) (rest := []) (c_X12_isHouse hW e1) C hl.1 hH hS rfl (jM_0 hW) rfl wd_53 wd_1503 mw_X12_isHouse wd_1501 rfl (rm_ok (by decide) (by decide)) (Nat.le_of_ble_eq_true rfl) ⟨Nat.zero_le _, Nat.zero_le _⟩ (by decide) dX12_burn_2 (fun H locs hH hS => ?_)
  refine lv_if_eq (tgt := 29) hx hb dX12_burn_5 (by decide) (fun hc => ?_) (fun hc => ?_)
  · have h := ite_t hc h
    refine lv_iconst (v := (-1)) hx hb dX12_burn_29 (by decide) ?_
    exact h_iret C hr hk hH hS rfl (by cases h; rfl) dX12_burn_30
  · have h := ite_f hc h
    refine lv_iload_n hx hb dX12_burn_8 rfl (lv_at hl 2 rfl) ?_
    refine lv_iconst (v := 1) hx hb dX12_burn_9 (by decide) ?_
    refine lv_bipush (v := 99) hx hb dX12_burn_10 (by decide) ?_
    obtain ⟨r4, e3, h⟩ := b1_e h
    refine cSi (as := [.int x2, .int 1, .int 99]) (rest := []) (c_X12_in e3) C hl.1 hH hS rfl wd_1506 mw_X12_in wd_1505 rfl (rm_ok (by decide) (by decide)) (Nat.le_of_ble_eq_true rfl) ⟨Nat.zero_le _, Nat.zero_le _⟩ dX12_burn_12 (fun H locs hH hS => ?_)
    refine lv_if_eq (tgt := 29) hx hb dX12_burn_15 (by decide) (fun hc => ?_) (fun hc => ?_)
    · have h := ite_t hc h
      refine lv_iconst (v := (-1)) hx hb dX12_burn_29 (by decide) ?_
      exact h_iret C hr hk hH hS rfl (by cases h; rfl) dX12_burn_30
    · have h := ite_f hc h
      refine lv_iload_n hx hb dX12_burn_18 rfl (lv_at hl 2 rfl) ?_
      refine lv_aload_n hx hb dX12_burn_19 rfl (lv_at hl 0 rfl) ?_
      refine g_1234 (i := 31) C hH (jM_0 hW) rfl dX12_burn_20 ?_
      refine lv_bipush (v := 37) hx hb dX12_burn_23 (by decide) ?_
      refine h_iald C hH (jM_31 hW).1 (jM_31 hW).2.1 (by decide) dX12_burn_25 ?_
      refine h_topi (y := μ.1 31 37) rfl ?_
      refine lv_icmp_le (tgt := 31) hx hb dX12_burn_26 (by decide) (fun hc => ?_) (fun hc => ?_)
      · have h := ite_t hc h
        refine lv_aload_n hx hb dX12_burn_31 rfl (lv_at hl 0 rfl) ?_
        obtain ⟨μ6, e5, h⟩ := b1_e h
        refine cVv (as := []) (rest := []) (c_X12_copies hW e5) C hl.1 hH hS rfl (jM_0 hW) rfl wd_54 wd_1510 mw_X12_copies wd_1508 rfl (rm_ok (by decide) (by decide)) (Nat.le_of_ble_eq_true rfl) ⟨Nat.zero_le _, Nat.zero_le _⟩ (by decide) dX12_burn_32 (fun H locs hH hS => ?_)
        refine lv_aload_n hx hb dX12_burn_35 rfl (lv_at hl 0 rfl) ?_
        refine lv_iload_n hx hb dX12_burn_36 rfl (lv_at hl 1 rfl) ?_
        refine lv_iload_n hx hb dX12_burn_37 rfl (lv_at hl 2 rfl) ?_
        obtain ⟨μ8, e7, h⟩ := b1_e h
        refine cVv (as := [.int x1, .int x2]) (rest := []) (c_X12_burns hW e7) C hl.1 hH hS rfl (jM_0 hW) rfl wd_63 wd_1553 mw_X12_burns wd_1551 rfl (rm_ok (by decide) (by decide)) (Nat.le_of_ble_eq_true rfl) ⟨Nat.zero_le _, Nat.zero_le _⟩ (by decide) dX12_burn_38 (fun H locs hH hS => ?_)
        refine lv_aload_n hx hb dX12_burn_41 rfl (lv_at hl 0 rfl) ?_
        refine g_1235 (i := 32) C hH (jM_0 hW) rfl dX12_burn_42 ?_
        refine lv_bipush (v := 37) hx hb dX12_burn_45 (by decide) ?_
        refine lv_dup2_11 hx hb dX12_burn_47 rfl rfl ?_
        refine h_iald C hH (jM_32 hW).1 (jM_32 hW).2.1 (by decide) dX12_burn_48 ?_
        refine h_topi (y := μ8.1 32 37) rfl ?_
        refine lv_iload_n hx hb dX12_burn_49 rfl (lv_at hl 2 rfl) ?_
        refine lv_isub hx hb dX12_burn_50 ?_
        obtain ⟨μ9, e10, h⟩ := bd_e h
        refine h_iast C hH hS (jM_32 hW).1 (jM_32 hW).2.1 (by decide) dX12_burn_51 (fun H locs hH hS => ?_)
        have hH := Hd.to e10 hH
        refine lv_aload_n hx hb dX12_burn_52 rfl (lv_at hl 0 rfl) ?_
        refine g_1235 (i := 32) C hH (jM_0 hW) rfl dX12_burn_53 ?_
        refine lv_bipush (v := 38) hx hb dX12_burn_56 (by decide) ?_
        refine lv_dup2_11 hx hb dX12_burn_58 rfl rfl ?_
        refine h_iald C hH (jM_32 hW).1 (jM_32 hW).2.1 (by decide) dX12_burn_59 ?_
        refine h_topi (y := μ9.1 32 38) rfl ?_
        refine lv_iload_n hx hb dX12_burn_60 rfl (lv_at hl 2 rfl) ?_
        refine lv_iadd hx hb dX12_burn_61 ?_
        obtain ⟨μ11, e12, h⟩ := bd_e h
        refine h_iast C hH hS (jM_32 hW).1 (jM_32 hW).2.1 (by decide) dX12_burn_62 (fun H locs hH hS => ?_)
        have hH := Hd.to e12 hH
        refine lv_aload_n hx hb dX12_burn_63 rfl (lv_at hl 0 rfl) ?_
        obtain ⟨μ14, e13, h⟩ := b1_e h
        refine cVv (as := []) (rest := []) (c_X12_records hW e13) C hl.1 hH hS rfl (jM_0 hW) rfl wd_65 wd_1561 mw_X12_records wd_1559 rfl (rm_ok (by decide) (by decide)) (Nat.le_of_ble_eq_true rfl) ⟨Nat.zero_le _, Nat.zero_le _⟩ (by decide) dX12_burn_64 (fun H locs hH hS => ?_)
        refine lv_aload_n hx hb dX12_burn_67 rfl (lv_at hl 0 rfl) ?_
        refine g_1234 (i := 31) C hH (jM_0 hW) rfl dX12_burn_68 ?_
        refine lv_bipush (v := 6) hx hb dX12_burn_71 (by decide) ?_
        refine lv_iload_n hx hb dX12_burn_73 rfl (lv_at hl 1 rfl) ?_
        refine lv_iadd hx hb dX12_burn_74 ?_
        obtain ⟨b15, h⟩ := gd_e h
        refine h_iald C hH (jM_31 hW).1 (jM_31 hW).2.1 b15 dX12_burn_75 ?_
        exact h_iret C hr hk hH hS rfl (by cases h; rfl) dX12_burn_76
      · have h := ite_f hc h
        refine lv_iconst (v := (-1)) hx hb dX12_burn_29 (by decide) ?_
        exact h_iret C hr hk hH hS rfl (by cases h; rfl) dX12_burn_30
theorem c_X12_burn {l : Launch} {ω : WW} {x1 : Int32} {x2 : Int32} (hW : FWM ω) {μ : Mem} {rr : Int32} {μo : Mem} (h : fX12_burn x1 x2 μ = some (rr, μo)) : Con l yX12_burn cX12_burn 3 (some .int) 7 ω [.ref (wB ω + 0), .int x1, .int x2] μ (some (.int rr)) μo :=
  con_of (by decide) (Nat.le_of_ble_eq_true rfl) (fun p e s m args below meth c ls C hr hk hl hH hS => wX12_burn_e hW C hr hk hH hS (lv_sub hl [0, 1, 2] rfl) h)
set_option maxHeartbeats 4000000 in
set_option maxRecDepth 100000 in
theorem wX12_fillsLoss_s34 (hW : FWM ω) (C : Cx ω p s m args c cX12_fillsLoss 6 RX12) (hr : meth.sig.returnType = none) (hk : meth.locks = false) {μo : Mem} {x1 : Int32} {x2 : Int32} {x3 : Int32} {x4 : Int32} {x5 : Int32} {rec : Int32 → Mem → Option Mem} (hrec : ∀ (z5 : Int32) (ν : Mem) (H : Heap) (locs : List Loc) (ls : Array Slot), Hd ω ν H → FS ω s H locs → lv_has ls 6 [(0, .ref (wB ω + 0)), (1, .int x1), (2, .int x2), (3, .int x3), (4, .int x4), (5, .int z5)] → rec z5 ν = some μo → W p l e (rmd 6) s m args below meth c H locs 0 0 (MQ below (QR ω none μo) args s 0 0 (wA ω)) (F0 m 34 ls [])) {K : Mem → Option Mem} (hK : ∀ (ν : Mem) (H : Heap) (locs : List Loc) (ls : Array Slot), Hd ω ν H → FS ω s H locs → lv_has ls 6 [(0, .ref (wB ω + 0)), (1, .int x1), (2, .int x2), (3, .int x3), (4, .int x4)] → K ν = some μo → W p l e (rmd 6) s m args below meth c H locs 0 0 (MQ below (QR ω none μo) args s 0 0 (wA ω)) (F0 m 74 ls [])) {μ : Mem} {H : Heap} {locs : List Loc} {ls : Array Slot} (hH : Hd ω μ H) (hS : FS ω s H locs) (hl : lv_has ls 6 [(0, .ref (wB ω + 0)), (1, .int x1), (2, .int x2), (3, .int x3), (4, .int x4), (5, .int x5)]) (h : fX12_fillsLoss_s34 rec K x1 x2 x5 μ = some μo) : W p l e (rmd 6) s m args below meth c H locs 0 0 (MQ below (QR ω none μo) args s 0 0 (wA ω)) (F0 m 34 ls []) := by
  have hx := C.1
  have hb := C.2.1
  unfold fX12_fillsLoss_s34 at h
  refine lv_iload hx hb dX12_fillsLoss_34 (lv_at hl 5 rfl) ?_
  refine lv_iload_n hx hb dX12_fillsLoss_36 rfl (lv_at hl 1 rfl) ?_
  refine lv_icmp_gt (tgt := 74) hx hb dX12_fillsLoss_37 (by decide) (fun hc => ?_) (fun hc => ?_)
  · have h := ite_t hc h
    exact hK _ H locs ls hH hS (lv_sub hl [0, 1, 2, 3, 4] rfl) h
  · have h := ite_f hc h
    refine lv_aload_n hx hb dX12_fillsLoss_40 rfl (lv_at hl 0 rfl) ?_
    refine g_1242 (i := 36) C hH (jM_0 hW) rfl dX12_fillsLoss_41 ?_
    refine lv_bipush (v := 31) hx hb dX12_fillsLoss_44 (by decide) ?_
    refine lv_iload_n hx hb dX12_fillsLoss_46 rfl (lv_at hl 2 rfl) ?_
    refine lv_imul hx hb dX12_fillsLoss_47 ?_
    refine lv_iload hx hb dX12_fillsLoss_48 (lv_at hl 5 rfl) ?_
    refine lv_iadd hx hb dX12_fillsLoss_50 ?_
    refine lv_aload_n hx hb dX12_fillsLoss_51 rfl (lv_at hl 0 rfl) ?_
    refine lv_iload_n hx hb dX12_fillsLoss_52 rfl (lv_at hl 2 rfl) ?_
    obtain ⟨r11, μ10, e9, h⟩ := b2_e h
    refine cVi (as := [.int x2]) (rest := [.int ((31 * x2) + x5), .ref (wB ω + 36)]) (c_X12_fadesOf hW e9) C hl.1 hH hS rfl (jM_0 hW) rfl wd_61 wd_1541 mw_X12_fadesOf wd_1539 rfl (rm_ok (by decide) (by decide)) (Nat.le_of_ble_eq_true rfl) ⟨Nat.zero_le _, Nat.zero_le _⟩ (by decide) dX12_fillsLoss_53 (fun H locs hH hS => ?_)
    obtain ⟨b12, h⟩ := gd_e h
    obtain ⟨μ13, e14, h⟩ := bd_e h
    refine h_iast C hH hS (jM_36 hW).1 (jM_36 hW).2.1 b12 dX12_fillsLoss_56 (fun H locs hH hS => ?_)
    have hH := Hd.to e14 hH
    refine lv_iload hx hb dX12_fillsLoss_57 (lv_at hl 5 rfl) ?_
    refine lv_iload_n hx hb dX12_fillsLoss_59 rfl (lv_at hl 1 rfl) ?_
    refine lv_icmp_ge (tgt := 68) hx hb dX12_fillsLoss_60 (by decide) (fun hc => ?_) (fun hc => ?_)
    · have h := ite_t hc h
      refine lv_iinc (v := x5 + 1) (lv' := [(5, .int (x5 + 1)), (0, .ref (wB ω + 0)), (1, .int x1), (2, .int x2), (3, .int x3), (4, .int x4)]) hx hb dX12_fillsLoss_68 hl (k := 5) rfl rfl (by decide) rfl (fun ls hl => ?_)
      refine lv_goto (tgt := 34) hx hb dX12_fillsLoss_71 (by decide) ?_
      exact hrec _ _ H locs ls hH hS (lv_sub hl [1, 2, 3, 4, 5, 0] rfl) h
    · have h := ite_f hc h
      refine lv_aload_n hx hb dX12_fillsLoss_63 rfl (lv_at hl 0 rfl) ?_
      refine lv_iload_n hx hb dX12_fillsLoss_64 rfl (lv_at hl 2 rfl) ?_
      obtain ⟨μ16, e15, h⟩ := b1_e h
      refine cVv (as := [.int x2]) (rest := []) (c_X12_burnsOne hW e15) C hl.1 hH hS rfl (jM_0 hW) rfl wd_64 wd_1557 mw_X12_burnsOne wd_1555 rfl (rm_ok (by decide) (by decide)) (Nat.le_of_ble_eq_true rfl) ⟨Nat.zero_le _, Nat.zero_le _⟩ (by decide) dX12_fillsLoss_65 (fun H locs hH hS => ?_)
      refine lv_iinc (v := x5 + 1) (lv' := [(5, .int (x5 + 1)), (0, .ref (wB ω + 0)), (1, .int x1), (2, .int x2), (3, .int x3), (4, .int x4)]) hx hb dX12_fillsLoss_68 hl (k := 5) rfl rfl (by decide) rfl (fun ls hl => ?_)
      refine lv_goto (tgt := 34) hx hb dX12_fillsLoss_71 (by decide) ?_
      exact hrec _ _ H locs ls hH hS (lv_sub hl [1, 2, 3, 4, 5, 0] rfl) h
theorem wX12_fillsLoss_l34 (hW : FWM ω) (C : Cx ω p s m args c cX12_fillsLoss 6 RX12) (hr : meth.sig.returnType = none) (hk : meth.locks = false) {μo : Mem} {x1 : Int32} {x2 : Int32} {x3 : Int32} {x4 : Int32} {K : Mem → Option Mem} (hK : ∀ (ν : Mem) (H : Heap) (locs : List Loc) (ls : Array Slot), Hd ω ν H → FS ω s H locs → lv_has ls 6 [(0, .ref (wB ω + 0)), (1, .int x1), (2, .int x2), (3, .int x3), (4, .int x4)] → K ν = some μo → W p l e (rmd 6) s m args below meth c H locs 0 0 (MQ below (QR ω none μo) args s 0 0 (wA ω)) (F0 m 74 ls [])) : ∀ (n : Nat) (x5 : Int32) (μ : Mem) (H : Heap) (locs : List Loc) (ls : Array Slot), Hd ω μ H → FS ω s H locs → lv_has ls 6 [(0, .ref (wB ω + 0)), (1, .int x1), (2, .int x2), (3, .int x3), (4, .int x4), (5, .int x5)] → fX12_fillsLoss_l34 K x1 x2 n x5 μ = some μo → W p l e (rmd 6) s m args below meth c H locs 0 0 (MQ below (QR ω none μo) args s 0 0 (wA ω)) (F0 m 34 ls []) := by
  intro n
  induction n with
  | zero => intro x5 μ H locs ls hH hS hl h; cases h
  | succ n ih => intro x5 μ H locs ls hH hS hl h; exact wX12_fillsLoss_s34 hW C hr hk ih hK hH hS hl h
set_option maxHeartbeats 4000000 in
set_option maxRecDepth 100000 in
theorem wX12_fillsLoss_s2 (hW : FWM ω) (C : Cx ω p s m args c cX12_fillsLoss 6 RX12) (hr : meth.sig.returnType = none) (hk : meth.locks = false) {μo : Mem} {x1 : Int32} {x2 : Int32} {rec : Int32 → Mem → Option Mem} (hrec : ∀ (z2 : Int32) (ν : Mem) (H : Heap) (locs : List Loc) (ls : Array Slot), Hd ω ν H → FS ω s H locs → lv_has ls 6 [(0, .ref (wB ω + 0)), (1, .int x1), (2, .int z2)] → rec z2 ν = some μo → W p l e (rmd 6) s m args below meth c H locs 0 0 (MQ below (QR ω none μo) args s 0 0 (wA ω)) (F0 m 2 ls [])) {μ : Mem} {H : Heap} {locs : List Loc} {ls : Array Slot} (hH : Hd ω μ H) (hS : FS ω s H locs) (hl : lv_has ls 6 [(0, .ref (wB ω + 0)), (1, .int x1), (2, .int x2)]) (h : fX12_fillsLoss_s2 rec x1 x2 μ = some μo) : W p l e (rmd 6) s m args below meth c H locs 0 0 (MQ below (QR ω none μo) args s 0 0 (wA ω)) (F0 m 2 ls []) := by
  have hx := C.1
  have hb := C.2.1
  unfold fX12_fillsLoss_s2 at h
  refine lv_iload_n hx hb dX12_fillsLoss_2 rfl (lv_at hl 2 rfl) ?_
  refine lv_aload_n hx hb dX12_fillsLoss_3 rfl (lv_at hl 0 rfl) ?_
  obtain ⟨r2, e1, h⟩ := b1_e h
  refine cVi (as := []) (rest := [.int x2]) (c_X12_many hW e1) C hl.1 hH hS rfl (jM_0 hW) rfl wd_31 wd_1182 mw_X12_many wd_1180 rfl (rm_ok (by decide) (by decide)) (Nat.le_of_ble_eq_true rfl) ⟨Nat.zero_le _, Nat.zero_le _⟩ (by decide) dX12_fillsLoss_4 (fun H locs hH hS => ?_)
  refine lv_icmp_ge (tgt := 101) hx hb dX12_fillsLoss_7 (by decide) (fun hc => ?_) (fun hc => ?_)
  · have h := ite_t hc h
    exact h_vret C hr hk hH hS (by cases h; rfl) dX12_fillsLoss_101
  · have h := ite_f hc h
    refine lv_aload_n hx hb dX12_fillsLoss_10 rfl (lv_at hl 0 rfl) ?_
    refine g_1235 (i := 32) C hH (jM_0 hW) rfl dX12_fillsLoss_11 ?_
    refine lv_bipush (v := 6) hx hb dX12_fillsLoss_14 (by decide) ?_
    refine lv_iload_n hx hb dX12_fillsLoss_16 rfl (lv_at hl 2 rfl) ?_
    refine lv_iadd hx hb dX12_fillsLoss_17 ?_
    obtain ⟨b3, h⟩ := gd_e h
    refine h_iald C hH (jM_32 hW).1 (jM_32 hW).2.1 b3 dX12_fillsLoss_18 ?_
    obtain ⟨y4, e5, h⟩ := bd_e h
    refine h_topi e5 ?_
    refine lv_istore_n (lv' := [(3, .int y4), (0, .ref (wB ω + 0)), (1, .int x1), (2, .int x2)]) hx hb dX12_fillsLoss_19 rfl hl (by decide) rfl (fun ls hl => ?_)
    refine lv_aload_n hx hb dX12_fillsLoss_20 rfl (lv_at hl 1 rfl) ?_
    refine g_1235 (i := 32) C hH (jM_0 hW) rfl dX12_fillsLoss_21 ?_
    refine lv_bipush (v := 30) hx hb dX12_fillsLoss_24 (by decide) ?_
    refine lv_iload_n hx hb dX12_fillsLoss_26 rfl (lv_at hl 3 rfl) ?_
    refine lv_iadd hx hb dX12_fillsLoss_27 ?_
    obtain ⟨b6, h⟩ := gd_e h
    refine h_iald C hH (jM_32 hW).1 (jM_32 hW).2.1 b6 dX12_fillsLoss_28 ?_
    obtain ⟨y7, e8, h⟩ := bd_e h
    refine h_topi e8 ?_
    refine lv_istore (lv' := [(4, .int y7), (3, .int y4), (0, .ref (wB ω + 0)), (1, .int x1), (2, .int x2)]) hx hb dX12_fillsLoss_29 hl (by decide) rfl (fun ls hl => ?_)
    refine lv_iconst (v := 0) hx hb dX12_fillsLoss_31 (by decide) ?_
    refine lv_istore (lv' := [(5, .int 0), (4, .int y7), (3, .int y4), (0, .ref (wB ω + 0)), (1, .int x1), (2, .int x2)]) hx hb dX12_fillsLoss_32 hl (by decide) rfl (fun ls hl => ?_)
    refine wX12_fillsLoss_l34 hW C hr hk (fun μ17 H locs ls hH hS hl h => ?_) FU _ _ H locs ls hH hS (lv_sub hl [3, 4, 5, 2, 1, 0] rfl) h
    refine lv_aload_n hx hb dX12_fillsLoss_74 rfl (lv_at hl 0 rfl) ?_
    refine g_1235 (i := 32) C hH (jM_0 hW) rfl dX12_fillsLoss_75 ?_
    refine lv_bipush (v := 6) hx hb dX12_fillsLoss_78 (by decide) ?_
    refine lv_iload_n hx hb dX12_fillsLoss_80 rfl (lv_at hl 2 rfl) ?_
    refine lv_iadd hx hb dX12_fillsLoss_81 ?_
    refine lv_iload_n hx hb dX12_fillsLoss_82 rfl (lv_at hl 3 rfl) ?_
    obtain ⟨b18, h⟩ := gd_e h
    obtain ⟨μ19, e20, h⟩ := bd_e h
    refine h_iast C hH hS (jM_32 hW).1 (jM_32 hW).2.1 b18 dX12_fillsLoss_83 (fun H locs hH hS => ?_)
    have hH := Hd.to e20 hH
    refine lv_aload_n hx hb dX12_fillsLoss_84 rfl (lv_at hl 0 rfl) ?_
    refine g_1235 (i := 32) C hH (jM_0 hW) rfl dX12_fillsLoss_85 ?_
    refine lv_bipush (v := 30) hx hb dX12_fillsLoss_88 (by decide) ?_
    refine lv_iload_n hx hb dX12_fillsLoss_90 rfl (lv_at hl 2 rfl) ?_
    refine lv_iadd hx hb dX12_fillsLoss_91 ?_
    refine lv_iload hx hb dX12_fillsLoss_92 (lv_at hl 4 rfl) ?_
    obtain ⟨b21, h⟩ := gd_e h
    obtain ⟨μ22, e23, h⟩ := bd_e h
    refine h_iast C hH hS (jM_32 hW).1 (jM_32 hW).2.1 b21 dX12_fillsLoss_94 (fun H locs hH hS => ?_)
    have hH := Hd.to e23 hH
    refine lv_iinc (v := x2 + 1) (lv' := [(2, .int (x2 + 1)), (0, .ref (wB ω + 0)), (1, .int x1), (3, .int y4), (4, .int y7)]) hx hb dX12_fillsLoss_95 hl (k := 2) rfl rfl (by decide) rfl (fun ls hl => ?_)
    refine lv_goto (tgt := 2) hx hb dX12_fillsLoss_98 (by decide) ?_
    exact hrec _ _ H locs ls hH hS (lv_sub hl [1, 2, 0] rfl) h
theorem wX12_fillsLoss_l2 (hW : FWM ω) (C : Cx ω p s m args c cX12_fillsLoss 6 RX12) (hr : meth.sig.returnType = none) (hk : meth.locks = false) {μo : Mem} {x1 : Int32} : ∀ (n : Nat) (x2 : Int32) (μ : Mem) (H : Heap) (locs : List Loc) (ls : Array Slot), Hd ω μ H → FS ω s H locs → lv_has ls 6 [(0, .ref (wB ω + 0)), (1, .int x1), (2, .int x2)] → fX12_fillsLoss_l2 x1 n x2 μ = some μo → W p l e (rmd 6) s m args below meth c H locs 0 0 (MQ below (QR ω none μo) args s 0 0 (wA ω)) (F0 m 2 ls []) := by
  intro n
  induction n with
  | zero => intro x2 μ H locs ls hH hS hl h; cases h
  | succ n ih => intro x2 μ H locs ls hH hS hl h; exact wX12_fillsLoss_s2 hW C hr hk ih hH hS hl h
set_option maxHeartbeats 4000000 in
set_option maxRecDepth 100000 in
theorem wX12_fillsLoss_e (hW : FWM ω) (C : Cx ω p s m args c cX12_fillsLoss 6 RX12) (hr : meth.sig.returnType = none) (hk : meth.locks = false) {μo : Mem} {x1 : Int32} {μ : Mem} {H : Heap} {locs : List Loc} {ls : Array Slot} (hH : Hd ω μ H) (hS : FS ω s H locs) (hl : lv_has ls 6 [(0, .ref (wB ω + 0)), (1, .int x1)]) (h : fX12_fillsLoss x1 μ = some μo) : W p l e (rmd 6) s m args below meth c H locs 0 0 (MQ below (QR ω none μo) args s 0 0 (wA ω)) (F0 m 0 ls []) := by
  have hx := C.1
  have hb := C.2.1
  unfold fX12_fillsLoss at h
  refine lv_iconst (v := 0) hx hb dX12_fillsLoss_0 (by decide) ?_
  refine lv_istore_n (lv' := [(2, .int 0), (0, .ref (wB ω + 0)), (1, .int x1)]) hx hb dX12_fillsLoss_1 rfl hl (by decide) rfl (fun ls hl => ?_)
  exact wX12_fillsLoss_l2 hW C hr hk FU _ _ H locs ls hH hS (lv_sub hl [1, 2, 0] rfl) h
theorem c_X12_fillsLoss {l : Launch} {ω : WW} {x1 : Int32} (hW : FWM ω) {μ : Mem} {μo : Mem} (h : fX12_fillsLoss x1 μ = some μo) : Con l yX12_fillsLoss cX12_fillsLoss 6 none 6 ω [.ref (wB ω + 0), .int x1] μ none μo :=
  con_of (by decide) (Nat.le_of_ble_eq_true rfl) (fun p e s m args below meth c ls C hr hk hl hH hS => wX12_fillsLoss_e hW C hr hk hH hS (lv_sub hl [0, 1] rfl) h)
set_option maxHeartbeats 4000000 in
set_option maxRecDepth 100000 in
theorem wX12_lossWith_e (hW : FWM ω) (C : Cx ω p s m args c cX12_lossWith 4 RX12) (hr : meth.sig.returnType = some .int) (hk : meth.locks = false) {rr : Int32} {μ : Mem} {x1 : Int32} {x2 : Int32} {x3 : Int32} {H : Heap} {locs : List Loc} {ls : Array Slot} (hH : Hd ω μ H) (hS : FS ω s H locs) (hl : lv_has ls 4 [(0, .ref (wB ω + 0)), (1, .int x1), (2, .int x2), (3, .int x3)]) (h : fX12_lossWith x1 x2 x3 μ = some rr) : W p l e (rmd 1) s m args below meth c H locs 0 0 (MQ below (QR ω (some (.int rr)) μ) args s 0 0 (wA ω)) (F0 m 0 ls []) := by
  have hx := C.1
  have hb := C.2.1
  unfold fX12_lossWith at h
  refine lv_aload_n hx hb dX12_lossWith_0 rfl (lv_at hl 0 rfl) ?_
  refine g_1242 (i := 36) C hH (jM_0 hW) rfl dX12_lossWith_1 ?_
  refine lv_bipush (v := 31) hx hb dX12_lossWith_4 (by decide) ?_
  refine lv_iload_n hx hb dX12_lossWith_6 rfl (lv_at hl 1 rfl) ?_
  refine lv_imul hx hb dX12_lossWith_7 ?_
  refine lv_iload_n hx hb dX12_lossWith_8 rfl (lv_at hl 2 rfl) ?_
  refine lv_iadd hx hb dX12_lossWith_9 ?_
  obtain ⟨b1, h⟩ := gd_e h
  refine h_iald C hH (jM_36 hW).1 (jM_36 hW).2.1 b1 dX12_lossWith_10 ?_
  refine lv_aload_n hx hb dX12_lossWith_11 rfl (lv_at hl 0 rfl) ?_
  refine g_1243 (i := 37) C hH (jM_0 hW) rfl dX12_lossWith_12 ?_
  refine lv_bipush (v := 31) hx hb dX12_lossWith_15 (by decide) ?_
  refine lv_iload_n hx hb dX12_lossWith_17 rfl (lv_at hl 1 rfl) ?_
  refine lv_imul hx hb dX12_lossWith_18 ?_
  refine lv_bipush (v := 31) hx hb dX12_lossWith_19 (by decide) ?_
  refine lv_iadd hx hb dX12_lossWith_21 ?_
  refine lv_iload_n hx hb dX12_lossWith_22 rfl (lv_at hl 3 rfl) ?_
  refine lv_iadd hx hb dX12_lossWith_23 ?_
  refine lv_iload_n hx hb dX12_lossWith_24 rfl (lv_at hl 2 rfl) ?_
  refine lv_isub hx hb dX12_lossWith_25 ?_
  obtain ⟨b2, h⟩ := gd_e h
  refine h_iald C hH (jM_37 hW).1 (jM_37 hW).2.1 b2 dX12_lossWith_26 ?_
  refine lv_iadd hx hb dX12_lossWith_27 ?_
  exact h_iret C hr hk hH hS rfl (by cases h; rfl) dX12_lossWith_28
theorem c_X12_lossWith {l : Launch} {ω : WW} {x1 : Int32} {x2 : Int32} {x3 : Int32} (hW : FWM ω) {μ : Mem} {rr : Int32} (h : fX12_lossWith x1 x2 x3 μ = some rr) : Con l yX12_lossWith cX12_lossWith 4 (some .int) 1 ω [.ref (wB ω + 0), .int x1, .int x2, .int x3] μ (some (.int rr)) μ :=
  con_of (by decide) (Nat.le_of_ble_eq_true rfl) (fun p e s m args below meth c ls C hr hk hl hH hS => wX12_lossWith_e hW C hr hk hH hS (lv_sub hl [0, 1, 2, 3] rfl) h)
set_option maxHeartbeats 4000000 in
set_option maxRecDepth 100000 in
theorem wX12_fillsShare_s7 (hW : FWM ω) (C : Cx ω p s m args c cX12_fillsShare 6 RX12) (hr : meth.sig.returnType = none) (hk : meth.locks = false) {μo : Mem} {x1 : Int32} {x2 : Int32} {rec : Int32 → Mem → Option Mem} (hrec : ∀ (z2 : Int32) (ν : Mem) (H : Heap) (locs : List Loc) (ls : Array Slot), Hd ω ν H → FS ω s H locs → lv_has ls 6 [(0, .ref (wB ω + 0)), (1, .int x1), (2, .int z2)] → rec z2 ν = some μo → W p l e (rmd 7) s m args below meth c H locs 0 0 (MQ below (QR ω none μo) args s 0 0 (wA ω)) (F0 m 7 ls [])) {K : Mem → Option Mem} (hK : ∀ (ν : Mem) (H : Heap) (locs : List Loc) (ls : Array Slot), Hd ω ν H → FS ω s H locs → lv_has ls 6 [(0, .ref (wB ω + 0)), (1, .int x1)] → K ν = some μo → W p l e (rmd 7) s m args below meth c H locs 0 0 (MQ below (QR ω none μo) args s 0 0 (wA ω)) (F0 m 33 ls [])) {μ : Mem} {H : Heap} {locs : List Loc} {ls : Array Slot} (hH : Hd ω μ H) (hS : FS ω s H locs) (hl : lv_has ls 6 [(0, .ref (wB ω + 0)), (1, .int x1), (2, .int x2)]) (h : fX12_fillsShare_s7 rec K x1 x2 μ = some μo) : W p l e (rmd 7) s m args below meth c H locs 0 0 (MQ below (QR ω none μo) args s 0 0 (wA ω)) (F0 m 7 ls []) := by
  have hx := C.1
  have hb := C.2.1
  unfold fX12_fillsShare_s7 at h
  refine lv_iload_n hx hb dX12_fillsShare_7 rfl (lv_at hl 2 rfl) ?_
  refine lv_iload_n hx hb dX12_fillsShare_8 rfl (lv_at hl 1 rfl) ?_
  refine lv_icmp_gt (tgt := 33) hx hb dX12_fillsShare_9 (by decide) (fun hc => ?_) (fun hc => ?_)
  · have h := ite_t hc h
    exact hK _ H locs ls hH hS (lv_sub hl [0, 1] rfl) h
  · have h := ite_f hc h
    refine lv_aload_n hx hb dX12_fillsShare_12 rfl (lv_at hl 0 rfl) ?_
    refine g_1243 (i := 37) C hH (jM_0 hW) rfl dX12_fillsShare_13 ?_
    refine lv_bipush (v := 31) hx hb dX12_fillsShare_16 (by decide) ?_
    refine lv_aload_n hx hb dX12_fillsShare_18 rfl (lv_at hl 0 rfl) ?_
    obtain ⟨r4, e3, h⟩ := b1_e h
    refine cVi (as := []) (rest := [.int 31, .ref (wB ω + 37)]) (c_X12_many hW e3) C hl.1 hH hS rfl (jM_0 hW) rfl wd_31 wd_1182 mw_X12_many wd_1180 rfl (rm_ok (by decide) (by decide)) (Nat.le_of_ble_eq_true rfl) ⟨Nat.zero_le _, Nat.zero_le _⟩ (by decide) dX12_fillsShare_19 (fun H locs hH hS => ?_)
    refine lv_imul hx hb dX12_fillsShare_22 ?_
    refine lv_iload_n hx hb dX12_fillsShare_23 rfl (lv_at hl 2 rfl) ?_
    refine lv_iadd hx hb dX12_fillsShare_24 ?_
    refine lv_iconst (v := 0) hx hb dX12_fillsShare_25 (by decide) ?_
    obtain ⟨b5, h⟩ := gd_e h
    obtain ⟨μ6, e7, h⟩ := bd_e h
    refine h_iast C hH hS (jM_37 hW).1 (jM_37 hW).2.1 b5 dX12_fillsShare_26 (fun H locs hH hS => ?_)
    have hH := Hd.to e7 hH
    refine lv_iinc (v := x2 + 1) (lv' := [(2, .int (x2 + 1)), (0, .ref (wB ω + 0)), (1, .int x1)]) hx hb dX12_fillsShare_27 hl (k := 2) rfl rfl (by decide) rfl (fun ls hl => ?_)
    refine lv_goto (tgt := 7) hx hb dX12_fillsShare_30 (by decide) ?_
    exact hrec _ _ H locs ls hH hS (lv_sub hl [1, 2, 0] rfl) h
theorem wX12_fillsShare_l7 (hW : FWM ω) (C : Cx ω p s m args c cX12_fillsShare 6 RX12) (hr : meth.sig.returnType = none) (hk : meth.locks = false) {μo : Mem} {x1 : Int32} {K : Mem → Option Mem} (hK : ∀ (ν : Mem) (H : Heap) (locs : List Loc) (ls : Array Slot), Hd ω ν H → FS ω s H locs → lv_has ls 6 [(0, .ref (wB ω + 0)), (1, .int x1)] → K ν = some μo → W p l e (rmd 7) s m args below meth c H locs 0 0 (MQ below (QR ω none μo) args s 0 0 (wA ω)) (F0 m 33 ls [])) : ∀ (n : Nat) (x2 : Int32) (μ : Mem) (H : Heap) (locs : List Loc) (ls : Array Slot), Hd ω μ H → FS ω s H locs → lv_has ls 6 [(0, .ref (wB ω + 0)), (1, .int x1), (2, .int x2)] → fX12_fillsShare_l7 K x1 n x2 μ = some μo → W p l e (rmd 7) s m args below meth c H locs 0 0 (MQ below (QR ω none μo) args s 0 0 (wA ω)) (F0 m 7 ls []) := by
  intro n
  induction n with
  | zero => intro x2 μ H locs ls hH hS hl h; cases h
  | succ n ih => intro x2 μ H locs ls hH hS hl h; exact wX12_fillsShare_s7 hW C hr hk ih hK hH hS hl h
set_option maxHeartbeats 4000000 in
set_option maxRecDepth 100000 in
theorem wX12_fillsShare_s63 (hW : FWM ω) (C : Cx ω p s m args c cX12_fillsShare 6 RX12) (hr : meth.sig.returnType = none) (hk : meth.locks = false) {μo : Mem} {x1 : Int32} {x2 : Int32} {x3 : Int32} {x4 : Int32} {x5 : Int32} {μ : Mem} {rec : Int32 → Int32 → Option Mem} (hrec : ∀ (z4 : Int32) (z5 : Int32) (H : Heap) (locs : List Loc) (ls : Array Slot), Hd ω μ H → FS ω s H locs → lv_has ls 6 [(0, .ref (wB ω + 0)), (1, .int x1), (2, .int x2), (3, .int x3), (4, .int z4), (5, .int z5)] → rec z4 z5 = some μo → W p l e (rmd 7) s m args below meth c H locs 0 0 (MQ below (QR ω none μo) args s 0 0 (wA ω)) (F0 m 63 ls [])) {K : Int32 → Option Mem} (hK : ∀ (z4 : Int32) (H : Heap) (locs : List Loc) (ls : Array Slot), Hd ω μ H → FS ω s H locs → lv_has ls 6 [(0, .ref (wB ω + 0)), (1, .int x1), (2, .int x2), (3, .int x3), (4, .int z4)] → K z4 = some μo → W p l e (rmd 7) s m args below meth c H locs 0 0 (MQ below (QR ω none μo) args s 0 0 (wA ω)) (F0 m 98 ls [])) {H : Heap} {locs : List Loc} {ls : Array Slot} (hH : Hd ω μ H) (hS : FS ω s H locs) (hl : lv_has ls 6 [(0, .ref (wB ω + 0)), (1, .int x1), (2, .int x2), (3, .int x3), (4, .int x4), (5, .int x5)]) (h : fX12_fillsShare_s63 rec K x2 x3 x4 x5 μ = some μo) : W p l e (rmd 7) s m args below meth c H locs 0 0 (MQ below (QR ω none μo) args s 0 0 (wA ω)) (F0 m 63 ls []) := by
  have hx := C.1
  have hb := C.2.1
  unfold fX12_fillsShare_s63 at h
  refine lv_iload hx hb dX12_fillsShare_63 (lv_at hl 5 rfl) ?_
  refine lv_iload_n hx hb dX12_fillsShare_65 rfl (lv_at hl 3 rfl) ?_
  refine lv_icmp_gt (tgt := 98) hx hb dX12_fillsShare_66 (by decide) (fun hc => ?_) (fun hc => ?_)
  · have h := ite_t hc h
    exact hK _ H locs ls hH hS (lv_sub hl [0, 1, 2, 3, 4] rfl) h
  · have h := ite_f hc h
    refine lv_aload_n hx hb dX12_fillsShare_69 rfl (lv_at hl 0 rfl) ?_
    refine lv_iload_n hx hb dX12_fillsShare_70 rfl (lv_at hl 2 rfl) ?_
    refine lv_iload hx hb dX12_fillsShare_71 (lv_at hl 5 rfl) ?_
    refine lv_iload_n hx hb dX12_fillsShare_73 rfl (lv_at hl 3 rfl) ?_
    obtain ⟨r16, e15, h⟩ := b1_e h
    refine cVi (as := [.int x2, .int x5, .int x3]) (rest := []) (c_X12_lossWith hW e15) C hl.1 hH hS rfl (jM_0 hW) rfl wd_73 wd_1635 mw_X12_lossWith wd_1633 rfl (rm_ok (by decide) (by decide)) (Nat.le_of_ble_eq_true rfl) ⟨Nat.zero_le _, Nat.zero_le _⟩ (by decide) dX12_fillsShare_74 (fun H locs hH hS => ?_)
    refine lv_iload hx hb dX12_fillsShare_77 (lv_at hl 4 rfl) ?_
    refine lv_icmp_ge (tgt := 92) hx hb dX12_fillsShare_79 (by decide) (fun hc => ?_) (fun hc => ?_)
    · have h := ite_t hc h
      refine lv_iinc (v := x5 + 1) (lv' := [(5, .int (x5 + 1)), (0, .ref (wB ω + 0)), (1, .int x1), (2, .int x2), (3, .int x3), (4, .int x4)]) hx hb dX12_fillsShare_92 hl (k := 5) rfl rfl (by decide) rfl (fun ls hl => ?_)
      refine lv_goto (tgt := 63) hx hb dX12_fillsShare_95 (by decide) ?_
      exact hrec _ _ H locs ls hH hS (lv_sub hl [1, 2, 3, 4, 5, 0] rfl) h
    · have h := ite_f hc h
      refine lv_aload_n hx hb dX12_fillsShare_82 rfl (lv_at hl 0 rfl) ?_
      refine lv_iload_n hx hb dX12_fillsShare_83 rfl (lv_at hl 2 rfl) ?_
      refine lv_iload hx hb dX12_fillsShare_84 (lv_at hl 5 rfl) ?_
      refine lv_iload_n hx hb dX12_fillsShare_86 rfl (lv_at hl 3 rfl) ?_
      obtain ⟨r18, e17, h⟩ := b1_e h
      refine cVi (as := [.int x2, .int x5, .int x3]) (rest := []) (c_X12_lossWith hW e17) C hl.1 hH hS rfl (jM_0 hW) rfl wd_73 wd_1635 mw_X12_lossWith wd_1633 rfl (rm_ok (by decide) (by decide)) (Nat.le_of_ble_eq_true rfl) ⟨Nat.zero_le _, Nat.zero_le _⟩ (by decide) dX12_fillsShare_87 (fun H locs hH hS => ?_)
      refine lv_istore (lv' := [(4, .int r18), (0, .ref (wB ω + 0)), (1, .int x1), (2, .int x2), (3, .int x3), (5, .int x5)]) hx hb dX12_fillsShare_90 hl (by decide) rfl (fun ls hl => ?_)
      refine lv_iinc (v := x5 + 1) (lv' := [(5, .int (x5 + 1)), (4, .int r18), (0, .ref (wB ω + 0)), (1, .int x1), (2, .int x2), (3, .int x3)]) hx hb dX12_fillsShare_92 hl (k := 5) rfl rfl (by decide) rfl (fun ls hl => ?_)
      refine lv_goto (tgt := 63) hx hb dX12_fillsShare_95 (by decide) ?_
      exact hrec _ _ H locs ls hH hS (lv_sub hl [2, 3, 4, 5, 1, 0] rfl) h
theorem wX12_fillsShare_l63 (hW : FWM ω) (C : Cx ω p s m args c cX12_fillsShare 6 RX12) (hr : meth.sig.returnType = none) (hk : meth.locks = false) {μo : Mem} {x2 : Int32} {x3 : Int32} {x1 : Int32} {μ : Mem} {K : Int32 → Option Mem} (hK : ∀ (z4 : Int32) (H : Heap) (locs : List Loc) (ls : Array Slot), Hd ω μ H → FS ω s H locs → lv_has ls 6 [(0, .ref (wB ω + 0)), (1, .int x1), (2, .int x2), (3, .int x3), (4, .int z4)] → K z4 = some μo → W p l e (rmd 7) s m args below meth c H locs 0 0 (MQ below (QR ω none μo) args s 0 0 (wA ω)) (F0 m 98 ls [])) : ∀ (n : Nat) (x4 : Int32) (x5 : Int32) (H : Heap) (locs : List Loc) (ls : Array Slot), Hd ω μ H → FS ω s H locs → lv_has ls 6 [(0, .ref (wB ω + 0)), (1, .int x1), (2, .int x2), (3, .int x3), (4, .int x4), (5, .int x5)] → fX12_fillsShare_l63 K x2 x3 μ n x4 x5 = some μo → W p l e (rmd 7) s m args below meth c H locs 0 0 (MQ below (QR ω none μo) args s 0 0 (wA ω)) (F0 m 63 ls []) := by
  intro n
  induction n with
  | zero => intro x4 x5 H locs ls hH hS hl h; cases h
  | succ n ih => intro x4 x5 H locs ls hH hS hl h; exact wX12_fillsShare_s63 hW C hr hk ih hK hH hS hl h
set_option maxHeartbeats 4000000 in
set_option maxRecDepth 100000 in
theorem wX12_fillsShare_s46 (hW : FWM ω) (C : Cx ω p s m args c cX12_fillsShare 6 RX12) (hr : meth.sig.returnType = none) (hk : meth.locks = false) {μo : Mem} {x1 : Int32} {x2 : Int32} {x3 : Int32} {rec : Int32 → Mem → Option Mem} (hrec : ∀ (z3 : Int32) (ν : Mem) (H : Heap) (locs : List Loc) (ls : Array Slot), Hd ω ν H → FS ω s H locs → lv_has ls 6 [(0, .ref (wB ω + 0)), (1, .int x1), (2, .int x2), (3, .int z3)] → rec z3 ν = some μo → W p l e (rmd 7) s m args below meth c H locs 0 0 (MQ below (QR ω none μo) args s 0 0 (wA ω)) (F0 m 46 ls [])) {K : Mem → Option Mem} (hK : ∀ (ν : Mem) (H : Heap) (locs : List Loc) (ls : Array Slot), Hd ω ν H → FS ω s H locs → lv_has ls 6 [(0, .ref (wB ω + 0)), (1, .int x1), (2, .int x2)] → K ν = some μo → W p l e (rmd 7) s m args below meth c H locs 0 0 (MQ below (QR ω none μo) args s 0 0 (wA ω)) (F0 m 117 ls [])) {μ : Mem} {H : Heap} {locs : List Loc} {ls : Array Slot} (hH : Hd ω μ H) (hS : FS ω s H locs) (hl : lv_has ls 6 [(0, .ref (wB ω + 0)), (1, .int x1), (2, .int x2), (3, .int x3)]) (h : fX12_fillsShare_s46 rec K x1 x2 x3 μ = some μo) : W p l e (rmd 7) s m args below meth c H locs 0 0 (MQ below (QR ω none μo) args s 0 0 (wA ω)) (F0 m 46 ls []) := by
  have hx := C.1
  have hb := C.2.1
  unfold fX12_fillsShare_s46 at h
  refine lv_iload_n hx hb dX12_fillsShare_46 rfl (lv_at hl 3 rfl) ?_
  refine lv_iload_n hx hb dX12_fillsShare_47 rfl (lv_at hl 1 rfl) ?_
  refine lv_icmp_gt (tgt := 117) hx hb dX12_fillsShare_48 (by decide) (fun hc => ?_) (fun hc => ?_)
  · have h := ite_t hc h
    exact hK _ H locs ls hH hS (lv_sub hl [0, 1, 2] rfl) h
  · have h := ite_f hc h
    refine lv_aload_n hx hb dX12_fillsShare_51 rfl (lv_at hl 0 rfl) ?_
    refine lv_iload_n hx hb dX12_fillsShare_52 rfl (lv_at hl 2 rfl) ?_
    refine lv_iconst (v := 0) hx hb dX12_fillsShare_53 (by decide) ?_
    refine lv_iload_n hx hb dX12_fillsShare_54 rfl (lv_at hl 3 rfl) ?_
    obtain ⟨r14, e13, h⟩ := b1_e h
    refine cVi (as := [.int x2, .int 0, .int x3]) (rest := []) (c_X12_lossWith hW e13) C hl.1 hH hS rfl (jM_0 hW) rfl wd_73 wd_1635 mw_X12_lossWith wd_1633 rfl (rm_ok (by decide) (by decide)) (Nat.le_of_ble_eq_true rfl) ⟨Nat.zero_le _, Nat.zero_le _⟩ (by decide) dX12_fillsShare_55 (fun H locs hH hS => ?_)
    refine lv_istore (lv' := [(4, .int r14), (0, .ref (wB ω + 0)), (1, .int x1), (2, .int x2), (3, .int x3)]) hx hb dX12_fillsShare_58 hl (by decide) rfl (fun ls hl => ?_)
    refine lv_iconst (v := 1) hx hb dX12_fillsShare_60 (by decide) ?_
    refine lv_istore (lv' := [(5, .int 1), (4, .int r14), (0, .ref (wB ω + 0)), (1, .int x1), (2, .int x2), (3, .int x3)]) hx hb dX12_fillsShare_61 hl (by decide) rfl (fun ls hl => ?_)
    refine wX12_fillsShare_l63 hW C hr hk (fun y19 H locs ls hH hS hl h => ?_) FU _ _ H locs ls hH hS (lv_sub hl [2, 3, 4, 5, 1, 0] rfl) h
    refine lv_aload_n hx hb dX12_fillsShare_98 rfl (lv_at hl 0 rfl) ?_
    refine g_1243 (i := 37) C hH (jM_0 hW) rfl dX12_fillsShare_99 ?_
    refine lv_bipush (v := 31) hx hb dX12_fillsShare_102 (by decide) ?_
    refine lv_iload_n hx hb dX12_fillsShare_104 rfl (lv_at hl 2 rfl) ?_
    refine lv_imul hx hb dX12_fillsShare_105 ?_
    refine lv_iload_n hx hb dX12_fillsShare_106 rfl (lv_at hl 3 rfl) ?_
    refine lv_iadd hx hb dX12_fillsShare_107 ?_
    refine lv_iload hx hb dX12_fillsShare_108 (lv_at hl 4 rfl) ?_
    obtain ⟨b20, h⟩ := gd_e h
    obtain ⟨μ21, e22, h⟩ := bd_e h
    refine h_iast C hH hS (jM_37 hW).1 (jM_37 hW).2.1 b20 dX12_fillsShare_110 (fun H locs hH hS => ?_)
    have hH := Hd.to e22 hH
    refine lv_iinc (v := x3 + 1) (lv' := [(3, .int (x3 + 1)), (0, .ref (wB ω + 0)), (1, .int x1), (2, .int x2), (4, .int y19)]) hx hb dX12_fillsShare_111 hl (k := 3) rfl rfl (by decide) rfl (fun ls hl => ?_)
    refine lv_goto (tgt := 46) hx hb dX12_fillsShare_114 (by decide) ?_
    exact hrec _ _ H locs ls hH hS (lv_sub hl [1, 2, 3, 0] rfl) h
theorem wX12_fillsShare_l46 (hW : FWM ω) (C : Cx ω p s m args c cX12_fillsShare 6 RX12) (hr : meth.sig.returnType = none) (hk : meth.locks = false) {μo : Mem} {x1 : Int32} {x2 : Int32} {K : Mem → Option Mem} (hK : ∀ (ν : Mem) (H : Heap) (locs : List Loc) (ls : Array Slot), Hd ω ν H → FS ω s H locs → lv_has ls 6 [(0, .ref (wB ω + 0)), (1, .int x1), (2, .int x2)] → K ν = some μo → W p l e (rmd 7) s m args below meth c H locs 0 0 (MQ below (QR ω none μo) args s 0 0 (wA ω)) (F0 m 117 ls [])) : ∀ (n : Nat) (x3 : Int32) (μ : Mem) (H : Heap) (locs : List Loc) (ls : Array Slot), Hd ω μ H → FS ω s H locs → lv_has ls 6 [(0, .ref (wB ω + 0)), (1, .int x1), (2, .int x2), (3, .int x3)] → fX12_fillsShare_l46 K x1 x2 n x3 μ = some μo → W p l e (rmd 7) s m args below meth c H locs 0 0 (MQ below (QR ω none μo) args s 0 0 (wA ω)) (F0 m 46 ls []) := by
  intro n
  induction n with
  | zero => intro x3 μ H locs ls hH hS hl h; cases h
  | succ n ih => intro x3 μ H locs ls hH hS hl h; exact wX12_fillsShare_s46 hW C hr hk ih hK hH hS hl h
set_option maxHeartbeats 4000000 in
set_option maxRecDepth 100000 in
theorem wX12_fillsShare_s40 (hW : FWM ω) (C : Cx ω p s m args c cX12_fillsShare 6 RX12) (hr : meth.sig.returnType = none) (hk : meth.locks = false) {μo : Mem} {x1 : Int32} {x2 : Int32} {rec : Int32 → Mem → Option Mem} (hrec : ∀ (z2 : Int32) (ν : Mem) (H : Heap) (locs : List Loc) (ls : Array Slot), Hd ω ν H → FS ω s H locs → lv_has ls 6 [(0, .ref (wB ω + 0)), (1, .int x1), (2, .int z2)] → rec z2 ν = some μo → W p l e (rmd 7) s m args below meth c H locs 0 0 (MQ below (QR ω none μo) args s 0 0 (wA ω)) (F0 m 40 ls [])) {μ : Mem} {H : Heap} {locs : List Loc} {ls : Array Slot} (hH : Hd ω μ H) (hS : FS ω s H locs) (hl : lv_has ls 6 [(0, .ref (wB ω + 0)), (1, .int x1), (2, .int x2)]) (h : fX12_fillsShare_s40 rec x1 x2 μ = some μo) : W p l e (rmd 7) s m args below meth c H locs 0 0 (MQ below (QR ω none μo) args s 0 0 (wA ω)) (F0 m 40 ls []) := by
  have hx := C.1
  have hb := C.2.1
  unfold fX12_fillsShare_s40 at h
  refine lv_iload_n hx hb dX12_fillsShare_40 rfl (lv_at hl 2 rfl) ?_
  refine lv_if_lt (tgt := 123) hx hb dX12_fillsShare_41 (by decide) (fun hc => ?_) (fun hc => ?_)
  · have h := ite_t hc h
    exact h_vret C hr hk hH hS (by cases h; rfl) dX12_fillsShare_123
  · have h := ite_f hc h
    refine lv_iconst (v := 0) hx hb dX12_fillsShare_44 (by decide) ?_
    refine lv_istore_n (lv' := [(3, .int 0), (0, .ref (wB ω + 0)), (1, .int x1), (2, .int x2)]) hx hb dX12_fillsShare_45 rfl hl (by decide) rfl (fun ls hl => ?_)
    refine wX12_fillsShare_l46 hW C hr hk (fun μ23 H locs ls hH hS hl h => ?_) FU _ _ H locs ls hH hS (lv_sub hl [1, 2, 3, 0] rfl) h
    refine lv_iinc (v := x2 + (-1)) (lv' := [(2, .int (x2 + (-1))), (0, .ref (wB ω + 0)), (1, .int x1)]) hx hb dX12_fillsShare_117 hl (k := 2) rfl rfl (by decide) rfl (fun ls hl => ?_)
    refine lv_goto (tgt := 40) hx hb dX12_fillsShare_120 (by decide) ?_
    exact hrec _ _ H locs ls hH hS (lv_sub hl [1, 2, 0] rfl) h
theorem wX12_fillsShare_l40 (hW : FWM ω) (C : Cx ω p s m args c cX12_fillsShare 6 RX12) (hr : meth.sig.returnType = none) (hk : meth.locks = false) {μo : Mem} {x1 : Int32} : ∀ (n : Nat) (x2 : Int32) (μ : Mem) (H : Heap) (locs : List Loc) (ls : Array Slot), Hd ω μ H → FS ω s H locs → lv_has ls 6 [(0, .ref (wB ω + 0)), (1, .int x1), (2, .int x2)] → fX12_fillsShare_l40 x1 n x2 μ = some μo → W p l e (rmd 7) s m args below meth c H locs 0 0 (MQ below (QR ω none μo) args s 0 0 (wA ω)) (F0 m 40 ls []) := by
  intro n
  induction n with
  | zero => intro x2 μ H locs ls hH hS hl h; cases h
  | succ n ih => intro x2 μ H locs ls hH hS hl h; exact wX12_fillsShare_s40 hW C hr hk ih hH hS hl h
set_option maxHeartbeats 4000000 in
set_option maxRecDepth 100000 in
theorem wX12_fillsShare_e (hW : FWM ω) (C : Cx ω p s m args c cX12_fillsShare 6 RX12) (hr : meth.sig.returnType = none) (hk : meth.locks = false) {μo : Mem} {x1 : Int32} {μ : Mem} {H : Heap} {locs : List Loc} {ls : Array Slot} (hH : Hd ω μ H) (hS : FS ω s H locs) (hl : lv_has ls 6 [(0, .ref (wB ω + 0)), (1, .int x1)]) (h : fX12_fillsShare x1 μ = some μo) : W p l e (rmd 7) s m args below meth c H locs 0 0 (MQ below (QR ω none μo) args s 0 0 (wA ω)) (F0 m 0 ls []) := by
  have hx := C.1
  have hb := C.2.1
  unfold fX12_fillsShare at h
  refine lv_aload_n hx hb dX12_fillsShare_0 rfl (lv_at hl 0 rfl) ?_
  refine lv_iload_n hx hb dX12_fillsShare_1 rfl (lv_at hl 1 rfl) ?_
  obtain ⟨μ2, e1, h⟩ := b1_e h
  refine cVv (as := [.int x1]) (rest := []) (c_X12_fillsLoss hW e1) C hl.1 hH hS rfl (jM_0 hW) rfl wd_72 wd_1631 mw_X12_fillsLoss wd_1629 rfl (rm_ok (by decide) (by decide)) (Nat.le_of_ble_eq_true rfl) ⟨Nat.zero_le _, Nat.zero_le _⟩ (by decide) dX12_fillsShare_2 (fun H locs hH hS => ?_)
  refine lv_iconst (v := 0) hx hb dX12_fillsShare_5 (by decide) ?_
  refine lv_istore_n (lv' := [(2, .int 0), (0, .ref (wB ω + 0)), (1, .int x1)]) hx hb dX12_fillsShare_6 rfl hl (by decide) rfl (fun ls hl => ?_)
  refine wX12_fillsShare_l7 hW C hr hk (fun μ8 H locs ls hH hS hl h => ?_) FU _ _ H locs ls hH hS (lv_sub hl [1, 2, 0] rfl) h
  refine lv_aload_n hx hb dX12_fillsShare_33 rfl (lv_at hl 0 rfl) ?_
  obtain ⟨r10, e9, h⟩ := b1_e h
  refine cVi (as := []) (rest := []) (c_X12_many hW e9) C hl.1 hH hS rfl (jM_0 hW) rfl wd_31 wd_1182 mw_X12_many wd_1180 rfl (rm_ok (by decide) (by decide)) (Nat.le_of_ble_eq_true rfl) ⟨Nat.zero_le _, Nat.zero_le _⟩ (by decide) dX12_fillsShare_34 (fun H locs hH hS => ?_)
  refine lv_iconst (v := 1) hx hb dX12_fillsShare_37 (by decide) ?_
  refine lv_isub hx hb dX12_fillsShare_38 ?_
  obtain ⟨y11, e12, h⟩ := bd_e h
  refine h_topi e12 ?_
  refine lv_istore_n (lv' := [(2, .int y11), (0, .ref (wB ω + 0)), (1, .int x1)]) hx hb dX12_fillsShare_39 rfl hl (by decide) rfl (fun ls hl => ?_)
  exact wX12_fillsShare_l40 hW C hr hk FU _ _ H locs ls hH hS (lv_sub hl [1, 2, 0] rfl) h
theorem c_X12_fillsShare {l : Launch} {ω : WW} {x1 : Int32} (hW : FWM ω) {μ : Mem} {μo : Mem} (h : fX12_fillsShare x1 μ = some μo) : Con l yX12_fillsShare cX12_fillsShare 6 none 7 ω [.ref (wB ω + 0), .int x1] μ none μo :=
  con_of (by decide) (Nat.le_of_ble_eq_true rfl) (fun p e s m args below meth c ls C hr hk hl hH hS => wX12_fillsShare_e hW C hr hk hH hS (lv_sub hl [0, 1] rfl) h)
set_option maxHeartbeats 4000000 in
set_option maxRecDepth 100000 in
theorem wX12_shareFor_s2 (hW : FWM ω) (C : Cx ω p s m args c cX12_shareFor 4 RX12) (hr : meth.sig.returnType = some .int) (hk : meth.locks = false) {rr : Int32} {μ : Mem} {x1 : Int32} {x2 : Int32} {x3 : Int32} {rec : Int32 → Option Int32} (hrec : ∀ (z3 : Int32) (H : Heap) (locs : List Loc) (ls : Array Slot), Hd ω μ H → FS ω s H locs → lv_has ls 4 [(0, .ref (wB ω + 0)), (1, .int x1), (2, .int x2), (3, .int z3)] → rec z3 = some rr → W p l e (rmd 2) s m args below meth c H locs 0 0 (MQ below (QR ω (some (.int rr)) μ) args s 0 0 (wA ω)) (F0 m 2 ls [])) {H : Heap} {locs : List Loc} {ls : Array Slot} (hH : Hd ω μ H) (hS : FS ω s H locs) (hl : lv_has ls 4 [(0, .ref (wB ω + 0)), (1, .int x1), (2, .int x2), (3, .int x3)]) (h : fX12_shareFor_s2 rec x1 x2 x3 μ = some rr) : W p l e (rmd 2) s m args below meth c H locs 0 0 (MQ below (QR ω (some (.int rr)) μ) args s 0 0 (wA ω)) (F0 m 2 ls []) := by
  have hx := C.1
  have hb := C.2.1
  unfold fX12_shareFor_s2 at h
  refine lv_aload_n hx hb dX12_shareFor_2 rfl (lv_at hl 0 rfl) ?_
  refine lv_iload_n hx hb dX12_shareFor_3 rfl (lv_at hl 1 rfl) ?_
  refine lv_iload_n hx hb dX12_shareFor_4 rfl (lv_at hl 3 rfl) ?_
  refine lv_iload_n hx hb dX12_shareFor_5 rfl (lv_at hl 2 rfl) ?_
  obtain ⟨r2, e1, h⟩ := b1_e h
  refine cVi (as := [.int x1, .int x3, .int x2]) (rest := []) (c_X12_lossWith hW e1) C hl.1 hH hS rfl (jM_0 hW) rfl wd_73 wd_1635 mw_X12_lossWith wd_1633 rfl (rm_ok (by decide) (by decide)) (Nat.le_of_ble_eq_true rfl) ⟨Nat.zero_le _, Nat.zero_le _⟩ (by decide) dX12_shareFor_6 (fun H locs hH hS => ?_)
  refine lv_aload_n hx hb dX12_shareFor_9 rfl (lv_at hl 0 rfl) ?_
  refine g_1243 (i := 37) C hH (jM_0 hW) rfl dX12_shareFor_10 ?_
  refine lv_bipush (v := 31) hx hb dX12_shareFor_13 (by decide) ?_
  refine lv_iload_n hx hb dX12_shareFor_15 rfl (lv_at hl 1 rfl) ?_
  refine lv_imul hx hb dX12_shareFor_16 ?_
  refine lv_iload_n hx hb dX12_shareFor_17 rfl (lv_at hl 2 rfl) ?_
  refine lv_iadd hx hb dX12_shareFor_18 ?_
  obtain ⟨b3, h⟩ := gd_e h
  refine h_iald C hH (jM_37 hW).1 (jM_37 hW).2.1 b3 dX12_shareFor_19 ?_
  refine lv_icmp_eq (tgt := 29) hx hb dX12_shareFor_20 (by decide) (fun hc => ?_) (fun hc => ?_)
  · have h := ite_t hc h
    refine lv_iload_n hx hb dX12_shareFor_29 rfl (lv_at hl 3 rfl) ?_
    exact h_iret C hr hk hH hS rfl (by cases h; rfl) dX12_shareFor_30
  · have h := ite_f hc h
    refine lv_iinc (v := x3 + 1) (lv' := [(3, .int (x3 + 1)), (0, .ref (wB ω + 0)), (1, .int x1), (2, .int x2)]) hx hb dX12_shareFor_23 hl (k := 3) rfl rfl (by decide) rfl (fun ls hl => ?_)
    refine lv_goto (tgt := 2) hx hb dX12_shareFor_26 (by decide) ?_
    exact hrec _ H locs ls hH hS (lv_sub hl [1, 2, 3, 0] rfl) h
theorem wX12_shareFor_l2 (hW : FWM ω) (C : Cx ω p s m args c cX12_shareFor 4 RX12) (hr : meth.sig.returnType = some .int) (hk : meth.locks = false) {rr : Int32} {μ : Mem} {x1 : Int32} {x2 : Int32} : ∀ (n : Nat) (x3 : Int32) (H : Heap) (locs : List Loc) (ls : Array Slot), Hd ω μ H → FS ω s H locs → lv_has ls 4 [(0, .ref (wB ω + 0)), (1, .int x1), (2, .int x2), (3, .int x3)] → fX12_shareFor_l2 x1 x2 μ n x3 = some rr → W p l e (rmd 2) s m args below meth c H locs 0 0 (MQ below (QR ω (some (.int rr)) μ) args s 0 0 (wA ω)) (F0 m 2 ls []) := by
  intro n
  induction n with
  | zero => intro x3 H locs ls hH hS hl h; cases h
  | succ n ih => intro x3 H locs ls hH hS hl h; exact wX12_shareFor_s2 hW C hr hk ih hH hS hl h
set_option maxHeartbeats 4000000 in
set_option maxRecDepth 100000 in
theorem wX12_shareFor_e (hW : FWM ω) (C : Cx ω p s m args c cX12_shareFor 4 RX12) (hr : meth.sig.returnType = some .int) (hk : meth.locks = false) {rr : Int32} {μ : Mem} {x1 : Int32} {x2 : Int32} {H : Heap} {locs : List Loc} {ls : Array Slot} (hH : Hd ω μ H) (hS : FS ω s H locs) (hl : lv_has ls 4 [(0, .ref (wB ω + 0)), (1, .int x1), (2, .int x2)]) (h : fX12_shareFor x1 x2 μ = some rr) : W p l e (rmd 2) s m args below meth c H locs 0 0 (MQ below (QR ω (some (.int rr)) μ) args s 0 0 (wA ω)) (F0 m 0 ls []) := by
  have hx := C.1
  have hb := C.2.1
  unfold fX12_shareFor at h
  refine lv_iconst (v := 0) hx hb dX12_shareFor_0 (by decide) ?_
  refine lv_istore_n (lv' := [(3, .int 0), (0, .ref (wB ω + 0)), (1, .int x1), (2, .int x2)]) hx hb dX12_shareFor_1 rfl hl (by decide) rfl (fun ls hl => ?_)
  exact wX12_shareFor_l2 hW C hr hk FU _ H locs ls hH hS (lv_sub hl [1, 2, 3, 0] rfl) h
theorem c_X12_shareFor {l : Launch} {ω : WW} {x1 : Int32} {x2 : Int32} (hW : FWM ω) {μ : Mem} {rr : Int32} (h : fX12_shareFor x1 x2 μ = some rr) : Con l yX12_shareFor cX12_shareFor 4 (some .int) 2 ω [.ref (wB ω + 0), .int x1, .int x2] μ (some (.int rr)) μ :=
  con_of (by decide) (Nat.le_of_ble_eq_true rfl) (fun p e s m args below meth c ls C hr hk hl hH hS => wX12_shareFor_e hW C hr hk hH hS (lv_sub hl [0, 1, 2] rfl) h)
set_option maxHeartbeats 4000000 in
set_option maxRecDepth 100000 in
theorem wX12_burnsShared_s9 (hW : FWM ω) (C : Cx ω p s m args c cX12_burnsShared 5 RX12) (hr : meth.sig.returnType = none) (hk : meth.locks = false) {μo : Mem} {x2 : Int32} {x3 : Int32} {rec : Int32 → Int32 → Mem → Option Mem} (hrec : ∀ (z2 : Int32) (z3 : Int32) (ν : Mem) (H : Heap) (locs : List Loc) (ls : Array Slot), Hd ω ν H → FS ω s H locs → lv_has ls 5 [(0, .ref (wB ω + 0)), (2, .int z2), (3, .int z3)] → rec z2 z3 ν = some μo → W p l e (rmd 8) s m args below meth c H locs 0 0 (MQ below (QR ω none μo) args s 0 0 (wA ω)) (F0 m 9 ls [])) {μ : Mem} {H : Heap} {locs : List Loc} {ls : Array Slot} (hH : Hd ω μ H) (hS : FS ω s H locs) (hl : lv_has ls 5 [(0, .ref (wB ω + 0)), (2, .int x2), (3, .int x3)]) (h : fX12_burnsShared_s9 rec x2 x3 μ = some μo) : W p l e (rmd 8) s m args below meth c H locs 0 0 (MQ below (QR ω none μo) args s 0 0 (wA ω)) (F0 m 9 ls []) := by
  have hx := C.1
  have hb := C.2.1
  unfold fX12_burnsShared_s9 at h
  refine lv_iload_n hx hb dX12_burnsShared_9 rfl (lv_at hl 2 rfl) ?_
  refine lv_aload_n hx hb dX12_burnsShared_10 rfl (lv_at hl 0 rfl) ?_
  obtain ⟨r4, e3, h⟩ := b1_e h
  refine cVi (as := []) (rest := [.int x3]) (c_X12_many hW e3) C hl.1 hH hS rfl (jM_0 hW) rfl wd_31 wd_1182 mw_X12_many wd_1180 rfl (rm_ok (by decide) (by decide)) (Nat.le_of_ble_eq_true rfl) ⟨Nat.zero_le _, Nat.zero_le _⟩ (by decide) dX12_burnsShared_11 (fun H locs hH hS => ?_)
  refine lv_icmp_ge (tgt := 43) hx hb dX12_burnsShared_14 (by decide) (fun hc => ?_) (fun hc => ?_)
  · have h := ite_t hc h
    refine lv_aload_n hx hb dX12_burnsShared_43 rfl (lv_at hl 0 rfl) ?_
    obtain ⟨μ6, e5, h⟩ := b1_e h
    refine cVv (as := []) (rest := []) (c_X12_dayGoes hW e5) C hl.1 hH hS rfl (jM_0 hW) rfl wd_67 wd_1592 mw_X12_dayGoes wd_1590 rfl (rm_ok (by decide) (by decide)) (Nat.le_of_ble_eq_true rfl) ⟨Nat.zero_le _, Nat.zero_le _⟩ (by decide) dX12_burnsShared_44 (fun H locs hH hS => ?_)
    exact h_vret C hr hk hH hS (by cases h; rfl) dX12_burnsShared_47
  · have h := ite_f hc h
    refine lv_aload_n hx hb dX12_burnsShared_17 rfl (lv_at hl 0 rfl) ?_
    refine lv_iload_n hx hb dX12_burnsShared_18 rfl (lv_at hl 2 rfl) ?_
    refine lv_iload_n hx hb dX12_burnsShared_19 rfl (lv_at hl 1 rfl) ?_
    obtain ⟨r8, e7, h⟩ := b1_e h
    refine cVi (as := [.int x3, .int x2]) (rest := []) (c_X12_shareFor hW e7) C hl.1 hH hS rfl (jM_0 hW) rfl wd_74 wd_1639 mw_X12_shareFor wd_1637 rfl (rm_ok (by decide) (by decide)) (Nat.le_of_ble_eq_true rfl) ⟨Nat.zero_le _, Nat.zero_le _⟩ (by decide) dX12_burnsShared_20 (fun H locs hH hS => ?_)
    refine lv_istore (lv' := [(4, .int r8), (0, .ref (wB ω + 0)), (2, .int x2), (3, .int x3)]) hx hb dX12_burnsShared_23 hl (by decide) rfl (fun ls hl => ?_)
    refine lv_iload_n hx hb dX12_burnsShared_25 rfl (lv_at hl 2 rfl) ?_
    refine lv_iload hx hb dX12_burnsShared_26 (lv_at hl 0 rfl) ?_
    refine lv_isub hx hb dX12_burnsShared_28 ?_
    obtain ⟨y9, e10, h⟩ := bd_e h
    refine h_topi e10 ?_
    refine lv_istore_n (lv' := [(2, .int y9), (4, .int r8), (0, .ref (wB ω + 0)), (3, .int x3)]) hx hb dX12_burnsShared_29 rfl hl (by decide) rfl (fun ls hl => ?_)
    refine lv_aload_n hx hb dX12_burnsShared_30 rfl (lv_at hl 2 rfl) ?_
    refine lv_iload_n hx hb dX12_burnsShared_31 rfl (lv_at hl 3 rfl) ?_
    refine lv_iload hx hb dX12_burnsShared_32 (lv_at hl 1 rfl) ?_
    obtain ⟨μ12, e11, h⟩ := b1_e h
    refine cVv (as := [.int x3, .int r8]) (rest := []) (c_X12_burns hW e11) C hl.1 hH hS rfl (jM_0 hW) rfl wd_63 wd_1553 mw_X12_burns wd_1551 rfl (rm_ok (by decide) (by decide)) (Nat.le_of_ble_eq_true rfl) ⟨Nat.zero_le _, Nat.zero_le _⟩ (by decide) dX12_burnsShared_34 (fun H locs hH hS => ?_)
    refine lv_iinc (v := x3 + 1) (lv' := [(3, .int (x3 + 1)), (2, .int y9), (4, .int r8), (0, .ref (wB ω + 0))]) hx hb dX12_burnsShared_37 hl (k := 3) rfl rfl (by decide) rfl (fun ls hl => ?_)
    refine lv_goto (tgt := 9) hx hb dX12_burnsShared_40 (by decide) ?_
    exact hrec _ _ _ H locs ls hH hS (lv_sub hl [3, 1, 0] rfl) h
theorem wX12_burnsShared_l9 (hW : FWM ω) (C : Cx ω p s m args c cX12_burnsShared 5 RX12) (hr : meth.sig.returnType = none) (hk : meth.locks = false) {μo : Mem} : ∀ (n : Nat) (x2 : Int32) (x3 : Int32) (μ : Mem) (H : Heap) (locs : List Loc) (ls : Array Slot), Hd ω μ H → FS ω s H locs → lv_has ls 5 [(0, .ref (wB ω + 0)), (2, .int x2), (3, .int x3)] → fX12_burnsShared_l9 n x2 x3 μ = some μo → W p l e (rmd 8) s m args below meth c H locs 0 0 (MQ below (QR ω none μo) args s 0 0 (wA ω)) (F0 m 9 ls []) := by
  intro n
  induction n with
  | zero => intro x2 x3 μ H locs ls hH hS hl h; cases h
  | succ n ih => intro x2 x3 μ H locs ls hH hS hl h; exact wX12_burnsShared_s9 hW C hr hk ih hH hS hl h
set_option maxHeartbeats 4000000 in
set_option maxRecDepth 100000 in
theorem wX12_burnsShared_e (hW : FWM ω) (C : Cx ω p s m args c cX12_burnsShared 5 RX12) (hr : meth.sig.returnType = none) (hk : meth.locks = false) {μo : Mem} {x1 : Int32} {μ : Mem} {H : Heap} {locs : List Loc} {ls : Array Slot} (hH : Hd ω μ H) (hS : FS ω s H locs) (hl : lv_has ls 5 [(0, .ref (wB ω + 0)), (1, .int x1)]) (h : fX12_burnsShared x1 μ = some μo) : W p l e (rmd 8) s m args below meth c H locs 0 0 (MQ below (QR ω none μo) args s 0 0 (wA ω)) (F0 m 0 ls []) := by
  have hx := C.1
  have hb := C.2.1
  unfold fX12_burnsShared at h
  refine lv_aload_n hx hb dX12_burnsShared_0 rfl (lv_at hl 0 rfl) ?_
  refine lv_iload_n hx hb dX12_burnsShared_1 rfl (lv_at hl 1 rfl) ?_
  obtain ⟨μ2, e1, h⟩ := b1_e h
  refine cVv (as := [.int x1]) (rest := []) (c_X12_fillsShare hW e1) C hl.1 hH hS rfl (jM_0 hW) rfl wd_71 wd_1627 mw_X12_fillsShare wd_1625 rfl (rm_ok (by decide) (by decide)) (Nat.le_of_ble_eq_true rfl) ⟨Nat.zero_le _, Nat.zero_le _⟩ (by decide) dX12_burnsShared_2 (fun H locs hH hS => ?_)
  refine lv_iload_n hx hb dX12_burnsShared_5 rfl (lv_at hl 1 rfl) ?_
  refine lv_istore_n (lv' := [(2, .int x1), (0, .ref (wB ω + 0)), (1, .int x1)]) hx hb dX12_burnsShared_6 rfl hl (by decide) rfl (fun ls hl => ?_)
  refine lv_iconst (v := 0) hx hb dX12_burnsShared_7 (by decide) ?_
  refine lv_istore_n (lv' := [(3, .int 0), (2, .int x1), (0, .ref (wB ω + 0)), (1, .int x1)]) hx hb dX12_burnsShared_8 rfl hl (by decide) rfl (fun ls hl => ?_)
  exact wX12_burnsShared_l9 hW C hr hk FU _ _ _ H locs ls hH hS (lv_sub hl [2, 1, 0] rfl) h
theorem c_X12_burnsShared {l : Launch} {ω : WW} {x1 : Int32} (hW : FWM ω) {μ : Mem} {μo : Mem} (h : fX12_burnsShared x1 μ = some μo) : Con l yX12_burnsShared cX12_burnsShared 5 none 8 ω [.ref (wB ω + 0), .int x1] μ none μo :=
  con_of (by decide) (Nat.le_of_ble_eq_true rfl) (fun p e s m args below meth c ls C hr hk hl hH hS => wX12_burnsShared_e hW C hr hk hH hS (lv_sub hl [0, 1] rfl) h)
set_option maxHeartbeats 4000000 in
set_option maxRecDepth 100000 in
theorem wX12_byteAt_e (hW : FWM ω) (C : Cx ω p s m args c cX12_byteAt 2 RX12) (hr : meth.sig.returnType = some .int) (hk : meth.locks = false) {rr : Int32} {μ : Mem} {x1 : Int32} {H : Heap} {locs : List Loc} {ls : Array Slot} (hH : Hd ω μ H) (hS : FS ω s H locs) (hl : lv_has ls 2 [(0, .ref (wB ω + 0)), (1, .int x1)]) (h : fX12_byteAt x1 μ = some rr) : W p l e (rmd 1) s m args below meth c H locs 0 0 (MQ below (QR ω (some (.int rr)) μ) args s 0 0 (wA ω)) (F0 m 0 ls []) := by
  have hx := C.1
  have hb := C.2.1
  unfold fX12_byteAt at h
  refine lv_iload_n hx hb dX12_byteAt_0 rfl (lv_at hl 1 rfl) ?_
  refine lv_aload_n hx hb dX12_byteAt_1 rfl (lv_at hl 0 rfl) ?_
  refine g_1191 C hH (jM_0 hW) dX12_byteAt_2 ?_
  refine lv_icmp_ge (tgt := 21) hx hb dX12_byteAt_5 (by decide) (fun hc => ?_) (fun hc => ?_)
  · have h := ite_t hc h
    refine lv_iconst (v := 0) hx hb dX12_byteAt_21 (by decide) ?_
    exact h_iret C hr hk hH hS rfl (by cases h; rfl) dX12_byteAt_22
  · have h := ite_f hc h
    refine lv_aload_n hx hb dX12_byteAt_8 rfl (lv_at hl 0 rfl) ?_
    refine g_1190 (i := 2) C hH (jM_0 hW) rfl dX12_byteAt_9 ?_
    refine lv_iload_n hx hb dX12_byteAt_12 rfl (lv_at hl 1 rfl) ?_
    obtain ⟨b1, h⟩ := gd_e h
    refine h_bald C hH (jM_2 hW).1 (jM_2 hW).2.1 b1 dX12_byteAt_13 ?_
    refine lv_sipush (v := 255) hx hb dX12_byteAt_14 (by decide) ?_
    refine lv_iand hx hb dX12_byteAt_17 ?_
    refine lv_goto (tgt := 22) hx hb dX12_byteAt_18 (by decide) ?_
    exact h_iret C hr hk hH hS rfl (by cases h; rfl) dX12_byteAt_22
theorem c_X12_byteAt {l : Launch} {ω : WW} {x1 : Int32} (hW : FWM ω) {μ : Mem} {rr : Int32} (h : fX12_byteAt x1 μ = some rr) : Con l yX12_byteAt cX12_byteAt 2 (some .int) 1 ω [.ref (wB ω + 0), .int x1] μ (some (.int rr)) μ :=
  con_of (by decide) (Nat.le_of_ble_eq_true rfl) (fun p e s m args below meth c ls C hr hk hl hH hS => wX12_byteAt_e hW C hr hk hH hS (lv_sub hl [0, 1] rfl) h)
set_option maxHeartbeats 4000000 in
set_option maxRecDepth 100000 in
theorem wX12_cold_e (hW : FWM ω) (C : Cx ω p s m args c cX12_cold 2 RX12) (hr : meth.sig.returnType = some .int) (hk : meth.locks = false) {rr : Int32} {μo : Mem} {x1 : Int32} {μ : Mem} {H : Heap} {locs : List Loc} {ls : Array Slot} (hH : Hd ω μ H) (hS : FS ω s H locs) (hl : lv_has ls 2 [(0, .ref (wB ω + 0)), (1, .int x1)]) (h : fX12_cold x1 μ = some (rr, μo)) : W p l e (rmd 8) s m args below meth c H locs 0 0 (MQ below (QR ω (some (.int rr)) μo) args s 0 0 (wA ω)) (F0 m 0 ls []) := by
  have hx := C.1
  have hb := C.2.1
  unfold fX12_cold at h
  refine lv_aload_n hx hb dX12_cold_0 rfl (lv_at hl 0 rfl) ?_
  refine lv_iload_n hx hb dX12_cold_1 rfl (lv_at hl 1 rfl) ?_
  obtain ⟨r2, e1, h⟩ := b1_e h
  refine cVi (as := [.int x1]) (rest := []) (c_X12_isHouse hW e1) C hl.1 hH hS rfl (jM_0 hW) rfl wd_53 wd_1503 mw_X12_isHouse wd_1501 rfl (rm_ok (by decide) (by decide)) (Nat.le_of_ble_eq_true rfl) ⟨Nat.zero_le _, Nat.zero_le _⟩ (by decide) dX12_cold_2 (fun H locs hH hS => ?_)
  refine lv_if_eq (tgt := 19) hx hb dX12_cold_5 (by decide) (fun hc => ?_) (fun hc => ?_)
  · have h := ite_t hc h
    refine lv_iconst (v := (-1)) hx hb dX12_cold_19 (by decide) ?_
    exact h_iret C hr hk hH hS rfl (by cases h; rfl) dX12_cold_20
  · have h := ite_f hc h
    refine lv_aload_n hx hb dX12_cold_8 rfl (lv_at hl 0 rfl) ?_
    refine lv_bipush (v := 6) hx hb dX12_cold_9 (by decide) ?_
    refine lv_iload_n hx hb dX12_cold_11 rfl (lv_at hl 1 rfl) ?_
    refine lv_iadd hx hb dX12_cold_12 ?_
    obtain ⟨r5, μ4, e3, h⟩ := b2_e h
    refine cVi (as := [.int (6 + x1)]) (rest := []) (c_X12_behindNone hW e3) C hl.1 hH hS rfl (jM_0 hW) rfl wd_81 wd_1687 mw_X12_behindNone wd_1685 rfl (rm_ok (by decide) (by decide)) (Nat.le_of_ble_eq_true rfl) ⟨Nat.zero_le _, Nat.zero_le _⟩ (by decide) dX12_cold_13 (fun H locs hH hS => ?_)
    refine lv_goto (tgt := 20) hx hb dX12_cold_16 (by decide) ?_
    exact h_iret C hr hk hH hS rfl (by cases h; rfl) dX12_cold_20
theorem c_X12_cold {l : Launch} {ω : WW} {x1 : Int32} (hW : FWM ω) {μ : Mem} {rr : Int32} {μo : Mem} (h : fX12_cold x1 μ = some (rr, μo)) : Con l yX12_cold cX12_cold 2 (some .int) 8 ω [.ref (wB ω + 0), .int x1] μ (some (.int rr)) μo :=
  con_of (by decide) (Nat.le_of_ble_eq_true rfl) (fun p e s m args below meth c ls C hr hk hl hH hS => wX12_cold_e hW C hr hk hH hS (lv_sub hl [0, 1] rfl) h)
set_option maxHeartbeats 4000000 in
set_option maxRecDepth 100000 in
theorem wX12_emit_e (hW : FWM ω) (C : Cx ω p s m args c cX12_emit 3 RX12) (hr : meth.sig.returnType = none) (hk : meth.locks = false) {μo : Mem} {x1 : Int32} {x2 : Int32} {μ : Mem} {H : Heap} {locs : List Loc} {ls : Array Slot} (hH : Hd ω μ H) (hS : FS ω s H locs) (hl : lv_has ls 3 [(0, .ref (wB ω + 0)), (1, .int x1), (2, .int x2)]) (h : fX12_emit x1 x2 μ = some μo) : W p l e (rmd 1) s m args below meth c H locs 0 0 (MQ below (QR ω none μo) args s 0 0 (wA ω)) (F0 m 0 ls []) := by
  have hx := C.1
  have hb := C.2.1
  unfold fX12_emit at h
  refine lv_aload_n hx hb dX12_emit_0 rfl (lv_at hl 0 rfl) ?_
  refine g_1227 (i := 26) C hH (jM_0 hW) rfl dX12_emit_1 ?_
  refine lv_aload_n hx hb dX12_emit_4 rfl (lv_at hl 0 rfl) ?_
  refine g_1226 C hH (jM_0 hW) dX12_emit_5 ?_
  refine lv_iload_n hx hb dX12_emit_8 rfl (lv_at hl 1 rfl) ?_
  obtain ⟨b1, h⟩ := gd_e h
  obtain ⟨μ2, e3, h⟩ := bd_e h
  refine h_iast C hH hS (jM_26 hW).1 (jM_26 hW).2.1 b1 dX12_emit_9 (fun H locs hH hS => ?_)
  have hH := Hd.to e3 hH
  refine lv_aload_n hx hb dX12_emit_10 rfl (lv_at hl 0 rfl) ?_
  refine g_1228 (i := 27) C hH (jM_0 hW) rfl dX12_emit_11 ?_
  refine lv_aload_n hx hb dX12_emit_14 rfl (lv_at hl 0 rfl) ?_
  refine g_1226 C hH (jM_0 hW) dX12_emit_15 ?_
  refine lv_iload_n hx hb dX12_emit_18 rfl (lv_at hl 2 rfl) ?_
  obtain ⟨b4, h⟩ := gd_e h
  obtain ⟨μ5, e6, h⟩ := bd_e h
  refine h_iast C hH hS (jM_27 hW).1 (jM_27 hW).2.1 b4 dX12_emit_19 (fun H locs hH hS => ?_)
  have hH := Hd.to e6 hH
  refine lv_aload_n hx hb dX12_emit_20 rfl (lv_at hl 0 rfl) ?_
  refine lv_dup hx hb dX12_emit_21 rfl ?_
  refine g_1226 C hH (jM_0 hW) dX12_emit_22 ?_
  refine lv_iconst (v := 1) hx hb dX12_emit_25 (by decide) ?_
  refine lv_iadd hx hb dX12_emit_26 ?_
  obtain ⟨μ7, e8, h⟩ := bd_e h
  refine p_1226 C hH hS (jM_0 hW) dX12_emit_27 (fun H locs hH hS => ?_)
  have hH := Hd.to e8 hH
  exact h_vret C hr hk hH hS (by cases h; rfl) dX12_emit_30
theorem c_X12_emit {l : Launch} {ω : WW} {x1 : Int32} {x2 : Int32} (hW : FWM ω) {μ : Mem} {μo : Mem} (h : fX12_emit x1 x2 μ = some μo) : Con l yX12_emit cX12_emit 3 none 1 ω [.ref (wB ω + 0), .int x1, .int x2] μ none μo :=
  con_of (by decide) (Nat.le_of_ble_eq_true rfl) (fun p e s m args below meth c ls C hr hk hl hH hS => wX12_emit_e hW C hr hk hH hS (lv_sub hl [0, 1, 2] rfl) h)
end WK8
