theorem dX12_door_0 : decode cX12_door 0 = .ok (.aload_n 0, 1) := by decide +kernel
theorem dX12_door_1 : decode cX12_door 1 = .ok (.iload_n 1, 1) := by decide +kernel
theorem dX12_door_2 : decode cX12_door 2 = .ok (.invokevirtual 371, 3) := by decide +kernel
theorem dX12_door_5 : decode cX12_door 5 = .ok (.ifCond .eq 25, 3) := by decide +kernel
theorem dX12_door_8 : decode cX12_door 8 = .ok (.aload_n 0, 1) := by decide +kernel
theorem dX12_door_9 : decode cX12_door 9 = .ok (.getfield 110, 3) := by decide +kernel
theorem dX12_door_12 : decode cX12_door 12 = .ok (.bipush 18, 2) := by decide +kernel
theorem dX12_door_14 : decode cX12_door 14 = .ok (.iload_n 1, 1) := by decide +kernel
theorem dX12_door_15 : decode cX12_door 15 = .ok (.iadd, 1) := by decide +kernel
theorem dX12_door_16 : decode cX12_door 16 = .ok (.iaload, 1) := by decide +kernel
theorem dX12_door_17 : decode cX12_door 17 = .ok (.iconst 1, 1) := by decide +kernel
theorem dX12_door_18 : decode cX12_door 18 = .ok (.if_icmp .ne 7, 3) := by decide +kernel
theorem dX12_door_21 : decode cX12_door 21 = .ok (.iconst 1, 1) := by decide +kernel
theorem dX12_door_22 : decode cX12_door 22 = .ok (.goto 4, 3) := by decide +kernel
theorem dX12_door_25 : decode cX12_door 25 = .ok (.iconst 0, 1) := by decide +kernel
theorem dX12_door_26 : decode cX12_door 26 = .ok (.iload_n 2, 1) := by decide +kernel
theorem dX12_door_27 : decode cX12_door 27 = .ok (.if_icmp .ne 5, 3) := by decide +kernel
theorem dX12_door_30 : decode cX12_door 30 = .ok (.iconst 0, 1) := by decide +kernel
theorem dX12_door_31 : decode cX12_door 31 = .ok (.ireturn, 1) := by decide +kernel
theorem dX12_door_32 : decode cX12_door 32 = .ok (.aload_n 0, 1) := by decide +kernel
theorem dX12_door_33 : decode cX12_door 33 = .ok (.invokevirtual 323, 3) := by decide +kernel
theorem dX12_door_36 : decode cX12_door 36 = .ok (.aload_n 0, 1) := by decide +kernel
theorem dX12_door_37 : decode cX12_door 37 = .ok (.getfield 113, 3) := by decide +kernel
theorem dX12_door_40 : decode cX12_door 40 = .ok (.bipush 18, 2) := by decide +kernel
theorem dX12_door_42 : decode cX12_door 42 = .ok (.iload_n 1, 1) := by decide +kernel
theorem dX12_door_43 : decode cX12_door 43 = .ok (.iadd, 1) := by decide +kernel
theorem dX12_door_44 : decode cX12_door 44 = .ok (.iload_n 2, 1) := by decide +kernel
theorem dX12_door_45 : decode cX12_door 45 = .ok (.ifCond .eq 7, 3) := by decide +kernel
theorem dX12_door_48 : decode cX12_door 48 = .ok (.iconst 1, 1) := by decide +kernel
theorem dX12_door_49 : decode cX12_door 49 = .ok (.goto 4, 3) := by decide +kernel
theorem dX12_door_52 : decode cX12_door 52 = .ok (.iconst 0, 1) := by decide +kernel
theorem dX12_door_53 : decode cX12_door 53 = .ok (.iastore, 1) := by decide +kernel
theorem dX12_door_54 : decode cX12_door 54 = .ok (.aload_n 0, 1) := by decide +kernel
theorem dX12_door_55 : decode cX12_door 55 = .ok (.invokevirtual 380, 3) := by decide +kernel
theorem dX12_door_58 : decode cX12_door 58 = .ok (.iconst 1, 1) := by decide +kernel
theorem dX12_door_59 : decode cX12_door 59 = .ok (.ireturn, 1) := by decide +kernel
theorem dX12_draughty_0 : decode cX12_draughty 0 = .ok (.iload_n 1, 1) := by decide +kernel
theorem dX12_draughty_1 : decode cX12_draughty 1 = .ok (.iconst 0, 1) := by decide +kernel
theorem dX12_draughty_2 : decode cX12_draughty 2 = .ok (.iconst 1, 1) := by decide +kernel
theorem dX12_draughty_3 : decode cX12_draughty 3 = .ok (.invokestatic 313, 3) := by decide +kernel
theorem dX12_draughty_6 : decode cX12_draughty 6 = .ok (.ifCond .ne 5, 3) := by decide +kernel
theorem dX12_draughty_9 : decode cX12_draughty 9 = .ok (.iconst (-1), 1) := by decide +kernel
theorem dX12_draughty_10 : decode cX12_draughty 10 = .ok (.ireturn, 1) := by decide +kernel
theorem dX12_draughty_11 : decode cX12_draughty 11 = .ok (.aload_n 0, 1) := by decide +kernel
theorem dX12_draughty_12 : decode cX12_draughty 12 = .ok (.invokevirtual 323, 3) := by decide +kernel
theorem dX12_draughty_15 : decode cX12_draughty 15 = .ok (.bipush (-2), 2) := by decide +kernel
theorem dX12_draughty_17 : decode cX12_draughty 17 = .ok (.istore_n 2, 1) := by decide +kernel
theorem dX12_draughty_18 : decode cX12_draughty 18 = .ok (.iconst 0, 1) := by decide +kernel
theorem dX12_draughty_19 : decode cX12_draughty 19 = .ok (.istore_n 3, 1) := by decide +kernel
theorem dX12_draughty_20 : decode cX12_draughty 20 = .ok (.iload_n 3, 1) := by decide +kernel
theorem dX12_draughty_21 : decode cX12_draughty 21 = .ok (.aload_n 0, 1) := by decide +kernel
theorem dX12_draughty_22 : decode cX12_draughty 22 = .ok (.invokevirtual 309, 3) := by decide +kernel
theorem dX12_draughty_25 : decode cX12_draughty 25 = .ok (.if_icmp .ge 28, 3) := by decide +kernel
theorem dX12_draughty_28 : decode cX12_draughty 28 = .ok (.iload_n 2, 1) := by decide +kernel
theorem dX12_draughty_29 : decode cX12_draughty 29 = .ok (.ifCond .lt 16, 3) := by decide +kernel
theorem dX12_draughty_32 : decode cX12_draughty 32 = .ok (.aload_n 0, 1) := by decide +kernel
theorem dX12_draughty_33 : decode cX12_draughty 33 = .ok (.iload_n 3, 1) := by decide +kernel
theorem dX12_draughty_34 : decode cX12_draughty 34 = .ok (.invokevirtual 361, 3) := by decide +kernel
theorem dX12_draughty_37 : decode cX12_draughty 37 = .ok (.aload_n 0, 1) := by decide +kernel
theorem dX12_draughty_38 : decode cX12_draughty 38 = .ok (.iload_n 2, 1) := by decide +kernel
theorem dX12_draughty_39 : decode cX12_draughty 39 = .ok (.invokevirtual 361, 3) := by decide +kernel
theorem dX12_draughty_42 : decode cX12_draughty 42 = .ok (.if_icmp .le 5, 3) := by decide +kernel
theorem dX12_draughty_45 : decode cX12_draughty 45 = .ok (.iload_n 3, 1) := by decide +kernel
theorem dX12_draughty_46 : decode cX12_draughty 46 = .ok (.istore_n 2, 1) := by decide +kernel
theorem dX12_draughty_47 : decode cX12_draughty 47 = .ok (.iinc 3 1, 3) := by decide +kernel
theorem dX12_draughty_50 : decode cX12_draughty 50 = .ok (.goto (-30), 3) := by decide +kernel
theorem dX12_draughty_53 : decode cX12_draughty 53 = .ok (.iload_n 2, 1) := by decide +kernel
theorem dX12_draughty_54 : decode cX12_draughty 54 = .ok (.ifCond .lt 7, 3) := by decide +kernel
theorem dX12_draughty_57 : decode cX12_draughty 57 = .ok (.iload_n 1, 1) := by decide +kernel
theorem dX12_draughty_58 : decode cX12_draughty 58 = .ok (.ifCond .ne 7, 3) := by decide +kernel
theorem dX12_draughty_61 : decode cX12_draughty 61 = .ok (.iload_n 2, 1) := by decide +kernel
theorem dX12_draughty_62 : decode cX12_draughty 62 = .ok (.goto 8, 3) := by decide +kernel
theorem dX12_draughty_65 : decode cX12_draughty 65 = .ok (.aload_n 0, 1) := by decide +kernel
theorem dX12_draughty_66 : decode cX12_draughty 66 = .ok (.iload_n 2, 1) := by decide +kernel
theorem dX12_draughty_67 : decode cX12_draughty 67 = .ok (.invokevirtual 361, 3) := by decide +kernel
theorem dX12_draughty_70 : decode cX12_draughty 70 = .ok (.ireturn, 1) := by decide +kernel
theorem dX12_needsOf_0 : decode cX12_needsOf 0 = .ok (.iconst 0, 1) := by decide +kernel
theorem dX12_needsOf_1 : decode cX12_needsOf 1 = .ok (.istore_n 2, 1) := by decide +kernel
theorem dX12_needsOf_2 : decode cX12_needsOf 2 = .ok (.iload_n 2, 1) := by decide +kernel
theorem dX12_needsOf_3 : decode cX12_needsOf 3 = .ok (.bipush 31, 2) := by decide +kernel
theorem dX12_needsOf_5 : decode cX12_needsOf 5 = .ok (.if_icmp .ge 25, 3) := by decide +kernel
theorem dX12_needsOf_8 : decode cX12_needsOf 8 = .ok (.aload_n 0, 1) := by decide +kernel
theorem dX12_needsOf_9 : decode cX12_needsOf 9 = .ok (.getfield 125, 3) := by decide +kernel
theorem dX12_needsOf_12 : decode cX12_needsOf 12 = .ok (.bipush 31, 2) := by decide +kernel
theorem dX12_needsOf_14 : decode cX12_needsOf 14 = .ok (.iload_n 1, 1) := by decide +kernel
theorem dX12_needsOf_15 : decode cX12_needsOf 15 = .ok (.imul, 1) := by decide +kernel
theorem dX12_needsOf_16 : decode cX12_needsOf 16 = .ok (.iload_n 2, 1) := by decide +kernel
theorem dX12_needsOf_17 : decode cX12_needsOf 17 = .ok (.iadd, 1) := by decide +kernel
theorem dX12_needsOf_18 : decode cX12_needsOf 18 = .ok (.iaload, 1) := by decide +kernel
theorem dX12_needsOf_19 : decode cX12_needsOf 19 = .ok (.ifCond .ne 5, 3) := by decide +kernel
theorem dX12_needsOf_22 : decode cX12_needsOf 22 = .ok (.iload_n 2, 1) := by decide +kernel
theorem dX12_needsOf_23 : decode cX12_needsOf 23 = .ok (.ireturn, 1) := by decide +kernel
theorem dX12_needsOf_24 : decode cX12_needsOf 24 = .ok (.iinc 2 1, 3) := by decide +kernel
theorem dX12_needsOf_27 : decode cX12_needsOf 27 = .ok (.goto (-25), 3) := by decide +kernel
theorem dX12_needsOf_30 : decode cX12_needsOf 30 = .ok (.bipush 31, 2) := by decide +kernel
theorem dX12_needsOf_32 : decode cX12_needsOf 32 = .ok (.ireturn, 1) := by decide +kernel
theorem dX12_enough_0 : decode cX12_enough 0 = .ok (.aload_n 0, 1) := by decide +kernel
theorem dX12_enough_1 : decode cX12_enough 1 = .ok (.invokevirtual 323, 3) := by decide +kernel
theorem dX12_enough_4 : decode cX12_enough 4 = .ok (.aload_n 0, 1) := by decide +kernel
theorem dX12_enough_5 : decode cX12_enough 5 = .ok (.bipush 30, 2) := by decide +kernel
theorem dX12_enough_7 : decode cX12_enough 7 = .ok (.invokevirtual 389, 3) := by decide +kernel
theorem dX12_enough_10 : decode cX12_enough 10 = .ok (.iconst 0, 1) := by decide +kernel
theorem dX12_enough_11 : decode cX12_enough 11 = .ok (.istore_n 1, 1) := by decide +kernel
theorem dX12_enough_12 : decode cX12_enough 12 = .ok (.iconst 0, 1) := by decide +kernel
theorem dX12_enough_13 : decode cX12_enough 13 = .ok (.istore_n 2, 1) := by decide +kernel
theorem dX12_enough_14 : decode cX12_enough 14 = .ok (.iload_n 2, 1) := by decide +kernel
theorem dX12_enough_15 : decode cX12_enough 15 = .ok (.aload_n 0, 1) := by decide +kernel
theorem dX12_enough_16 : decode cX12_enough 16 = .ok (.invokevirtual 309, 3) := by decide +kernel
theorem dX12_enough_19 : decode cX12_enough 19 = .ok (.if_icmp .ge 30, 3) := by decide +kernel
theorem dX12_enough_22 : decode cX12_enough 22 = .ok (.aload_n 0, 1) := by decide +kernel
theorem dX12_enough_23 : decode cX12_enough 23 = .ok (.iload_n 2, 1) := by decide +kernel
theorem dX12_enough_24 : decode cX12_enough 24 = .ok (.invokevirtual 404, 3) := by decide +kernel
theorem dX12_enough_27 : decode cX12_enough 27 = .ok (.bipush 30, 2) := by decide +kernel
theorem dX12_enough_29 : decode cX12_enough 29 = .ok (.if_icmp .le 6, 3) := by decide +kernel
theorem dX12_enough_32 : decode cX12_enough 32 = .ok (.bipush (-2), 2) := by decide +kernel
theorem dX12_enough_34 : decode cX12_enough 34 = .ok (.ireturn, 1) := by decide +kernel
theorem dX12_enough_35 : decode cX12_enough 35 = .ok (.iload_n 1, 1) := by decide +kernel
theorem dX12_enough_36 : decode cX12_enough 36 = .ok (.aload_n 0, 1) := by decide +kernel
theorem dX12_enough_37 : decode cX12_enough 37 = .ok (.iload_n 2, 1) := by decide +kernel
theorem dX12_enough_38 : decode cX12_enough 38 = .ok (.invokevirtual 404, 3) := by decide +kernel
theorem dX12_enough_41 : decode cX12_enough 41 = .ok (.iadd, 1) := by decide +kernel
theorem dX12_enough_42 : decode cX12_enough 42 = .ok (.istore_n 1, 1) := by decide +kernel
theorem dX12_enough_43 : decode cX12_enough 43 = .ok (.iinc 2 1, 3) := by decide +kernel
theorem dX12_enough_46 : decode cX12_enough 46 = .ok (.goto (-32), 3) := by decide +kernel
theorem dX12_enough_49 : decode cX12_enough 49 = .ok (.iload_n 1, 1) := by decide +kernel
theorem dX12_enough_50 : decode cX12_enough 50 = .ok (.ireturn, 1) := by decide +kernel
theorem dX12_unit_0 : decode cX12_unit 0 = .ok (.aload_n 0, 1) := by decide +kernel
theorem dX12_unit_1 : decode cX12_unit 1 = .ok (.iconst 2, 1) := by decide +kernel
theorem dX12_unit_2 : decode cX12_unit 2 = .ok (.invokevirtual 233, 3) := by decide +kernel
theorem dX12_unit_5 : decode cX12_unit 5 = .ok (.ifCond .eq 24, 3) := by decide +kernel
theorem dX12_unit_8 : decode cX12_unit 8 = .ok (.aload_n 0, 1) := by decide +kernel
theorem dX12_unit_9 : decode cX12_unit 9 = .ok (.iconst 0, 1) := by decide +kernel
theorem dX12_unit_10 : decode cX12_unit 10 = .ok (.aload_n 0, 1) := by decide +kernel
theorem dX12_unit_11 : decode cX12_unit 11 = .ok (.getfield 27, 3) := by decide +kernel
theorem dX12_unit_14 : decode cX12_unit 14 = .ok (.aload_n 0, 1) := by decide +kernel
theorem dX12_unit_15 : decode cX12_unit 15 = .ok (.getfield 218, 3) := by decide +kernel
theorem dX12_unit_18 : decode cX12_unit 18 = .ok (.iaload, 1) := by decide +kernel
theorem dX12_unit_19 : decode cX12_unit 19 = .ok (.invokevirtual 295, 3) := by decide +kernel
theorem dX12_unit_22 : decode cX12_unit 22 = .ok (.aload_n 0, 1) := by decide +kernel
theorem dX12_unit_23 : decode cX12_unit 23 = .ok (.invokevirtual 236, 3) := by decide +kernel
theorem dX12_unit_26 : decode cX12_unit 26 = .ok (.goto 67, 3) := by decide +kernel
theorem dX12_unit_29 : decode cX12_unit 29 = .ok (.aload_n 0, 1) := by decide +kernel
theorem dX12_unit_30 : decode cX12_unit 30 = .ok (.getfield 215, 3) := by decide +kernel
theorem dX12_unit_33 : decode cX12_unit 33 = .ok (.ifCond .ne 55, 3) := by decide +kernel
theorem dX12_unit_36 : decode cX12_unit 36 = .ok (.aload_n 0, 1) := by decide +kernel
theorem dX12_unit_37 : decode cX12_unit 37 = .ok (.getfield 20, 3) := by decide +kernel
theorem dX12_unit_40 : decode cX12_unit 40 = .ok (.aload_n 0, 1) := by decide +kernel
theorem dX12_unit_41 : decode cX12_unit 41 = .ok (.getfield 218, 3) := by decide +kernel
theorem dX12_unit_44 : decode cX12_unit 44 = .ok (.iaload, 1) := by decide +kernel
theorem dX12_unit_45 : decode cX12_unit 45 = .ok (.bipush 32, 2) := by decide +kernel
theorem dX12_unit_47 : decode cX12_unit 47 = .ok (.if_icmp .lt 41, 3) := by decide +kernel
theorem dX12_unit_50 : decode cX12_unit 50 = .ok (.aload_n 0, 1) := by decide +kernel
theorem dX12_unit_51 : decode cX12_unit 51 = .ok (.getfield 20, 3) := by decide +kernel
theorem dX12_unit_54 : decode cX12_unit 54 = .ok (.aload_n 0, 1) := by decide +kernel
theorem dX12_unit_55 : decode cX12_unit 55 = .ok (.getfield 218, 3) := by decide +kernel
theorem dX12_unit_58 : decode cX12_unit 58 = .ok (.iaload, 1) := by decide +kernel
theorem dX12_unit_59 : decode cX12_unit 59 = .ok (.bipush 40, 2) := by decide +kernel
theorem dX12_unit_61 : decode cX12_unit 61 = .ok (.if_icmp .gt 27, 3) := by decide +kernel
theorem dX12_unit_64 : decode cX12_unit 64 = .ok (.aload_n 0, 1) := by decide +kernel
theorem dX12_unit_65 : decode cX12_unit 65 = .ok (.iconst 1, 1) := by decide +kernel
theorem dX12_unit_66 : decode cX12_unit 66 = .ok (.aload_n 0, 1) := by decide +kernel
theorem dX12_unit_67 : decode cX12_unit 67 = .ok (.getfield 20, 3) := by decide +kernel
theorem dX12_unit_70 : decode cX12_unit 70 = .ok (.aload_n 0, 1) := by decide +kernel
theorem dX12_unit_71 : decode cX12_unit 71 = .ok (.getfield 218, 3) := by decide +kernel
theorem dX12_unit_74 : decode cX12_unit 74 = .ok (.iaload, 1) := by decide +kernel
theorem dX12_unit_75 : decode cX12_unit 75 = .ok (.bipush 32, 2) := by decide +kernel
theorem dX12_unit_77 : decode cX12_unit 77 = .ok (.isub, 1) := by decide +kernel
theorem dX12_unit_78 : decode cX12_unit 78 = .ok (.invokevirtual 295, 3) := by decide +kernel
theorem dX12_unit_81 : decode cX12_unit 81 = .ok (.aload_n 0, 1) := by decide +kernel
theorem dX12_unit_82 : decode cX12_unit 82 = .ok (.invokevirtual 236, 3) := by decide +kernel
theorem dX12_unit_85 : decode cX12_unit 85 = .ok (.goto 8, 3) := by decide +kernel
theorem dX12_unit_88 : decode cX12_unit 88 = .ok (.aload_n 0, 1) := by decide +kernel
theorem dX12_unit_89 : decode cX12_unit 89 = .ok (.iconst 1, 1) := by decide +kernel
theorem dX12_unit_90 : decode cX12_unit 90 = .ok (.invokevirtual 230, 3) := by decide +kernel
theorem dX12_unit_93 : decode cX12_unit 93 = .ok (.return_, 1) := by decide +kernel
theorem dX12_expression_0 : decode cX12_expression 0 = .ok (.aload_n 0, 1) := by decide +kernel
theorem dX12_expression_1 : decode cX12_expression 1 = .ok (.iconst 0, 1) := by decide +kernel
theorem dX12_expression_2 : decode cX12_expression 2 = .ok (.putfield 292, 3) := by decide +kernel
theorem dX12_expression_5 : decode cX12_expression 5 = .ok (.aload_n 0, 1) := by decide +kernel
theorem dX12_expression_6 : decode cX12_expression 6 = .ok (.getfield 242, 3) := by decide +kernel
theorem dX12_expression_9 : decode cX12_expression 9 = .ok (.istore_n 1, 1) := by decide +kernel
theorem dX12_expression_10 : decode cX12_expression 10 = .ok (.iconst 1, 1) := by decide +kernel
theorem dX12_expression_11 : decode cX12_expression 11 = .ok (.istore_n 2, 1) := by decide +kernel
theorem dX12_expression_12 : decode cX12_expression 12 = .ok (.iload_n 2, 1) := by decide +kernel
theorem dX12_expression_13 : decode cX12_expression 13 = .ok (.ifCond .eq 259, 3) := by decide +kernel
theorem dX12_expression_16 : decode cX12_expression 16 = .ok (.aload_n 0, 1) := by decide +kernel
theorem dX12_expression_17 : decode cX12_expression 17 = .ok (.getfield 215, 3) := by decide +kernel
theorem dX12_expression_20 : decode cX12_expression 20 = .ok (.ifCond .ne 252, 3) := by decide +kernel
theorem dX12_expression_23 : decode cX12_expression 23 = .ok (.aload_n 0, 1) := by decide +kernel
theorem dX12_expression_24 : decode cX12_expression 24 = .ok (.bipush 6, 2) := by decide +kernel
theorem dX12_expression_26 : decode cX12_expression 26 = .ok (.invokevirtual 233, 3) := by decide +kernel
theorem dX12_expression_29 : decode cX12_expression 29 = .ok (.ifCond .eq 55, 3) := by decide +kernel
theorem dX12_expression_32 : decode cX12_expression 32 = .ok (.aload_n 0, 1) := by decide +kernel
theorem dX12_expression_33 : decode cX12_expression 33 = .ok (.getfield 242, 3) := by decide +kernel
theorem dX12_expression_36 : decode cX12_expression 36 = .ok (.bipush 6, 2) := by decide +kernel
theorem dX12_expression_38 : decode cX12_expression 38 = .ok (.if_icmp .ne 8, 3) := by decide +kernel
theorem dX12_expression_41 : decode cX12_expression 41 = .ok (.aload_n 0, 1) := by decide +kernel
theorem dX12_expression_42 : decode cX12_expression 42 = .ok (.iconst 2, 1) := by decide +kernel
theorem dX12_expression_43 : decode cX12_expression 43 = .ok (.invokevirtual 230, 3) := by decide +kernel
theorem dX12_expression_46 : decode cX12_expression 46 = .ok (.aload_n 0, 1) := by decide +kernel
theorem dX12_expression_47 : decode cX12_expression 47 = .ok (.dup, 1) := by decide +kernel
theorem dX12_expression_48 : decode cX12_expression 48 = .ok (.getfield 242, 3) := by decide +kernel
theorem dX12_expression_51 : decode cX12_expression 51 = .ok (.iconst 1, 1) := by decide +kernel
theorem dX12_expression_52 : decode cX12_expression 52 = .ok (.iadd, 1) := by decide +kernel
theorem dX12_expression_53 : decode cX12_expression 53 = .ok (.putfield 242, 3) := by decide +kernel
theorem dX12_expression_56 : decode cX12_expression 56 = .ok (.aload_n 0, 1) := by decide +kernel
theorem dX12_expression_57 : decode cX12_expression 57 = .ok (.invokevirtual 236, 3) := by decide +kernel
theorem dX12_expression_60 : decode cX12_expression 60 = .ok (.aload_n 0, 1) := by decide +kernel
theorem dX12_expression_61 : decode cX12_expression 61 = .ok (.getfield 101, 3) := by decide +kernel
theorem dX12_expression_64 : decode cX12_expression 64 = .ok (.aload_n 0, 1) := by decide +kernel
theorem dX12_expression_65 : decode cX12_expression 65 = .ok (.getfield 292, 3) := by decide +kernel
theorem dX12_expression_68 : decode cX12_expression 68 = .ok (.bipush 6, 2) := by decide +kernel
theorem dX12_expression_70 : decode cX12_expression 70 = .ok (.iastore, 1) := by decide +kernel
theorem dX12_expression_71 : decode cX12_expression 71 = .ok (.aload_n 0, 1) := by decide +kernel
theorem dX12_expression_72 : decode cX12_expression 72 = .ok (.dup, 1) := by decide +kernel
theorem dX12_expression_73 : decode cX12_expression 73 = .ok (.getfield 292, 3) := by decide +kernel
theorem dX12_expression_76 : decode cX12_expression 76 = .ok (.iconst 1, 1) := by decide +kernel
theorem dX12_expression_77 : decode cX12_expression 77 = .ok (.iadd, 1) := by decide +kernel
theorem dX12_expression_78 : decode cX12_expression 78 = .ok (.putfield 292, 3) := by decide +kernel
theorem dX12_expression_81 : decode cX12_expression 81 = .ok (.goto (-58), 3) := by decide +kernel
theorem dX12_expression_84 : decode cX12_expression 84 = .ok (.aload_n 0, 1) := by decide +kernel
theorem dX12_expression_85 : decode cX12_expression 85 = .ok (.invokevirtual 298, 3) := by decide +kernel
theorem dX12_expression_88 : decode cX12_expression 88 = .ok (.aload_n 0, 1) := by decide +kernel
theorem dX12_expression_89 : decode cX12_expression 89 = .ok (.getfield 215, 3) := by decide +kernel
theorem dX12_expression_92 : decode cX12_expression 92 = .ok (.ifCond .le 4, 3) := by decide +kernel
theorem dX12_expression_95 : decode cX12_expression 95 = .ok (.return_, 1) := by decide +kernel
theorem dX12_expression_96 : decode cX12_expression 96 = .ok (.aload_n 0, 1) := by decide +kernel
theorem dX12_expression_97 : decode cX12_expression 97 = .ok (.bipush 7, 2) := by decide +kernel
theorem dX12_expression_99 : decode cX12_expression 99 = .ok (.invokevirtual 233, 3) := by decide +kernel
theorem dX12_expression_102 : decode cX12_expression 102 = .ok (.ifCond .eq 43, 3) := by decide +kernel
theorem dX12_expression_105 : decode cX12_expression 105 = .ok (.aload_n 0, 1) := by decide +kernel
theorem dX12_expression_106 : decode cX12_expression 106 = .ok (.getfield 242, 3) := by decide +kernel
theorem dX12_expression_109 : decode cX12_expression 109 = .ok (.iload_n 1, 1) := by decide +kernel
theorem dX12_expression_110 : decode cX12_expression 110 = .ok (.if_icmp .le 35, 3) := by decide +kernel
theorem dX12_expression_113 : decode cX12_expression 113 = .ok (.aload_n 0, 1) := by decide +kernel
theorem dX12_expression_114 : decode cX12_expression 114 = .ok (.iconst 0, 1) := by decide +kernel
theorem dX12_expression_115 : decode cX12_expression 115 = .ok (.invokevirtual 301, 3) := by decide +kernel
theorem dX12_expression_118 : decode cX12_expression 118 = .ok (.aload_n 0, 1) := by decide +kernel
theorem dX12_expression_119 : decode cX12_expression 119 = .ok (.dup, 1) := by decide +kernel
theorem dX12_expression_120 : decode cX12_expression 120 = .ok (.getfield 292, 3) := by decide +kernel
theorem dX12_expression_123 : decode cX12_expression 123 = .ok (.iconst 1, 1) := by decide +kernel
theorem dX12_expression_124 : decode cX12_expression 124 = .ok (.isub, 1) := by decide +kernel
theorem dX12_expression_125 : decode cX12_expression 125 = .ok (.putfield 292, 3) := by decide +kernel
theorem dX12_expression_128 : decode cX12_expression 128 = .ok (.aload_n 0, 1) := by decide +kernel
theorem dX12_expression_129 : decode cX12_expression 129 = .ok (.dup, 1) := by decide +kernel
theorem dX12_expression_130 : decode cX12_expression 130 = .ok (.getfield 242, 3) := by decide +kernel
theorem dX12_expression_133 : decode cX12_expression 133 = .ok (.iconst 1, 1) := by decide +kernel
theorem dX12_expression_134 : decode cX12_expression 134 = .ok (.isub, 1) := by decide +kernel
theorem dX12_expression_135 : decode cX12_expression 135 = .ok (.putfield 242, 3) := by decide +kernel
theorem dX12_expression_138 : decode cX12_expression 138 = .ok (.aload_n 0, 1) := by decide +kernel
theorem dX12_expression_139 : decode cX12_expression 139 = .ok (.invokevirtual 236, 3) := by decide +kernel
theorem dX12_expression_142 : decode cX12_expression 142 = .ok (.goto (-46), 3) := by decide +kernel
theorem dX12_expression_145 : decode cX12_expression 145 = .ok (.aload_n 0, 1) := by decide +kernel
theorem dX12_expression_146 : decode cX12_expression 146 = .ok (.bipush 8, 2) := by decide +kernel
theorem dX12_expression_148 : decode cX12_expression 148 = .ok (.invokevirtual 233, 3) := by decide +kernel
theorem dX12_expression_151 : decode cX12_expression 151 = .ok (.ifCond .ne 30, 3) := by decide +kernel
theorem dX12_expression_154 : decode cX12_expression 154 = .ok (.aload_n 0, 1) := by decide +kernel
theorem dX12_expression_155 : decode cX12_expression 155 = .ok (.bipush 9, 2) := by decide +kernel
theorem dX12_expression_157 : decode cX12_expression 157 = .ok (.invokevirtual 233, 3) := by decide +kernel
theorem dX12_expression_160 : decode cX12_expression 160 = .ok (.ifCond .ne 21, 3) := by decide +kernel
theorem dX12_expression_163 : decode cX12_expression 163 = .ok (.aload_n 0, 1) := by decide +kernel
theorem dX12_expression_164 : decode cX12_expression 164 = .ok (.bipush 10, 2) := by decide +kernel
theorem dX12_expression_166 : decode cX12_expression 166 = .ok (.invokevirtual 233, 3) := by decide +kernel
theorem dX12_expression_169 : decode cX12_expression 169 = .ok (.ifCond .ne 12, 3) := by decide +kernel
theorem dX12_expression_172 : decode cX12_expression 172 = .ok (.aload_n 0, 1) := by decide +kernel
theorem dX12_expression_173 : decode cX12_expression 173 = .ok (.bipush 15, 2) := by decide +kernel
theorem dX12_expression_175 : decode cX12_expression 175 = .ok (.invokevirtual 233, 3) := by decide +kernel
theorem dX12_expression_178 : decode cX12_expression 178 = .ok (.ifCond .eq 7, 3) := by decide +kernel
theorem dX12_expression_181 : decode cX12_expression 181 = .ok (.iconst 1, 1) := by decide +kernel
theorem dX12_expression_182 : decode cX12_expression 182 = .ok (.goto 4, 3) := by decide +kernel
theorem dX12_expression_185 : decode cX12_expression 185 = .ok (.iconst 0, 1) := by decide +kernel
theorem dX12_expression_186 : decode cX12_expression 186 = .ok (.istore_n 2, 1) := by decide +kernel
theorem dX12_expression_187 : decode cX12_expression 187 = .ok (.iload_n 2, 1) := by decide +kernel
theorem dX12_expression_188 : decode cX12_expression 188 = .ok (.ifCond .ne 22, 3) := by decide +kernel
theorem dX12_expression_191 : decode cX12_expression 191 = .ok (.aload_n 0, 1) := by decide +kernel
theorem dX12_expression_192 : decode cX12_expression 192 = .ok (.getfield 242, 3) := by decide +kernel
theorem dX12_expression_195 : decode cX12_expression 195 = .ok (.iload_n 1, 1) := by decide +kernel
theorem dX12_expression_196 : decode cX12_expression 196 = .ok (.if_icmp .le 8, 3) := by decide +kernel
theorem dX12_expression_199 : decode cX12_expression 199 = .ok (.aload_n 0, 1) := by decide +kernel
theorem dX12_expression_200 : decode cX12_expression 200 = .ok (.iconst 1, 1) := by decide +kernel
theorem dX12_expression_201 : decode cX12_expression 201 = .ok (.invokevirtual 230, 3) := by decide +kernel
theorem dX12_expression_204 : decode cX12_expression 204 = .ok (.aload_n 0, 1) := by decide +kernel
theorem dX12_expression_205 : decode cX12_expression 205 = .ok (.iconst 0, 1) := by decide +kernel
theorem dX12_expression_206 : decode cX12_expression 206 = .ok (.invokevirtual 301, 3) := by decide +kernel
theorem dX12_expression_209 : decode cX12_expression 209 = .ok (.return_, 1) := by decide +kernel
theorem dX12_expression_210 : decode cX12_expression 210 = .ok (.aload_n 0, 1) := by decide +kernel
theorem dX12_expression_211 : decode cX12_expression 211 = .ok (.aload_n 0, 1) := by decide +kernel
theorem dX12_expression_212 : decode cX12_expression 212 = .ok (.bipush 10, 2) := by decide +kernel
theorem dX12_expression_214 : decode cX12_expression 214 = .ok (.invokevirtual 233, 3) := by decide +kernel
theorem dX12_expression_217 : decode cX12_expression 217 = .ok (.ifCond .ne 12, 3) := by decide +kernel
theorem dX12_expression_220 : decode cX12_expression 220 = .ok (.aload_n 0, 1) := by decide +kernel
theorem dX12_expression_221 : decode cX12_expression 221 = .ok (.bipush 15, 2) := by decide +kernel
theorem dX12_expression_223 : decode cX12_expression 223 = .ok (.invokevirtual 233, 3) := by decide +kernel
theorem dX12_expression_226 : decode cX12_expression 226 = .ok (.ifCond .eq 7, 3) := by decide +kernel
theorem dX12_expression_229 : decode cX12_expression 229 = .ok (.iconst 1, 1) := by decide +kernel
theorem dX12_expression_230 : decode cX12_expression 230 = .ok (.goto 4, 3) := by decide +kernel
theorem dX12_expression_233 : decode cX12_expression 233 = .ok (.iconst 0, 1) := by decide +kernel
theorem dX12_expression_234 : decode cX12_expression 234 = .ok (.invokevirtual 301, 3) := by decide +kernel
theorem dX12_expression_237 : decode cX12_expression 237 = .ok (.aload_n 0, 1) := by decide +kernel
theorem dX12_expression_238 : decode cX12_expression 238 = .ok (.getfield 101, 3) := by decide +kernel
theorem dX12_expression_241 : decode cX12_expression 241 = .ok (.aload_n 0, 1) := by decide +kernel
theorem dX12_expression_242 : decode cX12_expression 242 = .ok (.getfield 292, 3) := by decide +kernel
theorem dX12_expression_245 : decode cX12_expression 245 = .ok (.aload_n 0, 1) := by decide +kernel
theorem dX12_expression_246 : decode cX12_expression 246 = .ok (.getfield 20, 3) := by decide +kernel
theorem dX12_expression_249 : decode cX12_expression 249 = .ok (.aload_n 0, 1) := by decide +kernel
theorem dX12_expression_250 : decode cX12_expression 250 = .ok (.getfield 218, 3) := by decide +kernel
theorem dX12_expression_253 : decode cX12_expression 253 = .ok (.iaload, 1) := by decide +kernel
theorem dX12_expression_254 : decode cX12_expression 254 = .ok (.iastore, 1) := by decide +kernel
theorem dX12_expression_255 : decode cX12_expression 255 = .ok (.aload_n 0, 1) := by decide +kernel
theorem dX12_expression_256 : decode cX12_expression 256 = .ok (.dup, 1) := by decide +kernel
theorem dX12_expression_257 : decode cX12_expression 257 = .ok (.getfield 292, 3) := by decide +kernel
theorem dX12_expression_260 : decode cX12_expression 260 = .ok (.iconst 1, 1) := by decide +kernel
theorem dX12_expression_261 : decode cX12_expression 261 = .ok (.iadd, 1) := by decide +kernel
theorem dX12_expression_262 : decode cX12_expression 262 = .ok (.putfield 292, 3) := by decide +kernel
theorem dX12_expression_265 : decode cX12_expression 265 = .ok (.aload_n 0, 1) := by decide +kernel
theorem dX12_expression_266 : decode cX12_expression 266 = .ok (.invokevirtual 236, 3) := by decide +kernel
theorem dX12_expression_269 : decode cX12_expression 269 = .ok (.goto (-257), 3) := by decide +kernel
theorem dX12_expression_272 : decode cX12_expression 272 = .ok (.return_, 1) := by decide +kernel
theorem dX12_off_0 : decode cX12_off 0 = .ok (.iload_n 0, 1) := by decide +kernel
theorem dX12_off_1 : decode cX12_off 1 = .ok (.iload_n 1, 1) := by decide +kernel
theorem dX12_off_2 : decode cX12_off 2 = .ok (.if_icmp .ge 9, 3) := by decide +kernel
theorem dX12_off_5 : decode cX12_off 5 = .ok (.iload_n 1, 1) := by decide +kernel
theorem dX12_off_6 : decode cX12_off 6 = .ok (.iload_n 0, 1) := by decide +kernel
theorem dX12_off_7 : decode cX12_off 7 = .ok (.isub, 1) := by decide +kernel
theorem dX12_off_8 : decode cX12_off 8 = .ok (.goto 6, 3) := by decide +kernel
theorem dX12_off_11 : decode cX12_off 11 = .ok (.iload_n 0, 1) := by decide +kernel
theorem dX12_off_12 : decode cX12_off 12 = .ok (.iload_n 1, 1) := by decide +kernel
theorem dX12_off_13 : decode cX12_off 13 = .ok (.isub, 1) := by decide +kernel
theorem dX12_off_14 : decode cX12_off 14 = .ok (.ireturn, 1) := by decide +kernel
theorem dX12_farOf_0 : decode cX12_farOf 0 = .ok (.aload_n 0, 1) := by decide +kernel
theorem dX12_farOf_1 : decode cX12_farOf 1 = .ok (.getfield 55, 3) := by decide +kernel
theorem dX12_farOf_4 : decode cX12_farOf 4 = .ok (.bipush 6, 2) := by decide +kernel
theorem dX12_farOf_6 : decode cX12_farOf 6 = .ok (.aload_n 0, 1) := by decide +kernel
theorem dX12_farOf_7 : decode cX12_farOf 7 = .ok (.getfield 245, 3) := by decide +kernel
theorem dX12_farOf_10 : decode cX12_farOf 10 = .ok (.imul, 1) := by decide +kernel
theorem dX12_farOf_11 : decode cX12_farOf 11 = .ok (.iload_n 1, 1) := by decide +kernel
theorem dX12_farOf_12 : decode cX12_farOf 12 = .ok (.iadd, 1) := by decide +kernel
theorem dX12_farOf_13 : decode cX12_farOf 13 = .ok (.iaload, 1) := by decide +kernel
theorem dX12_farOf_14 : decode cX12_farOf 14 = .ok (.aload_n 0, 1) := by decide +kernel
theorem dX12_farOf_15 : decode cX12_farOf 15 = .ok (.getfield 55, 3) := by decide +kernel
theorem dX12_farOf_18 : decode cX12_farOf 18 = .ok (.bipush 6, 2) := by decide +kernel
theorem dX12_farOf_20 : decode cX12_farOf 20 = .ok (.aload_n 0, 1) := by decide +kernel
theorem dX12_farOf_21 : decode cX12_farOf 21 = .ok (.getfield 245, 3) := by decide +kernel
theorem dX12_farOf_24 : decode cX12_farOf 24 = .ok (.imul, 1) := by decide +kernel
theorem dX12_farOf_25 : decode cX12_farOf 25 = .ok (.iload_n 2, 1) := by decide +kernel
theorem dX12_farOf_26 : decode cX12_farOf 26 = .ok (.iadd, 1) := by decide +kernel
theorem dX12_farOf_27 : decode cX12_farOf 27 = .ok (.iaload, 1) := by decide +kernel
theorem dX12_farOf_28 : decode cX12_farOf 28 = .ok (.invokestatic 432, 3) := by decide +kernel
theorem dX12_farOf_31 : decode cX12_farOf 31 = .ok (.aload_n 0, 1) := by decide +kernel
theorem dX12_farOf_32 : decode cX12_farOf 32 = .ok (.getfield 58, 3) := by decide +kernel
theorem dX12_farOf_35 : decode cX12_farOf 35 = .ok (.bipush 6, 2) := by decide +kernel
theorem dX12_farOf_37 : decode cX12_farOf 37 = .ok (.aload_n 0, 1) := by decide +kernel
theorem dX12_farOf_38 : decode cX12_farOf 38 = .ok (.getfield 245, 3) := by decide +kernel
theorem dX12_farOf_41 : decode cX12_farOf 41 = .ok (.imul, 1) := by decide +kernel
theorem dX12_farOf_42 : decode cX12_farOf 42 = .ok (.iload_n 1, 1) := by decide +kernel
theorem dX12_farOf_43 : decode cX12_farOf 43 = .ok (.iadd, 1) := by decide +kernel
theorem dX12_farOf_44 : decode cX12_farOf 44 = .ok (.iaload, 1) := by decide +kernel
theorem dX12_farOf_45 : decode cX12_farOf 45 = .ok (.aload_n 0, 1) := by decide +kernel
theorem dX12_farOf_46 : decode cX12_farOf 46 = .ok (.getfield 58, 3) := by decide +kernel
theorem dX12_farOf_49 : decode cX12_farOf 49 = .ok (.bipush 6, 2) := by decide +kernel
theorem dX12_farOf_51 : decode cX12_farOf 51 = .ok (.aload_n 0, 1) := by decide +kernel
theorem dX12_farOf_52 : decode cX12_farOf 52 = .ok (.getfield 245, 3) := by decide +kernel
theorem dX12_farOf_55 : decode cX12_farOf 55 = .ok (.imul, 1) := by decide +kernel
theorem dX12_farOf_56 : decode cX12_farOf 56 = .ok (.iload_n 2, 1) := by decide +kernel
theorem dX12_farOf_57 : decode cX12_farOf 57 = .ok (.iadd, 1) := by decide +kernel
theorem dX12_farOf_58 : decode cX12_farOf 58 = .ok (.iaload, 1) := by decide +kernel
theorem dX12_farOf_59 : decode cX12_farOf 59 = .ok (.invokestatic 432, 3) := by decide +kernel
theorem dX12_farOf_62 : decode cX12_farOf 62 = .ok (.iadd, 1) := by decide +kernel
theorem dX12_farOf_63 : decode cX12_farOf 63 = .ok (.ireturn, 1) := by decide +kernel
theorem dX12_far_0 : decode cX12_far 0 = .ok (.aload_n 0, 1) := by decide +kernel
theorem dX12_far_1 : decode cX12_far 1 = .ok (.iload_n 1, 1) := by decide +kernel
theorem dX12_far_2 : decode cX12_far 2 = .ok (.invokevirtual 371, 3) := by decide +kernel
theorem dX12_far_5 : decode cX12_far 5 = .ok (.ifCond .eq 20, 3) := by decide +kernel
theorem dX12_far_8 : decode cX12_far 8 = .ok (.aload_n 0, 1) := by decide +kernel
theorem dX12_far_9 : decode cX12_far 9 = .ok (.iload_n 2, 1) := by decide +kernel
theorem dX12_far_10 : decode cX12_far 10 = .ok (.invokevirtual 371, 3) := by decide +kernel
theorem dX12_far_13 : decode cX12_far 13 = .ok (.ifCond .eq 12, 3) := by decide +kernel
theorem dX12_far_16 : decode cX12_far 16 = .ok (.aload_n 0, 1) := by decide +kernel
theorem dX12_far_17 : decode cX12_far 17 = .ok (.iload_n 1, 1) := by decide +kernel
theorem dX12_far_18 : decode cX12_far 18 = .ok (.iload_n 2, 1) := by decide +kernel
theorem dX12_far_19 : decode cX12_far 19 = .ok (.invokevirtual 435, 3) := by decide +kernel
theorem dX12_far_22 : decode cX12_far 22 = .ok (.goto 4, 3) := by decide +kernel
theorem dX12_far_25 : decode cX12_far 25 = .ok (.iconst (-1), 1) := by decide +kernel
theorem dX12_far_26 : decode cX12_far 26 = .ok (.ireturn, 1) := by decide +kernel
theorem dX12_put_0 : decode cX12_put 0 = .ok (.bipush 24, 2) := by decide +kernel
theorem dX12_put_2 : decode cX12_put 2 = .ok (.istore_n 2, 1) := by decide +kernel
theorem dX12_put_3 : decode cX12_put 3 = .ok (.iload_n 2, 1) := by decide +kernel
theorem dX12_put_4 : decode cX12_put 4 = .ok (.ifCond .lt 32, 3) := by decide +kernel
theorem dX12_put_7 : decode cX12_put 7 = .ok (.aload_n 0, 1) := by decide +kernel
theorem dX12_put_8 : decode cX12_put 8 = .ok (.getfield 13, 3) := by decide +kernel
theorem dX12_put_11 : decode cX12_put 11 = .ok (.aload_n 0, 1) := by decide +kernel
theorem dX12_put_12 : decode cX12_put 12 = .ok (.getfield 178, 3) := by decide +kernel
theorem dX12_put_15 : decode cX12_put 15 = .ok (.iload_n 1, 1) := by decide +kernel
theorem dX12_put_16 : decode cX12_put 16 = .ok (.iload_n 2, 1) := by decide +kernel
theorem dX12_put_17 : decode cX12_put 17 = .ok (.ishr, 1) := by decide +kernel
theorem dX12_put_18 : decode cX12_put 18 = .ok (.i2b, 1) := by decide +kernel
theorem dX12_put_19 : decode cX12_put 19 = .ok (.bastore, 1) := by decide +kernel
theorem dX12_put_20 : decode cX12_put 20 = .ok (.aload_n 0, 1) := by decide +kernel
theorem dX12_put_21 : decode cX12_put 21 = .ok (.dup, 1) := by decide +kernel
theorem dX12_put_22 : decode cX12_put 22 = .ok (.getfield 178, 3) := by decide +kernel
theorem dX12_put_25 : decode cX12_put 25 = .ok (.iconst 1, 1) := by decide +kernel
theorem dX12_put_26 : decode cX12_put 26 = .ok (.iadd, 1) := by decide +kernel
theorem dX12_put_27 : decode cX12_put 27 = .ok (.putfield 178, 3) := by decide +kernel
theorem dX12_put_30 : decode cX12_put 30 = .ok (.iinc 2 (-8), 3) := by decide +kernel
theorem dX12_put_33 : decode cX12_put 33 = .ok (.goto (-30), 3) := by decide +kernel
theorem dX12_put_36 : decode cX12_put 36 = .ok (.return_, 1) := by decide +kernel
theorem dX12_feed_0 : decode cX12_feed 0 = .ok (.aload_n 0, 1) := by decide +kernel
theorem dX12_feed_1 : decode cX12_feed 1 = .ok (.getfield 178, 3) := by decide +kernel
theorem dX12_feed_4 : decode cX12_feed 4 = .ok (.bipush 20, 2) := by decide +kernel
theorem dX12_feed_6 : decode cX12_feed 6 = .ok (.iadd, 1) := by decide +kernel
theorem dX12_feed_7 : decode cX12_feed 7 = .ok (.sipush 2000, 3) := by decide +kernel
theorem dX12_feed_10 : decode cX12_feed 10 = .ok (.if_icmp .le 5, 3) := by decide +kernel
theorem dX12_feed_13 : decode cX12_feed 13 = .ok (.iconst (-1), 1) := by decide +kernel
theorem dX12_feed_14 : decode cX12_feed 14 = .ok (.ireturn, 1) := by decide +kernel
theorem dX12_feed_15 : decode cX12_feed 15 = .ok (.aload_n 0, 1) := by decide +kernel
theorem dX12_feed_16 : decode cX12_feed 16 = .ok (.iload_n 1, 1) := by decide +kernel
theorem dX12_feed_17 : decode cX12_feed 17 = .ok (.invokevirtual 181, 3) := by decide +kernel
theorem dX12_feed_20 : decode cX12_feed 20 = .ok (.aload_n 0, 1) := by decide +kernel
theorem dX12_feed_21 : decode cX12_feed 21 = .ok (.iload_n 2, 1) := by decide +kernel
theorem dX12_feed_22 : decode cX12_feed 22 = .ok (.invokevirtual 181, 3) := by decide +kernel
theorem dX12_feed_25 : decode cX12_feed 25 = .ok (.aload_n 0, 1) := by decide +kernel
theorem dX12_feed_26 : decode cX12_feed 26 = .ok (.iload_n 3, 1) := by decide +kernel
theorem dX12_feed_27 : decode cX12_feed 27 = .ok (.invokevirtual 181, 3) := by decide +kernel
theorem dX12_feed_30 : decode cX12_feed 30 = .ok (.aload_n 0, 1) := by decide +kernel
theorem dX12_feed_31 : decode cX12_feed 31 = .ok (.iload 4, 2) := by decide +kernel
theorem dX12_feed_33 : decode cX12_feed 33 = .ok (.invokevirtual 181, 3) := by decide +kernel
theorem dX12_feed_36 : decode cX12_feed 36 = .ok (.aload_n 0, 1) := by decide +kernel
theorem dX12_feed_37 : decode cX12_feed 37 = .ok (.iload 5, 2) := by decide +kernel
theorem dX12_feed_39 : decode cX12_feed 39 = .ok (.invokevirtual 181, 3) := by decide +kernel
theorem dX12_feed_42 : decode cX12_feed 42 = .ok (.aload_n 0, 1) := by decide +kernel
theorem dX12_feed_43 : decode cX12_feed 43 = .ok (.getfield 178, 3) := by decide +kernel
theorem dX12_feed_46 : decode cX12_feed 46 = .ok (.ireturn, 1) := by decide +kernel
theorem dX12_lowestOf_0 : decode cX12_lowestOf 0 = .ok (.iconst 0, 1) := by decide +kernel
theorem dX12_lowestOf_1 : decode cX12_lowestOf 1 = .ok (.istore_n 1, 1) := by decide +kernel
theorem dX12_lowestOf_2 : decode cX12_lowestOf 2 = .ok (.iload_n 0, 1) := by decide +kernel
theorem dX12_lowestOf_3 : decode cX12_lowestOf 3 = .ok (.iload_n 1, 1) := by decide +kernel
theorem dX12_lowestOf_4 : decode cX12_lowestOf 4 = .ok (.ishr, 1) := by decide +kernel
theorem dX12_lowestOf_5 : decode cX12_lowestOf 5 = .ok (.iconst 1, 1) := by decide +kernel
theorem dX12_lowestOf_6 : decode cX12_lowestOf 6 = .ok (.iand, 1) := by decide +kernel
theorem dX12_lowestOf_7 : decode cX12_lowestOf 7 = .ok (.ifCond .ne 9, 3) := by decide +kernel
theorem dX12_lowestOf_10 : decode cX12_lowestOf 10 = .ok (.iinc 1 1, 3) := by decide +kernel
theorem dX12_lowestOf_13 : decode cX12_lowestOf 13 = .ok (.goto (-11), 3) := by decide +kernel
theorem dX12_lowestOf_16 : decode cX12_lowestOf 16 = .ok (.iload_n 1, 1) := by decide +kernel
theorem dX12_lowestOf_17 : decode cX12_lowestOf 17 = .ok (.ireturn, 1) := by decide +kernel
theorem dX12_unlike_0 : decode cX12_unlike 0 = .ok (.aload_n 0, 1) := by decide +kernel
theorem dX12_unlike_1 : decode cX12_unlike 1 = .ok (.getfield 110, 3) := by decide +kernel
theorem dX12_unlike_4 : decode cX12_unlike 4 = .ok (.bipush 12, 2) := by decide +kernel
theorem dX12_unlike_6 : decode cX12_unlike 6 = .ok (.iload_n 1, 1) := by decide +kernel
theorem dX12_unlike_7 : decode cX12_unlike 7 = .ok (.iadd, 1) := by decide +kernel
theorem dX12_unlike_8 : decode cX12_unlike 8 = .ok (.iaload, 1) := by decide +kernel
theorem dX12_unlike_9 : decode cX12_unlike 9 = .ok (.aload_n 0, 1) := by decide +kernel
theorem dX12_unlike_10 : decode cX12_unlike 10 = .ok (.getfield 110, 3) := by decide +kernel
theorem dX12_unlike_13 : decode cX12_unlike 13 = .ok (.bipush 12, 2) := by decide +kernel
theorem dX12_unlike_15 : decode cX12_unlike 15 = .ok (.iload_n 2, 1) := by decide +kernel
theorem dX12_unlike_16 : decode cX12_unlike 16 = .ok (.iadd, 1) := by decide +kernel
theorem dX12_unlike_17 : decode cX12_unlike 17 = .ok (.iaload, 1) := by decide +kernel
theorem dX12_unlike_18 : decode cX12_unlike 18 = .ok (.invokestatic 432, 3) := by decide +kernel
theorem dX12_unlike_21 : decode cX12_unlike 21 = .ok (.ireturn, 1) := by decide +kernel
theorem dX12_pairedWith_0 : decode cX12_pairedWith 0 = .ok (.aload_n 0, 1) := by decide +kernel
theorem dX12_pairedWith_1 : decode cX12_pairedWith 1 = .ok (.iload_n 1, 1) := by decide +kernel
theorem dX12_pairedWith_2 : decode cX12_pairedWith 2 = .ok (.iload_n 2, 1) := by decide +kernel
theorem dX12_pairedWith_3 : decode cX12_pairedWith 3 = .ok (.invokevirtual 447, 3) := by decide +kernel
theorem dX12_pairedWith_6 : decode cX12_pairedWith 6 = .ok (.sipush 10000, 3) := by decide +kernel
theorem dX12_pairedWith_9 : decode cX12_pairedWith 9 = .ok (.isub, 1) := by decide +kernel
theorem dX12_pairedWith_10 : decode cX12_pairedWith 10 = .ok (.aload_n 0, 1) := by decide +kernel
theorem dX12_pairedWith_11 : decode cX12_pairedWith 11 = .ok (.getfield 146, 3) := by decide +kernel
theorem dX12_pairedWith_14 : decode cX12_pairedWith 14 = .ok (.iload_n 3, 1) := by decide +kernel
theorem dX12_pairedWith_15 : decode cX12_pairedWith 15 = .ok (.iconst 1, 1) := by decide +kernel
theorem dX12_pairedWith_16 : decode cX12_pairedWith 16 = .ok (.iload_n 2, 1) := by decide +kernel
theorem dX12_pairedWith_17 : decode cX12_pairedWith 17 = .ok (.ishl, 1) := by decide +kernel
theorem dX12_pairedWith_18 : decode cX12_pairedWith 18 = .ok (.iconst (-1), 1) := by decide +kernel
theorem dX12_pairedWith_19 : decode cX12_pairedWith 19 = .ok (.ixor, 1) := by decide +kernel
theorem dX12_pairedWith_20 : decode cX12_pairedWith 20 = .ok (.iand, 1) := by decide +kernel
theorem dX12_pairedWith_21 : decode cX12_pairedWith 21 = .ok (.iaload, 1) := by decide +kernel
theorem dX12_pairedWith_22 : decode cX12_pairedWith 22 = .ok (.iadd, 1) := by decide +kernel
theorem dX12_pairedWith_23 : decode cX12_pairedWith 23 = .ok (.ireturn, 1) := by decide +kernel
theorem dX12_fillsPaired_0 : decode cX12_fillsPaired 0 = .ok (.aload_n 0, 1) := by decide +kernel
theorem dX12_fillsPaired_1 : decode cX12_fillsPaired 1 = .ok (.getfield 146, 3) := by decide +kernel
theorem dX12_fillsPaired_4 : decode cX12_fillsPaired 4 = .ok (.iconst 0, 1) := by decide +kernel
theorem dX12_fillsPaired_5 : decode cX12_fillsPaired 5 = .ok (.iconst 0, 1) := by decide +kernel
theorem dX12_fillsPaired_6 : decode cX12_fillsPaired 6 = .ok (.iastore, 1) := by decide +kernel
theorem dX12_fillsPaired_7 : decode cX12_fillsPaired 7 = .ok (.iconst 1, 1) := by decide +kernel
theorem dX12_fillsPaired_8 : decode cX12_fillsPaired 8 = .ok (.istore_n 1, 1) := by decide +kernel
theorem dX12_fillsPaired_9 : decode cX12_fillsPaired 9 = .ok (.iload_n 1, 1) := by decide +kernel
theorem dX12_fillsPaired_10 : decode cX12_fillsPaired 10 = .ok (.iconst 1, 1) := by decide +kernel
theorem dX12_fillsPaired_11 : decode cX12_fillsPaired 11 = .ok (.aload_n 0, 1) := by decide +kernel
theorem dX12_fillsPaired_12 : decode cX12_fillsPaired 12 = .ok (.invokevirtual 309, 3) := by decide +kernel
theorem dX12_fillsPaired_15 : decode cX12_fillsPaired 15 = .ok (.ishl, 1) := by decide +kernel
theorem dX12_fillsPaired_16 : decode cX12_fillsPaired 16 = .ok (.if_icmp .ge 95, 3) := by decide +kernel
theorem dX12_fillsPaired_19 : decode cX12_fillsPaired 19 = .ok (.iload_n 1, 1) := by decide +kernel
theorem dX12_fillsPaired_20 : decode cX12_fillsPaired 20 = .ok (.invokestatic 453, 3) := by decide +kernel
theorem dX12_fillsPaired_23 : decode cX12_fillsPaired 23 = .ok (.istore_n 2, 1) := by decide +kernel
theorem dX12_fillsPaired_24 : decode cX12_fillsPaired 24 = .ok (.iload_n 1, 1) := by decide +kernel
theorem dX12_fillsPaired_25 : decode cX12_fillsPaired 25 = .ok (.iconst 1, 1) := by decide +kernel
theorem dX12_fillsPaired_26 : decode cX12_fillsPaired 26 = .ok (.iload_n 2, 1) := by decide +kernel
theorem dX12_fillsPaired_27 : decode cX12_fillsPaired 27 = .ok (.ishl, 1) := by decide +kernel
theorem dX12_fillsPaired_28 : decode cX12_fillsPaired 28 = .ok (.iconst (-1), 1) := by decide +kernel
theorem dX12_fillsPaired_29 : decode cX12_fillsPaired 29 = .ok (.ixor, 1) := by decide +kernel
theorem dX12_fillsPaired_30 : decode cX12_fillsPaired 30 = .ok (.iand, 1) := by decide +kernel
theorem dX12_fillsPaired_31 : decode cX12_fillsPaired 31 = .ok (.istore_n 3, 1) := by decide +kernel
theorem dX12_fillsPaired_32 : decode cX12_fillsPaired 32 = .ok (.aload_n 0, 1) := by decide +kernel
theorem dX12_fillsPaired_33 : decode cX12_fillsPaired 33 = .ok (.getfield 146, 3) := by decide +kernel
theorem dX12_fillsPaired_36 : decode cX12_fillsPaired 36 = .ok (.iload_n 1, 1) := by decide +kernel
theorem dX12_fillsPaired_37 : decode cX12_fillsPaired 37 = .ok (.aload_n 0, 1) := by decide +kernel
theorem dX12_fillsPaired_38 : decode cX12_fillsPaired 38 = .ok (.getfield 146, 3) := by decide +kernel
theorem dX12_fillsPaired_41 : decode cX12_fillsPaired 41 = .ok (.iload_n 3, 1) := by decide +kernel
theorem dX12_fillsPaired_42 : decode cX12_fillsPaired 42 = .ok (.iaload, 1) := by decide +kernel
theorem dX12_fillsPaired_43 : decode cX12_fillsPaired 43 = .ok (.iastore, 1) := by decide +kernel
theorem dX12_fillsPaired_44 : decode cX12_fillsPaired 44 = .ok (.iload_n 2, 1) := by decide +kernel
theorem dX12_fillsPaired_45 : decode cX12_fillsPaired 45 = .ok (.iconst 1, 1) := by decide +kernel
theorem dX12_fillsPaired_46 : decode cX12_fillsPaired 46 = .ok (.iadd, 1) := by decide +kernel
theorem dX12_fillsPaired_47 : decode cX12_fillsPaired 47 = .ok (.istore 4, 2) := by decide +kernel
theorem dX12_fillsPaired_49 : decode cX12_fillsPaired 49 = .ok (.iload 4, 2) := by decide +kernel
theorem dX12_fillsPaired_51 : decode cX12_fillsPaired 51 = .ok (.aload_n 0, 1) := by decide +kernel
theorem dX12_fillsPaired_52 : decode cX12_fillsPaired 52 = .ok (.invokevirtual 309, 3) := by decide +kernel
theorem dX12_fillsPaired_55 : decode cX12_fillsPaired 55 = .ok (.if_icmp .ge 50, 3) := by decide +kernel
theorem dX12_fillsPaired_58 : decode cX12_fillsPaired 58 = .ok (.iload_n 3, 1) := by decide +kernel
theorem dX12_fillsPaired_59 : decode cX12_fillsPaired 59 = .ok (.iload 4, 2) := by decide +kernel
theorem dX12_fillsPaired_61 : decode cX12_fillsPaired 61 = .ok (.ishr, 1) := by decide +kernel
theorem dX12_fillsPaired_62 : decode cX12_fillsPaired 62 = .ok (.iconst 1, 1) := by decide +kernel
theorem dX12_fillsPaired_63 : decode cX12_fillsPaired 63 = .ok (.iand, 1) := by decide +kernel
theorem dX12_fillsPaired_64 : decode cX12_fillsPaired 64 = .ok (.iconst 1, 1) := by decide +kernel
theorem dX12_fillsPaired_65 : decode cX12_fillsPaired 65 = .ok (.if_icmp .ne 34, 3) := by decide +kernel
theorem dX12_fillsPaired_68 : decode cX12_fillsPaired 68 = .ok (.aload_n 0, 1) := by decide +kernel
theorem dX12_fillsPaired_69 : decode cX12_fillsPaired 69 = .ok (.iload_n 2, 1) := by decide +kernel
theorem dX12_fillsPaired_70 : decode cX12_fillsPaired 70 = .ok (.iload 4, 2) := by decide +kernel
theorem dX12_fillsPaired_72 : decode cX12_fillsPaired 72 = .ok (.iload_n 3, 1) := by decide +kernel
theorem dX12_fillsPaired_73 : decode cX12_fillsPaired 73 = .ok (.invokevirtual 456, 3) := by decide +kernel
theorem dX12_fillsPaired_76 : decode cX12_fillsPaired 76 = .ok (.aload_n 0, 1) := by decide +kernel
theorem dX12_fillsPaired_77 : decode cX12_fillsPaired 77 = .ok (.getfield 146, 3) := by decide +kernel
theorem dX12_fillsPaired_80 : decode cX12_fillsPaired 80 = .ok (.iload_n 1, 1) := by decide +kernel
theorem dX12_fillsPaired_81 : decode cX12_fillsPaired 81 = .ok (.iaload, 1) := by decide +kernel
theorem dX12_fillsPaired_82 : decode cX12_fillsPaired 82 = .ok (.if_icmp .ge 17, 3) := by decide +kernel
theorem dX12_fillsPaired_85 : decode cX12_fillsPaired 85 = .ok (.aload_n 0, 1) := by decide +kernel
theorem dX12_fillsPaired_86 : decode cX12_fillsPaired 86 = .ok (.getfield 146, 3) := by decide +kernel
theorem dX12_fillsPaired_89 : decode cX12_fillsPaired 89 = .ok (.iload_n 1, 1) := by decide +kernel
theorem dX12_fillsPaired_90 : decode cX12_fillsPaired 90 = .ok (.aload_n 0, 1) := by decide +kernel
theorem dX12_fillsPaired_91 : decode cX12_fillsPaired 91 = .ok (.iload_n 2, 1) := by decide +kernel
theorem dX12_fillsPaired_92 : decode cX12_fillsPaired 92 = .ok (.iload 4, 2) := by decide +kernel
theorem dX12_fillsPaired_94 : decode cX12_fillsPaired 94 = .ok (.iload_n 3, 1) := by decide +kernel
theorem dX12_fillsPaired_95 : decode cX12_fillsPaired 95 = .ok (.invokevirtual 456, 3) := by decide +kernel
theorem dX12_fillsPaired_98 : decode cX12_fillsPaired 98 = .ok (.iastore, 1) := by decide +kernel
theorem dX12_fillsPaired_99 : decode cX12_fillsPaired 99 = .ok (.iinc 4 1, 3) := by decide +kernel
theorem dX12_fillsPaired_102 : decode cX12_fillsPaired 102 = .ok (.goto (-53), 3) := by decide +kernel
theorem dX12_fillsPaired_105 : decode cX12_fillsPaired 105 = .ok (.iinc 1 1, 3) := by decide +kernel
theorem dX12_fillsPaired_108 : decode cX12_fillsPaired 108 = .ok (.goto (-99), 3) := by decide +kernel
theorem dX12_fillsPaired_111 : decode cX12_fillsPaired 111 = .ok (.return_, 1) := by decide +kernel
theorem dX12_restWith_0 : decode cX12_restWith 0 = .ok (.aload_n 0, 1) := by decide +kernel
theorem dX12_restWith_1 : decode cX12_restWith 1 = .ok (.iload_n 2, 1) := by decide +kernel
theorem dX12_restWith_2 : decode cX12_restWith 2 = .ok (.iload_n 3, 1) := by decide +kernel
theorem dX12_restWith_3 : decode cX12_restWith 3 = .ok (.invokevirtual 435, 3) := by decide +kernel
theorem dX12_restWith_6 : decode cX12_restWith 6 = .ok (.aload_n 0, 1) := by decide +kernel
theorem dX12_restWith_7 : decode cX12_restWith 7 = .ok (.getfield 134, 3) := by decide +kernel
theorem dX12_restWith_10 : decode cX12_restWith 10 = .ok (.bipush 6, 2) := by decide +kernel
theorem dX12_restWith_12 : decode cX12_restWith 12 = .ok (.iload_n 1, 1) := by decide +kernel
theorem dX12_restWith_13 : decode cX12_restWith 13 = .ok (.iconst 1, 1) := by decide +kernel
theorem dX12_restWith_14 : decode cX12_restWith 14 = .ok (.iload_n 3, 1) := by decide +kernel
theorem dX12_restWith_15 : decode cX12_restWith 15 = .ok (.ishl, 1) := by decide +kernel
theorem dX12_restWith_16 : decode cX12_restWith 16 = .ok (.ior, 1) := by decide +kernel
theorem dX12_restWith_17 : decode cX12_restWith 17 = .ok (.imul, 1) := by decide +kernel
theorem dX12_restWith_18 : decode cX12_restWith 18 = .ok (.iload_n 3, 1) := by decide +kernel
theorem dX12_restWith_19 : decode cX12_restWith 19 = .ok (.iadd, 1) := by decide +kernel
theorem dX12_restWith_20 : decode cX12_restWith 20 = .ok (.iaload, 1) := by decide +kernel
theorem dX12_restWith_21 : decode cX12_restWith 21 = .ok (.iadd, 1) := by decide +kernel
theorem dX12_restWith_22 : decode cX12_restWith 22 = .ok (.ireturn, 1) := by decide +kernel
theorem dX12_fillsRest_0 : decode cX12_fillsRest 0 = .ok (.iconst 1, 1) := by decide +kernel
theorem dX12_fillsRest_1 : decode cX12_fillsRest 1 = .ok (.aload_n 0, 1) := by decide +kernel
theorem dX12_fillsRest_2 : decode cX12_fillsRest 2 = .ok (.invokevirtual 309, 3) := by decide +kernel
theorem dX12_fillsRest_5 : decode cX12_fillsRest 5 = .ok (.ishl, 1) := by decide +kernel
theorem dX12_fillsRest_6 : decode cX12_fillsRest 6 = .ok (.iconst 1, 1) := by decide +kernel
theorem dX12_fillsRest_7 : decode cX12_fillsRest 7 = .ok (.isub, 1) := by decide +kernel
theorem dX12_fillsRest_8 : decode cX12_fillsRest 8 = .ok (.istore_n 1, 1) := by decide +kernel
theorem dX12_fillsRest_9 : decode cX12_fillsRest 9 = .ok (.iload_n 1, 1) := by decide +kernel
theorem dX12_fillsRest_10 : decode cX12_fillsRest 10 = .ok (.ifCond .lt 105, 3) := by decide +kernel
theorem dX12_fillsRest_13 : decode cX12_fillsRest 13 = .ok (.iconst 0, 1) := by decide +kernel
theorem dX12_fillsRest_14 : decode cX12_fillsRest 14 = .ok (.istore_n 2, 1) := by decide +kernel
theorem dX12_fillsRest_15 : decode cX12_fillsRest 15 = .ok (.iload_n 2, 1) := by decide +kernel
theorem dX12_fillsRest_16 : decode cX12_fillsRest 16 = .ok (.aload_n 0, 1) := by decide +kernel
theorem dX12_fillsRest_17 : decode cX12_fillsRest 17 = .ok (.invokevirtual 309, 3) := by decide +kernel
theorem dX12_fillsRest_20 : decode cX12_fillsRest 20 = .ok (.if_icmp .ge 89, 3) := by decide +kernel
theorem dX12_fillsRest_23 : decode cX12_fillsRest 23 = .ok (.iload_n 1, 1) := by decide +kernel
theorem dX12_fillsRest_24 : decode cX12_fillsRest 24 = .ok (.iconst 1, 1) := by decide +kernel
theorem dX12_fillsRest_25 : decode cX12_fillsRest 25 = .ok (.aload_n 0, 1) := by decide +kernel
theorem dX12_fillsRest_26 : decode cX12_fillsRest 26 = .ok (.invokevirtual 309, 3) := by decide +kernel
theorem dX12_fillsRest_29 : decode cX12_fillsRest 29 = .ok (.ishl, 1) := by decide +kernel
theorem dX12_fillsRest_30 : decode cX12_fillsRest 30 = .ok (.iconst 1, 1) := by decide +kernel
theorem dX12_fillsRest_31 : decode cX12_fillsRest 31 = .ok (.isub, 1) := by decide +kernel
theorem dX12_fillsRest_32 : decode cX12_fillsRest 32 = .ok (.if_icmp .ne 7, 3) := by decide +kernel
theorem dX12_fillsRest_35 : decode cX12_fillsRest 35 = .ok (.iconst 0, 1) := by decide +kernel
theorem dX12_fillsRest_36 : decode cX12_fillsRest 36 = .ok (.goto 6, 3) := by decide +kernel
theorem dX12_fillsRest_39 : decode cX12_fillsRest 39 = .ok (.sipush 10000, 3) := by decide +kernel
theorem dX12_fillsRest_42 : decode cX12_fillsRest 42 = .ok (.istore_n 3, 1) := by decide +kernel
theorem dX12_fillsRest_43 : decode cX12_fillsRest 43 = .ok (.iconst 0, 1) := by decide +kernel
theorem dX12_fillsRest_44 : decode cX12_fillsRest 44 = .ok (.istore 4, 2) := by decide +kernel
theorem dX12_fillsRest_46 : decode cX12_fillsRest 46 = .ok (.iload 4, 2) := by decide +kernel
theorem dX12_fillsRest_48 : decode cX12_fillsRest 48 = .ok (.aload_n 0, 1) := by decide +kernel
theorem dX12_fillsRest_49 : decode cX12_fillsRest 49 = .ok (.invokevirtual 309, 3) := by decide +kernel
theorem dX12_fillsRest_52 : decode cX12_fillsRest 52 = .ok (.if_icmp .ge 39, 3) := by decide +kernel
theorem dX12_fillsRest_55 : decode cX12_fillsRest 55 = .ok (.iload_n 1, 1) := by decide +kernel
theorem dX12_fillsRest_56 : decode cX12_fillsRest 56 = .ok (.iload 4, 2) := by decide +kernel
theorem dX12_fillsRest_58 : decode cX12_fillsRest 58 = .ok (.ishr, 1) := by decide +kernel
theorem dX12_fillsRest_59 : decode cX12_fillsRest 59 = .ok (.iconst 1, 1) := by decide +kernel
theorem dX12_fillsRest_60 : decode cX12_fillsRest 60 = .ok (.iand, 1) := by decide +kernel
theorem dX12_fillsRest_61 : decode cX12_fillsRest 61 = .ok (.ifCond .ne 24, 3) := by decide +kernel
theorem dX12_fillsRest_64 : decode cX12_fillsRest 64 = .ok (.aload_n 0, 1) := by decide +kernel
theorem dX12_fillsRest_65 : decode cX12_fillsRest 65 = .ok (.iload_n 1, 1) := by decide +kernel
theorem dX12_fillsRest_66 : decode cX12_fillsRest 66 = .ok (.iload_n 2, 1) := by decide +kernel
theorem dX12_fillsRest_67 : decode cX12_fillsRest 67 = .ok (.iload 4, 2) := by decide +kernel
theorem dX12_fillsRest_69 : decode cX12_fillsRest 69 = .ok (.invokevirtual 438, 3) := by decide +kernel
theorem dX12_fillsRest_72 : decode cX12_fillsRest 72 = .ok (.iload_n 3, 1) := by decide +kernel
theorem dX12_fillsRest_73 : decode cX12_fillsRest 73 = .ok (.if_icmp .ge 12, 3) := by decide +kernel
theorem dX12_fillsRest_76 : decode cX12_fillsRest 76 = .ok (.aload_n 0, 1) := by decide +kernel
theorem dX12_fillsRest_77 : decode cX12_fillsRest 77 = .ok (.iload_n 1, 1) := by decide +kernel
theorem dX12_fillsRest_78 : decode cX12_fillsRest 78 = .ok (.iload_n 2, 1) := by decide +kernel
theorem dX12_fillsRest_79 : decode cX12_fillsRest 79 = .ok (.iload 4, 2) := by decide +kernel
theorem dX12_fillsRest_81 : decode cX12_fillsRest 81 = .ok (.invokevirtual 438, 3) := by decide +kernel
theorem dX12_fillsRest_84 : decode cX12_fillsRest 84 = .ok (.istore_n 3, 1) := by decide +kernel
theorem dX12_fillsRest_85 : decode cX12_fillsRest 85 = .ok (.iinc 4 1, 3) := by decide +kernel
theorem dX12_fillsRest_88 : decode cX12_fillsRest 88 = .ok (.goto (-42), 3) := by decide +kernel
theorem dX12_fillsRest_91 : decode cX12_fillsRest 91 = .ok (.aload_n 0, 1) := by decide +kernel
theorem dX12_fillsRest_92 : decode cX12_fillsRest 92 = .ok (.getfield 134, 3) := by decide +kernel
theorem dX12_fillsRest_95 : decode cX12_fillsRest 95 = .ok (.bipush 6, 2) := by decide +kernel
theorem dX12_fillsRest_97 : decode cX12_fillsRest 97 = .ok (.iload_n 1, 1) := by decide +kernel
theorem dX12_fillsRest_98 : decode cX12_fillsRest 98 = .ok (.imul, 1) := by decide +kernel
theorem dX12_fillsRest_99 : decode cX12_fillsRest 99 = .ok (.iload_n 2, 1) := by decide +kernel
theorem dX12_fillsRest_100 : decode cX12_fillsRest 100 = .ok (.iadd, 1) := by decide +kernel
theorem dX12_fillsRest_101 : decode cX12_fillsRest 101 = .ok (.iload_n 3, 1) := by decide +kernel
theorem dX12_fillsRest_102 : decode cX12_fillsRest 102 = .ok (.iastore, 1) := by decide +kernel
theorem dX12_fillsRest_103 : decode cX12_fillsRest 103 = .ok (.iinc 2 1, 3) := by decide +kernel
theorem dX12_fillsRest_106 : decode cX12_fillsRest 106 = .ok (.goto (-91), 3) := by decide +kernel
theorem dX12_fillsRest_109 : decode cX12_fillsRest 109 = .ok (.iinc 1 (-1), 3) := by decide +kernel
theorem dX12_fillsRest_112 : decode cX12_fillsRest 112 = .ok (.goto (-103), 3) := by decide +kernel
theorem dX12_fillsRest_115 : decode cX12_fillsRest 115 = .ok (.return_, 1) := by decide +kernel
section WK10
variable {p : Program} {l : Launch} {e : Env} {s : State} {m : MethodId} {args : Array Value} {below : List Frame} {meth : Method} {c : Code} {ω : WW}

set_option maxHeartbeats 4000000 in
set_option maxRecDepth 100000 in
theorem wX12_door_b26 (hW : FWM ω) (C : Cx ω p s m args c cX12_door 3 RX12) (hr : meth.sig.returnType = some .boolean) (hk : meth.locks = false) {rr : Int32} {μo : Mem} {x1 : Int32} {x2 : Int32} {k0 : Int32} {μ : Mem} {H : Heap} {locs : List Loc} {ls : Array Slot} (hH : Hd ω μ H) (hS : FS ω s H locs) (hl : lv_has ls 3 [(0, .ref (wB ω + 0)), (1, .int x1), (2, .int x2)]) (h : fX12_door_b26 x1 x2 k0 μ = some (rr, μo)) : W p l e (rmd 3) s m args below meth c H locs 0 0 (MQ below (QR ω (some (.int rr)) μo) args s 0 0 (wA ω)) (F0 m 26 ls [.int k0]) := by
  have hx := C.1
  have hb := C.2.1
  unfold fX12_door_b26 at h
  refine lv_iload_n hx hb dX12_door_26 rfl (lv_at hl 2 rfl) ?_
  refine lv_icmp_ne (tgt := 32) hx hb dX12_door_27 (by decide) (fun hc => ?_) (fun hc => ?_)
  · have h := ite_f hc h
    refine lv_aload_n hx hb dX12_door_32 rfl (lv_at hl 0 rfl) ?_
    obtain ⟨μ5, e4, h⟩ := b1_e h
    refine cVv (as := []) (rest := []) (c_X12_copies hW e4) C hl.1 hH hS rfl (jM_0 hW) rfl wd_54 wd_1510 mw_X12_copies wd_1508 rfl (rm_ok (by decide) (by decide)) (Nat.le_of_ble_eq_true rfl) ⟨Nat.zero_le _, Nat.zero_le _⟩ (by decide) dX12_door_33 (fun H locs hH hS => ?_)
    refine lv_aload_n hx hb dX12_door_36 rfl (lv_at hl 0 rfl) ?_
    refine g_1235 (i := 32) C hH (jM_0 hW) rfl dX12_door_37 ?_
    refine lv_bipush (v := 18) hx hb dX12_door_40 (by decide) ?_
    refine lv_iload_n hx hb dX12_door_42 rfl (lv_at hl 1 rfl) ?_
    refine lv_iadd hx hb dX12_door_43 ?_
    refine lv_iload_n hx hb dX12_door_44 rfl (lv_at hl 2 rfl) ?_
    refine lv_if_eq (tgt := 52) hx hb dX12_door_45 (by decide) (fun hc => ?_) (fun hc => ?_)
    · have h := ite_t hc h
      refine lv_iconst (v := 0) hx hb dX12_door_52 (by decide) ?_
      obtain ⟨b6, h⟩ := gd_e h
      obtain ⟨μ7, e8, h⟩ := bd_e h
      refine h_iast C hH hS (jM_32 hW).1 (jM_32 hW).2.1 b6 dX12_door_53 (fun H locs hH hS => ?_)
      have hH := Hd.to e8 hH
      refine lv_aload_n hx hb dX12_door_54 rfl (lv_at hl 0 rfl) ?_
      obtain ⟨μ10, e9, h⟩ := b1_e h
      refine cVv (as := []) (rest := []) (c_X12_records hW e9) C hl.1 hH hS rfl (jM_0 hW) rfl wd_65 wd_1561 mw_X12_records wd_1559 rfl (rm_ok (by decide) (by decide)) (Nat.le_of_ble_eq_true rfl) ⟨Nat.zero_le _, Nat.zero_le _⟩ (by decide) dX12_door_55 (fun H locs hH hS => ?_)
      refine lv_iconst (v := 1) hx hb dX12_door_58 (by decide) ?_
      exact h_zret (y := 1) C hr hk hH hS rfl (by cases h; rfl) dX12_door_59
    · have h := ite_f hc h
      refine lv_iconst (v := 1) hx hb dX12_door_48 (by decide) ?_
      refine lv_goto (tgt := 53) hx hb dX12_door_49 (by decide) ?_
      obtain ⟨b11, h⟩ := gd_e h
      obtain ⟨μ12, e13, h⟩ := bd_e h
      refine h_iast C hH hS (jM_32 hW).1 (jM_32 hW).2.1 b11 dX12_door_53 (fun H locs hH hS => ?_)
      have hH := Hd.to e13 hH
      refine lv_aload_n hx hb dX12_door_54 rfl (lv_at hl 0 rfl) ?_
      obtain ⟨μ15, e14, h⟩ := b1_e h
      refine cVv (as := []) (rest := []) (c_X12_records hW e14) C hl.1 hH hS rfl (jM_0 hW) rfl wd_65 wd_1561 mw_X12_records wd_1559 rfl (rm_ok (by decide) (by decide)) (Nat.le_of_ble_eq_true rfl) ⟨Nat.zero_le _, Nat.zero_le _⟩ (by decide) dX12_door_55 (fun H locs hH hS => ?_)
      refine lv_iconst (v := 1) hx hb dX12_door_58 (by decide) ?_
      exact h_zret (y := 1) C hr hk hH hS rfl (by cases h; rfl) dX12_door_59
  · have h := ite_t hc h
    refine lv_iconst (v := 0) hx hb dX12_door_30 (by decide) ?_
    exact h_zret (y := 0) C hr hk hH hS rfl (by cases h; rfl) dX12_door_31
set_option maxHeartbeats 4000000 in
set_option maxRecDepth 100000 in
theorem wX12_door_e (hW : FWM ω) (C : Cx ω p s m args c cX12_door 3 RX12) (hr : meth.sig.returnType = some .boolean) (hk : meth.locks = false) {rr : Int32} {μo : Mem} {x1 : Int32} {x2 : Int32} {μ : Mem} {H : Heap} {locs : List Loc} {ls : Array Slot} (hH : Hd ω μ H) (hS : FS ω s H locs) (hl : lv_has ls 3 [(0, .ref (wB ω + 0)), (1, .int x1), (2, .int x2)]) (h : fX12_door x1 x2 μ = some (rr, μo)) : W p l e (rmd 3) s m args below meth c H locs 0 0 (MQ below (QR ω (some (.int rr)) μo) args s 0 0 (wA ω)) (F0 m 0 ls []) := by
  have hx := C.1
  have hb := C.2.1
  unfold fX12_door at h
  refine lv_aload_n hx hb dX12_door_0 rfl (lv_at hl 0 rfl) ?_
  refine lv_iload_n hx hb dX12_door_1 rfl (lv_at hl 1 rfl) ?_
  obtain ⟨r2, e1, h⟩ := b1_e h
  refine cVi (as := [.int x1]) (rest := []) (c_X12_isHouse hW e1) C hl.1 hH hS rfl (jM_0 hW) rfl wd_53 wd_1503 mw_X12_isHouse wd_1501 rfl (rm_ok (by decide) (by decide)) (Nat.le_of_ble_eq_true rfl) ⟨Nat.zero_le _, Nat.zero_le _⟩ (by decide) dX12_door_2 (fun H locs hH hS => ?_)
  refine lv_if_eq (tgt := 30) hx hb dX12_door_5 (by decide) (fun hc => ?_) (fun hc => ?_)
  · have h := ite_t hc h
    refine lv_iconst (v := 0) hx hb dX12_door_30 (by decide) ?_
    exact h_zret (y := 0) C hr hk hH hS rfl (by cases h; rfl) dX12_door_31
  · have h := ite_f hc h
    refine lv_aload_n hx hb dX12_door_8 rfl (lv_at hl 0 rfl) ?_
    refine g_1234 (i := 31) C hH (jM_0 hW) rfl dX12_door_9 ?_
    refine lv_bipush (v := 18) hx hb dX12_door_12 (by decide) ?_
    refine lv_iload_n hx hb dX12_door_14 rfl (lv_at hl 1 rfl) ?_
    refine lv_iadd hx hb dX12_door_15 ?_
    obtain ⟨b3, h⟩ := gd_e h
    refine h_iald C hH (jM_31 hW).1 (jM_31 hW).2.1 b3 dX12_door_16 ?_
    refine lv_iconst (v := 1) hx hb dX12_door_17 (by decide) ?_
    refine lv_icmp_ne (tgt := 25) hx hb dX12_door_18 (by decide) (fun hc => ?_) (fun hc => ?_)
    · have h := ite_f hc h
      refine lv_iconst (v := 0) hx hb dX12_door_25 (by decide) ?_
      exact wX12_door_b26 hW C hr hk hH hS hl h
    · have h := ite_t hc h
      refine lv_iconst (v := 1) hx hb dX12_door_21 (by decide) ?_
      refine lv_goto (tgt := 26) hx hb dX12_door_22 (by decide) ?_
      exact wX12_door_b26 hW C hr hk hH hS hl h
theorem c_X12_door {l : Launch} {ω : WW} {x1 : Int32} {x2 : Int32} (hW : FWM ω) {μ : Mem} {rr : Int32} {μo : Mem} (h : fX12_door x1 x2 μ = some (rr, μo)) : Con l yX12_door cX12_door 3 (some .boolean) 3 ω [.ref (wB ω + 0), .int x1, .int x2] μ (some (.int rr)) μo :=
  con_of (by decide) (Nat.le_of_ble_eq_true rfl) (fun p e s m args below meth c ls C hr hk hl hH hS => wX12_door_e hW C hr hk hH hS (lv_sub hl [0, 1, 2] rfl) h)
set_option maxHeartbeats 4000000 in
set_option maxRecDepth 100000 in
theorem wX12_draughty_s20 (hW : FWM ω) (C : Cx ω p s m args c cX12_draughty 4 RX12) (hr : meth.sig.returnType = some .int) (hk : meth.locks = false) {rr : Int32} {μo : Mem} {x1 : Int32} {x2 : Int32} {x3 : Int32} {rec : Int32 → Int32 → Mem → Option (Int32 × Mem)} (hrec : ∀ (z2 : Int32) (z3 : Int32) (ν : Mem) (H : Heap) (locs : List Loc) (ls : Array Slot), Hd ω ν H → FS ω s H locs → lv_has ls 4 [(0, .ref (wB ω + 0)), (1, .int x1), (2, .int z2), (3, .int z3)] → rec z2 z3 ν = some (rr, μo) → W p l e (rmd 6) s m args below meth c H locs 0 0 (MQ below (QR ω (some (.int rr)) μo) args s 0 0 (wA ω)) (F0 m 20 ls [])) {K : Int32 → Mem → Option (Int32 × Mem)} (hK : ∀ (z2 : Int32) (ν : Mem) (H : Heap) (locs : List Loc) (ls : Array Slot), Hd ω ν H → FS ω s H locs → lv_has ls 4 [(0, .ref (wB ω + 0)), (1, .int x1), (2, .int z2)] → K z2 ν = some (rr, μo) → W p l e (rmd 6) s m args below meth c H locs 0 0 (MQ below (QR ω (some (.int rr)) μo) args s 0 0 (wA ω)) (F0 m 53 ls [])) {μ : Mem} {H : Heap} {locs : List Loc} {ls : Array Slot} (hH : Hd ω μ H) (hS : FS ω s H locs) (hl : lv_has ls 4 [(0, .ref (wB ω + 0)), (1, .int x1), (2, .int x2), (3, .int x3)]) (h : fX12_draughty_s20 rec K x2 x3 μ = some (rr, μo)) : W p l e (rmd 6) s m args below meth c H locs 0 0 (MQ below (QR ω (some (.int rr)) μo) args s 0 0 (wA ω)) (F0 m 20 ls []) := by
  have hx := C.1
  have hb := C.2.1
  unfold fX12_draughty_s20 at h
  refine lv_iload_n hx hb dX12_draughty_20 rfl (lv_at hl 3 rfl) ?_
  refine lv_aload_n hx hb dX12_draughty_21 rfl (lv_at hl 0 rfl) ?_
  obtain ⟨r6, e5, h⟩ := b1_e h
  refine cVi (as := []) (rest := [.int x3]) (c_X12_many hW e5) C hl.1 hH hS rfl (jM_0 hW) rfl wd_31 wd_1182 mw_X12_many wd_1180 rfl (rm_ok (by decide) (by decide)) (Nat.le_of_ble_eq_true rfl) ⟨Nat.zero_le _, Nat.zero_le _⟩ (by decide) dX12_draughty_22 (fun H locs hH hS => ?_)
  refine lv_icmp_ge (tgt := 53) hx hb dX12_draughty_25 (by decide) (fun hc => ?_) (fun hc => ?_)
  · have h := ite_t hc h
    exact hK _ _ H locs ls hH hS (lv_sub hl [0, 1, 2] rfl) h
  · have h := ite_f hc h
    refine lv_iload_n hx hb dX12_draughty_28 rfl (lv_at hl 2 rfl) ?_
    refine lv_if_lt (tgt := 45) hx hb dX12_draughty_29 (by decide) (fun hc => ?_) (fun hc => ?_)
    · have h := ite_t hc h
      refine lv_iload_n hx hb dX12_draughty_45 rfl (lv_at hl 3 rfl) ?_
      refine lv_istore_n (lv' := [(2, .int x3), (0, .ref (wB ω + 0)), (1, .int x1), (3, .int x3)]) hx hb dX12_draughty_46 rfl hl (by decide) rfl (fun ls hl => ?_)
      refine lv_iinc (v := x3 + 1) (lv' := [(3, .int (x3 + 1)), (2, .int x3), (0, .ref (wB ω + 0)), (1, .int x1)]) hx hb dX12_draughty_47 hl (k := 3) rfl rfl (by decide) rfl (fun ls hl => ?_)
      refine lv_goto (tgt := 20) hx hb dX12_draughty_50 (by decide) ?_
      exact hrec _ _ _ H locs ls hH hS (lv_sub hl [2, 3, 1, 0] rfl) h
    · have h := ite_f hc h
      refine lv_aload_n hx hb dX12_draughty_32 rfl (lv_at hl 0 rfl) ?_
      refine lv_iload_n hx hb dX12_draughty_33 rfl (lv_at hl 3 rfl) ?_
      obtain ⟨r9, μ8, e7, h⟩ := b2_e h
      refine cVi (as := [.int x3]) (rest := []) (c_X12_chillOf hW e7) C hl.1 hH hS rfl (jM_0 hW) rfl wd_68 wd_1596 mw_X12_chillOf wd_1594 rfl (rm_ok (by decide) (by decide)) (Nat.le_of_ble_eq_true rfl) ⟨Nat.zero_le _, Nat.zero_le _⟩ (by decide) dX12_draughty_34 (fun H locs hH hS => ?_)
      refine lv_aload_n hx hb dX12_draughty_37 rfl (lv_at hl 0 rfl) ?_
      refine lv_iload_n hx hb dX12_draughty_38 rfl (lv_at hl 2 rfl) ?_
      obtain ⟨r12, μ11, e10, h⟩ := b2_e h
      refine cVi (as := [.int x2]) (rest := [.int r9]) (c_X12_chillOf hW e10) C hl.1 hH hS rfl (jM_0 hW) rfl wd_68 wd_1596 mw_X12_chillOf wd_1594 rfl (rm_ok (by decide) (by decide)) (Nat.le_of_ble_eq_true rfl) ⟨Nat.zero_le _, Nat.zero_le _⟩ (by decide) dX12_draughty_39 (fun H locs hH hS => ?_)
      refine lv_icmp_le (tgt := 47) hx hb dX12_draughty_42 (by decide) (fun hc => ?_) (fun hc => ?_)
      · have h := ite_t hc h
        refine lv_iinc (v := x3 + 1) (lv' := [(3, .int (x3 + 1)), (0, .ref (wB ω + 0)), (1, .int x1), (2, .int x2)]) hx hb dX12_draughty_47 hl (k := 3) rfl rfl (by decide) rfl (fun ls hl => ?_)
        refine lv_goto (tgt := 20) hx hb dX12_draughty_50 (by decide) ?_
        exact hrec _ _ _ H locs ls hH hS (lv_sub hl [1, 2, 3, 0] rfl) h
      · have h := ite_f hc h
        refine lv_iload_n hx hb dX12_draughty_45 rfl (lv_at hl 3 rfl) ?_
        refine lv_istore_n (lv' := [(2, .int x3), (0, .ref (wB ω + 0)), (1, .int x1), (3, .int x3)]) hx hb dX12_draughty_46 rfl hl (by decide) rfl (fun ls hl => ?_)
        refine lv_iinc (v := x3 + 1) (lv' := [(3, .int (x3 + 1)), (2, .int x3), (0, .ref (wB ω + 0)), (1, .int x1)]) hx hb dX12_draughty_47 hl (k := 3) rfl rfl (by decide) rfl (fun ls hl => ?_)
        refine lv_goto (tgt := 20) hx hb dX12_draughty_50 (by decide) ?_
        exact hrec _ _ _ H locs ls hH hS (lv_sub hl [2, 3, 1, 0] rfl) h
theorem wX12_draughty_l20 (hW : FWM ω) (C : Cx ω p s m args c cX12_draughty 4 RX12) (hr : meth.sig.returnType = some .int) (hk : meth.locks = false) {rr : Int32} {μo : Mem} {x1 : Int32} {K : Int32 → Mem → Option (Int32 × Mem)} (hK : ∀ (z2 : Int32) (ν : Mem) (H : Heap) (locs : List Loc) (ls : Array Slot), Hd ω ν H → FS ω s H locs → lv_has ls 4 [(0, .ref (wB ω + 0)), (1, .int x1), (2, .int z2)] → K z2 ν = some (rr, μo) → W p l e (rmd 6) s m args below meth c H locs 0 0 (MQ below (QR ω (some (.int rr)) μo) args s 0 0 (wA ω)) (F0 m 53 ls [])) : ∀ (n : Nat) (x2 : Int32) (x3 : Int32) (μ : Mem) (H : Heap) (locs : List Loc) (ls : Array Slot), Hd ω μ H → FS ω s H locs → lv_has ls 4 [(0, .ref (wB ω + 0)), (1, .int x1), (2, .int x2), (3, .int x3)] → fX12_draughty_l20 K n x2 x3 μ = some (rr, μo) → W p l e (rmd 6) s m args below meth c H locs 0 0 (MQ below (QR ω (some (.int rr)) μo) args s 0 0 (wA ω)) (F0 m 20 ls []) := by
  intro n
  induction n with
  | zero => intro x2 x3 μ H locs ls hH hS hl h; cases h
  | succ n ih => intro x2 x3 μ H locs ls hH hS hl h; exact wX12_draughty_s20 hW C hr hk ih hK hH hS hl h
set_option maxHeartbeats 4000000 in
set_option maxRecDepth 100000 in
theorem wX12_draughty_e (hW : FWM ω) (C : Cx ω p s m args c cX12_draughty 4 RX12) (hr : meth.sig.returnType = some .int) (hk : meth.locks = false) {rr : Int32} {μo : Mem} {x1 : Int32} {μ : Mem} {H : Heap} {locs : List Loc} {ls : Array Slot} (hH : Hd ω μ H) (hS : FS ω s H locs) (hl : lv_has ls 4 [(0, .ref (wB ω + 0)), (1, .int x1)]) (h : fX12_draughty x1 μ = some (rr, μo)) : W p l e (rmd 6) s m args below meth c H locs 0 0 (MQ below (QR ω (some (.int rr)) μo) args s 0 0 (wA ω)) (F0 m 0 ls []) := by
  have hx := C.1
  have hb := C.2.1
  unfold fX12_draughty at h
  refine lv_iload_n hx hb dX12_draughty_0 rfl (lv_at hl 1 rfl) ?_
  refine lv_iconst (v := 0) hx hb dX12_draughty_1 (by decide) ?_
  refine lv_iconst (v := 1) hx hb dX12_draughty_2 (by decide) ?_
  obtain ⟨r2, e1, h⟩ := b1_e h
  refine cSi (as := [.int x1, .int 0, .int 1]) (rest := []) (c_X12_in e1) C hl.1 hH hS rfl wd_1506 mw_X12_in wd_1505 rfl (rm_ok (by decide) (by decide)) (Nat.le_of_ble_eq_true rfl) ⟨Nat.zero_le _, Nat.zero_le _⟩ dX12_draughty_3 (fun H locs hH hS => ?_)
  refine lv_if_ne (tgt := 11) hx hb dX12_draughty_6 (by decide) (fun hc => ?_) (fun hc => ?_)
  · have h := ite_f hc h
    refine lv_aload_n hx hb dX12_draughty_11 rfl (lv_at hl 0 rfl) ?_
    obtain ⟨μ4, e3, h⟩ := b1_e h
    refine cVv (as := []) (rest := []) (c_X12_copies hW e3) C hl.1 hH hS rfl (jM_0 hW) rfl wd_54 wd_1510 mw_X12_copies wd_1508 rfl (rm_ok (by decide) (by decide)) (Nat.le_of_ble_eq_true rfl) ⟨Nat.zero_le _, Nat.zero_le _⟩ (by decide) dX12_draughty_12 (fun H locs hH hS => ?_)
    refine lv_bipush (v := (-2)) hx hb dX12_draughty_15 (by decide) ?_
    refine lv_istore_n (lv' := [(2, .int (-2)), (0, .ref (wB ω + 0)), (1, .int x1)]) hx hb dX12_draughty_17 rfl hl (by decide) rfl (fun ls hl => ?_)
    refine lv_iconst (v := 0) hx hb dX12_draughty_18 (by decide) ?_
    refine lv_istore_n (lv' := [(3, .int 0), (2, .int (-2)), (0, .ref (wB ω + 0)), (1, .int x1)]) hx hb dX12_draughty_19 rfl hl (by decide) rfl (fun ls hl => ?_)
    refine wX12_draughty_l20 hW C hr hk (fun y13 μ14 H locs ls hH hS hl h => ?_) FU _ _ _ H locs ls hH hS (lv_sub hl [2, 3, 1, 0] rfl) h
    refine lv_iload_n hx hb dX12_draughty_53 rfl (lv_at hl 2 rfl) ?_
    refine lv_if_lt (tgt := 61) hx hb dX12_draughty_54 (by decide) (fun hc => ?_) (fun hc => ?_)
    · have h := ite_t hc h
      refine lv_iload_n hx hb dX12_draughty_61 rfl (lv_at hl 2 rfl) ?_
      refine lv_goto (tgt := 70) hx hb dX12_draughty_62 (by decide) ?_
      exact h_iret C hr hk hH hS rfl (by cases h; rfl) dX12_draughty_70
    · have h := ite_f hc h
      refine lv_iload_n hx hb dX12_draughty_57 rfl (lv_at hl 1 rfl) ?_
      refine lv_if_ne (tgt := 65) hx hb dX12_draughty_58 (by decide) (fun hc => ?_) (fun hc => ?_)
      · have h := ite_f hc h
        refine lv_aload_n hx hb dX12_draughty_65 rfl (lv_at hl 0 rfl) ?_
        refine lv_iload_n hx hb dX12_draughty_66 rfl (lv_at hl 2 rfl) ?_
        obtain ⟨r17, μ16, e15, h⟩ := b2_e h
        refine cVi (as := [.int y13]) (rest := []) (c_X12_chillOf hW e15) C hl.1 hH hS rfl (jM_0 hW) rfl wd_68 wd_1596 mw_X12_chillOf wd_1594 rfl (rm_ok (by decide) (by decide)) (Nat.le_of_ble_eq_true rfl) ⟨Nat.zero_le _, Nat.zero_le _⟩ (by decide) dX12_draughty_67 (fun H locs hH hS => ?_)
        exact h_iret C hr hk hH hS rfl (by cases h; rfl) dX12_draughty_70
      · have h := ite_t hc h
        refine lv_iload_n hx hb dX12_draughty_61 rfl (lv_at hl 2 rfl) ?_
        refine lv_goto (tgt := 70) hx hb dX12_draughty_62 (by decide) ?_
        exact h_iret C hr hk hH hS rfl (by cases h; rfl) dX12_draughty_70
  · have h := ite_t hc h
    refine lv_iconst (v := (-1)) hx hb dX12_draughty_9 (by decide) ?_
    exact h_iret C hr hk hH hS rfl (by cases h; rfl) dX12_draughty_10
theorem c_X12_draughty {l : Launch} {ω : WW} {x1 : Int32} (hW : FWM ω) {μ : Mem} {rr : Int32} {μo : Mem} (h : fX12_draughty x1 μ = some (rr, μo)) : Con l yX12_draughty cX12_draughty 4 (some .int) 6 ω [.ref (wB ω + 0), .int x1] μ (some (.int rr)) μo :=
  con_of (by decide) (Nat.le_of_ble_eq_true rfl) (fun p e s m args below meth c ls C hr hk hl hH hS => wX12_draughty_e hW C hr hk hH hS (lv_sub hl [0, 1] rfl) h)
set_option maxHeartbeats 4000000 in
set_option maxRecDepth 100000 in
theorem wX12_needsOf_s2 (hW : FWM ω) (C : Cx ω p s m args c cX12_needsOf 3 RX12) (hr : meth.sig.returnType = some .int) (hk : meth.locks = false) {rr : Int32} {μ : Mem} {x1 : Int32} {x2 : Int32} {rec : Int32 → Option Int32} (hrec : ∀ (z2 : Int32) (H : Heap) (locs : List Loc) (ls : Array Slot), Hd ω μ H → FS ω s H locs → lv_has ls 3 [(0, .ref (wB ω + 0)), (1, .int x1), (2, .int z2)] → rec z2 = some rr → W p l e (rmd 1) s m args below meth c H locs 0 0 (MQ below (QR ω (some (.int rr)) μ) args s 0 0 (wA ω)) (F0 m 2 ls [])) {H : Heap} {locs : List Loc} {ls : Array Slot} (hH : Hd ω μ H) (hS : FS ω s H locs) (hl : lv_has ls 3 [(0, .ref (wB ω + 0)), (1, .int x1), (2, .int x2)]) (h : fX12_needsOf_s2 rec x1 x2 μ = some rr) : W p l e (rmd 1) s m args below meth c H locs 0 0 (MQ below (QR ω (some (.int rr)) μ) args s 0 0 (wA ω)) (F0 m 2 ls []) := by
  have hx := C.1
  have hb := C.2.1
  unfold fX12_needsOf_s2 at h
  refine lv_iload_n hx hb dX12_needsOf_2 rfl (lv_at hl 2 rfl) ?_
  refine lv_bipush (v := 31) hx hb dX12_needsOf_3 (by decide) ?_
  refine lv_icmp_ge (tgt := 30) hx hb dX12_needsOf_5 (by decide) (fun hc => ?_) (fun hc => ?_)
  · have h := ite_t hc h
    refine lv_bipush (v := 31) hx hb dX12_needsOf_30 (by decide) ?_
    exact h_iret C hr hk hH hS rfl (by cases h; rfl) dX12_needsOf_32
  · have h := ite_f hc h
    refine lv_aload_n hx hb dX12_needsOf_8 rfl (lv_at hl 0 rfl) ?_
    refine g_1242 (i := 36) C hH (jM_0 hW) rfl dX12_needsOf_9 ?_
    refine lv_bipush (v := 31) hx hb dX12_needsOf_12 (by decide) ?_
    refine lv_iload_n hx hb dX12_needsOf_14 rfl (lv_at hl 1 rfl) ?_
    refine lv_imul hx hb dX12_needsOf_15 ?_
    refine lv_iload_n hx hb dX12_needsOf_16 rfl (lv_at hl 2 rfl) ?_
    refine lv_iadd hx hb dX12_needsOf_17 ?_
    obtain ⟨b1, h⟩ := gd_e h
    refine h_iald C hH (jM_36 hW).1 (jM_36 hW).2.1 b1 dX12_needsOf_18 ?_
    refine lv_if_ne (tgt := 24) hx hb dX12_needsOf_19 (by decide) (fun hc => ?_) (fun hc => ?_)
    · have h := ite_f hc h
      refine lv_iinc (v := x2 + 1) (lv' := [(2, .int (x2 + 1)), (0, .ref (wB ω + 0)), (1, .int x1)]) hx hb dX12_needsOf_24 hl (k := 2) rfl rfl (by decide) rfl (fun ls hl => ?_)
      refine lv_goto (tgt := 2) hx hb dX12_needsOf_27 (by decide) ?_
      exact hrec _ H locs ls hH hS (lv_sub hl [1, 2, 0] rfl) h
    · have h := ite_t hc h
      refine lv_iload_n hx hb dX12_needsOf_22 rfl (lv_at hl 2 rfl) ?_
      exact h_iret C hr hk hH hS rfl (by cases h; rfl) dX12_needsOf_23
theorem wX12_needsOf_l2 (hW : FWM ω) (C : Cx ω p s m args c cX12_needsOf 3 RX12) (hr : meth.sig.returnType = some .int) (hk : meth.locks = false) {rr : Int32} {μ : Mem} {x1 : Int32} : ∀ (n : Nat) (x2 : Int32) (H : Heap) (locs : List Loc) (ls : Array Slot), Hd ω μ H → FS ω s H locs → lv_has ls 3 [(0, .ref (wB ω + 0)), (1, .int x1), (2, .int x2)] → fX12_needsOf_l2 x1 μ n x2 = some rr → W p l e (rmd 1) s m args below meth c H locs 0 0 (MQ below (QR ω (some (.int rr)) μ) args s 0 0 (wA ω)) (F0 m 2 ls []) := by
  intro n
  induction n with
  | zero => intro x2 H locs ls hH hS hl h; cases h
  | succ n ih => intro x2 H locs ls hH hS hl h; exact wX12_needsOf_s2 hW C hr hk ih hH hS hl h
set_option maxHeartbeats 4000000 in
set_option maxRecDepth 100000 in
theorem wX12_needsOf_e (hW : FWM ω) (C : Cx ω p s m args c cX12_needsOf 3 RX12) (hr : meth.sig.returnType = some .int) (hk : meth.locks = false) {rr : Int32} {μ : Mem} {x1 : Int32} {H : Heap} {locs : List Loc} {ls : Array Slot} (hH : Hd ω μ H) (hS : FS ω s H locs) (hl : lv_has ls 3 [(0, .ref (wB ω + 0)), (1, .int x1)]) (h : fX12_needsOf x1 μ = some rr) : W p l e (rmd 1) s m args below meth c H locs 0 0 (MQ below (QR ω (some (.int rr)) μ) args s 0 0 (wA ω)) (F0 m 0 ls []) := by
  have hx := C.1
  have hb := C.2.1
  unfold fX12_needsOf at h
  refine lv_iconst (v := 0) hx hb dX12_needsOf_0 (by decide) ?_
  refine lv_istore_n (lv' := [(2, .int 0), (0, .ref (wB ω + 0)), (1, .int x1)]) hx hb dX12_needsOf_1 rfl hl (by decide) rfl (fun ls hl => ?_)
  exact wX12_needsOf_l2 hW C hr hk FU _ H locs ls hH hS (lv_sub hl [1, 2, 0] rfl) h
theorem c_X12_needsOf {l : Launch} {ω : WW} {x1 : Int32} (hW : FWM ω) {μ : Mem} {rr : Int32} (h : fX12_needsOf x1 μ = some rr) : Con l yX12_needsOf cX12_needsOf 3 (some .int) 1 ω [.ref (wB ω + 0), .int x1] μ (some (.int rr)) μ :=
  con_of (by decide) (Nat.le_of_ble_eq_true rfl) (fun p e s m args below meth c ls C hr hk hl hH hS => wX12_needsOf_e hW C hr hk hH hS (lv_sub hl [0, 1] rfl) h)
set_option maxHeartbeats 4000000 in
set_option maxRecDepth 100000 in
theorem wX12_enough_s14 (hW : FWM ω) (C : Cx ω p s m args c cX12_enough 3 RX12) (hr : meth.sig.returnType = some .int) (hk : meth.locks = false) {rr : Int32} {μo : Mem} {x1 : Int32} {x2 : Int32} {μ : Mem} {rec : Int32 → Int32 → Option (Int32 × Mem)} (hrec : ∀ (z1 : Int32) (z2 : Int32) (H : Heap) (locs : List Loc) (ls : Array Slot), Hd ω μ H → FS ω s H locs → lv_has ls 3 [(0, .ref (wB ω + 0)), (1, .int z1), (2, .int z2)] → rec z1 z2 = some (rr, μo) → W p l e (rmd 7) s m args below meth c H locs 0 0 (MQ below (QR ω (some (.int rr)) μo) args s 0 0 (wA ω)) (F0 m 14 ls [])) {H : Heap} {locs : List Loc} {ls : Array Slot} (hH : Hd ω μ H) (hS : FS ω s H locs) (hl : lv_has ls 3 [(0, .ref (wB ω + 0)), (1, .int x1), (2, .int x2)]) (h : fX12_enough_s14 rec x1 x2 μ = some (rr, μo)) : W p l e (rmd 7) s m args below meth c H locs 0 0 (MQ below (QR ω (some (.int rr)) μo) args s 0 0 (wA ω)) (F0 m 14 ls []) := by
  have hx := C.1
  have hb := C.2.1
  unfold fX12_enough_s14 at h
  refine lv_iload_n hx hb dX12_enough_14 rfl (lv_at hl 2 rfl) ?_
  refine lv_aload_n hx hb dX12_enough_15 rfl (lv_at hl 0 rfl) ?_
  obtain ⟨r6, e5, h⟩ := b1_e h
  refine cVi (as := []) (rest := [.int x2]) (c_X12_many hW e5) C hl.1 hH hS rfl (jM_0 hW) rfl wd_31 wd_1182 mw_X12_many wd_1180 rfl (rm_ok (by decide) (by decide)) (Nat.le_of_ble_eq_true rfl) ⟨Nat.zero_le _, Nat.zero_le _⟩ (by decide) dX12_enough_16 (fun H locs hH hS => ?_)
  refine lv_icmp_ge (tgt := 49) hx hb dX12_enough_19 (by decide) (fun hc => ?_) (fun hc => ?_)
  · have h := ite_t hc h
    refine lv_iload_n hx hb dX12_enough_49 rfl (lv_at hl 1 rfl) ?_
    exact h_iret C hr hk hH hS rfl (by cases h; rfl) dX12_enough_50
  · have h := ite_f hc h
    refine lv_aload_n hx hb dX12_enough_22 rfl (lv_at hl 0 rfl) ?_
    refine lv_iload_n hx hb dX12_enough_23 rfl (lv_at hl 2 rfl) ?_
    obtain ⟨r8, e7, h⟩ := b1_e h
    refine cVi (as := [.int x2]) (rest := []) (c_X12_needsOf hW e7) C hl.1 hH hS rfl (jM_0 hW) rfl wd_75 wd_1647 mw_X12_needsOf wd_1645 rfl (rm_ok (by decide) (by decide)) (Nat.le_of_ble_eq_true rfl) ⟨Nat.zero_le _, Nat.zero_le _⟩ (by decide) dX12_enough_24 (fun H locs hH hS => ?_)
    refine lv_bipush (v := 30) hx hb dX12_enough_27 (by decide) ?_
    refine lv_icmp_le (tgt := 35) hx hb dX12_enough_29 (by decide) (fun hc => ?_) (fun hc => ?_)
    · have h := ite_t hc h
      refine lv_iload_n hx hb dX12_enough_35 rfl (lv_at hl 1 rfl) ?_
      refine lv_aload_n hx hb dX12_enough_36 rfl (lv_at hl 0 rfl) ?_
      refine lv_iload_n hx hb dX12_enough_37 rfl (lv_at hl 2 rfl) ?_
      obtain ⟨r10, e9, h⟩ := b1_e h
      refine cVi (as := [.int x2]) (rest := [.int x1]) (c_X12_needsOf hW e9) C hl.1 hH hS rfl (jM_0 hW) rfl wd_75 wd_1647 mw_X12_needsOf wd_1645 rfl (rm_ok (by decide) (by decide)) (Nat.le_of_ble_eq_true rfl) ⟨Nat.zero_le _, Nat.zero_le _⟩ (by decide) dX12_enough_38 (fun H locs hH hS => ?_)
      refine lv_iadd hx hb dX12_enough_41 ?_
      obtain ⟨y11, e12, h⟩ := bd_e h
      refine h_topi e12 ?_
      refine lv_istore_n (lv' := [(1, .int y11), (0, .ref (wB ω + 0)), (2, .int x2)]) hx hb dX12_enough_42 rfl hl (by decide) rfl (fun ls hl => ?_)
      refine lv_iinc (v := x2 + 1) (lv' := [(2, .int (x2 + 1)), (1, .int y11), (0, .ref (wB ω + 0))]) hx hb dX12_enough_43 hl (k := 2) rfl rfl (by decide) rfl (fun ls hl => ?_)
      refine lv_goto (tgt := 14) hx hb dX12_enough_46 (by decide) ?_
      exact hrec _ _ H locs ls hH hS (lv_sub hl [2, 1, 0] rfl) h
    · have h := ite_f hc h
      refine lv_bipush (v := (-2)) hx hb dX12_enough_32 (by decide) ?_
      exact h_iret C hr hk hH hS rfl (by cases h; rfl) dX12_enough_34
theorem wX12_enough_l14 (hW : FWM ω) (C : Cx ω p s m args c cX12_enough 3 RX12) (hr : meth.sig.returnType = some .int) (hk : meth.locks = false) {rr : Int32} {μo : Mem} {μ : Mem} : ∀ (n : Nat) (x1 : Int32) (x2 : Int32) (H : Heap) (locs : List Loc) (ls : Array Slot), Hd ω μ H → FS ω s H locs → lv_has ls 3 [(0, .ref (wB ω + 0)), (1, .int x1), (2, .int x2)] → fX12_enough_l14 μ n x1 x2 = some (rr, μo) → W p l e (rmd 7) s m args below meth c H locs 0 0 (MQ below (QR ω (some (.int rr)) μo) args s 0 0 (wA ω)) (F0 m 14 ls []) := by
  intro n
  induction n with
  | zero => intro x1 x2 H locs ls hH hS hl h; cases h
  | succ n ih => intro x1 x2 H locs ls hH hS hl h; exact wX12_enough_s14 hW C hr hk ih hH hS hl h
set_option maxHeartbeats 4000000 in
set_option maxRecDepth 100000 in
theorem wX12_enough_e (hW : FWM ω) (C : Cx ω p s m args c cX12_enough 3 RX12) (hr : meth.sig.returnType = some .int) (hk : meth.locks = false) {rr : Int32} {μo : Mem} {μ : Mem} {H : Heap} {locs : List Loc} {ls : Array Slot} (hH : Hd ω μ H) (hS : FS ω s H locs) (hl : lv_has ls 3 [(0, .ref (wB ω + 0))]) (h : fX12_enough μ = some (rr, μo)) : W p l e (rmd 7) s m args below meth c H locs 0 0 (MQ below (QR ω (some (.int rr)) μo) args s 0 0 (wA ω)) (F0 m 0 ls []) := by
  have hx := C.1
  have hb := C.2.1
  unfold fX12_enough at h
  refine lv_aload_n hx hb dX12_enough_0 rfl (lv_at hl 0 rfl) ?_
  obtain ⟨μ2, e1, h⟩ := b1_e h
  refine cVv (as := []) (rest := []) (c_X12_copies hW e1) C hl.1 hH hS rfl (jM_0 hW) rfl wd_54 wd_1510 mw_X12_copies wd_1508 rfl (rm_ok (by decide) (by decide)) (Nat.le_of_ble_eq_true rfl) ⟨Nat.zero_le _, Nat.zero_le _⟩ (by decide) dX12_enough_1 (fun H locs hH hS => ?_)
  refine lv_aload_n hx hb dX12_enough_4 rfl (lv_at hl 0 rfl) ?_
  refine lv_bipush (v := 30) hx hb dX12_enough_5 (by decide) ?_
  obtain ⟨μ4, e3, h⟩ := b1_e h
  refine cVv (as := [.int 30]) (rest := []) (c_X12_fillsLoss hW e3) C hl.1 hH hS rfl (jM_0 hW) rfl wd_72 wd_1631 mw_X12_fillsLoss wd_1629 rfl (rm_ok (by decide) (by decide)) (Nat.le_of_ble_eq_true rfl) ⟨Nat.zero_le _, Nat.zero_le _⟩ (by decide) dX12_enough_7 (fun H locs hH hS => ?_)
  refine lv_iconst (v := 0) hx hb dX12_enough_10 (by decide) ?_
  refine lv_istore_n (lv' := [(1, .int 0), (0, .ref (wB ω + 0))]) hx hb dX12_enough_11 rfl hl (by decide) rfl (fun ls hl => ?_)
  refine lv_iconst (v := 0) hx hb dX12_enough_12 (by decide) ?_
  refine lv_istore_n (lv' := [(2, .int 0), (1, .int 0), (0, .ref (wB ω + 0))]) hx hb dX12_enough_13 rfl hl (by decide) rfl (fun ls hl => ?_)
  exact wX12_enough_l14 hW C hr hk FU _ _ H locs ls hH hS (lv_sub hl [2, 1, 0] rfl) h
theorem c_X12_enough {l : Launch} {ω : WW} (hW : FWM ω) {μ : Mem} {rr : Int32} {μo : Mem} (h : fX12_enough μ = some (rr, μo)) : Con l yX12_enough cX12_enough 3 (some .int) 7 ω [.ref (wB ω + 0)] μ (some (.int rr)) μo :=
  con_of (by decide) (Nat.le_of_ble_eq_true rfl) (fun p e s m args below meth c ls C hr hk hl hH hS => wX12_enough_e hW C hr hk hH hS (lv_sub hl [0] rfl) h)
set_option maxHeartbeats 4000000 in
set_option maxRecDepth 100000 in
theorem wX12_unit_e (hW : FWM ω) (C : Cx ω p s m args c cX12_unit 1 RX12) (hr : meth.sig.returnType = none) (hk : meth.locks = false) {μo : Mem} {μ : Mem} {H : Heap} {locs : List Loc} {ls : Array Slot} (hH : Hd ω μ H) (hS : FS ω s H locs) (hl : lv_has ls 1 [(0, .ref (wB ω + 0))]) (h : fX12_unit μ = some μo) : W p l e (rmd 3) s m args below meth c H locs 0 0 (MQ below (QR ω none μo) args s 0 0 (wA ω)) (F0 m 0 ls []) := by
  have hx := C.1
  have hb := C.2.1
  unfold fX12_unit at h
  refine lv_aload_n hx hb dX12_unit_0 rfl (lv_at hl 0 rfl) ?_
  refine lv_iconst (v := 2) hx hb dX12_unit_1 (by decide) ?_
  obtain ⟨r2, e1, h⟩ := b1_e h
  refine cVi (as := [.int 2]) (rest := []) (c_X12_is hW e1) C hl.1 hH hS rfl (jM_0 hW) rfl wd_38 wd_1435 mw_X12_is wd_1433 rfl (rm_ok (by decide) (by decide)) (Nat.le_of_ble_eq_true rfl) ⟨Nat.zero_le _, Nat.zero_le _⟩ (by decide) dX12_unit_2 (fun H locs hH hS => ?_)
  refine lv_if_eq (tgt := 29) hx hb dX12_unit_5 (by decide) (fun hc => ?_) (fun hc => ?_)
  · have h := ite_t hc h
    refine lv_aload_n hx hb dX12_unit_29 rfl (lv_at hl 0 rfl) ?_
    refine g_1200 C hH (jM_0 hW) dX12_unit_30 ?_
    refine lv_if_ne (tgt := 88) hx hb dX12_unit_33 (by decide) (fun hc => ?_) (fun hc => ?_)
    · have h := ite_f hc h
      refine lv_aload_n hx hb dX12_unit_88 rfl (lv_at hl 0 rfl) ?_
      refine lv_iconst (v := 1) hx hb dX12_unit_89 (by decide) ?_
      obtain ⟨μ4, e3, h⟩ := b1_e h
      refine cVv (as := [.int 1]) (rest := []) (c_X12_fail hW e3) C hl.1 hH hS rfl (jM_0 hW) rfl wd_40 wd_1443 mw_X12_fail wd_1441 rfl (rm_ok (by decide) (by decide)) (Nat.le_of_ble_eq_true rfl) ⟨Nat.zero_le _, Nat.zero_le _⟩ (by decide) dX12_unit_90 (fun H locs hH hS => ?_)
      exact h_vret C hr hk hH hS (by cases h; rfl) dX12_unit_93
    · have h := ite_t hc h
      refine lv_aload_n hx hb dX12_unit_36 rfl (lv_at hl 0 rfl) ?_
      refine g_1192 (i := 3) C hH (jM_0 hW) rfl dX12_unit_37 ?_
      refine lv_aload_n hx hb dX12_unit_40 rfl (lv_at hl 0 rfl) ?_
      refine g_1198 C hH (jM_0 hW) dX12_unit_41 ?_
      obtain ⟨b5, h⟩ := gd_e h
      refine h_iald C hH (jM_3 hW).1 (jM_3 hW).2.1 b5 dX12_unit_44 ?_
      refine lv_bipush (v := 32) hx hb dX12_unit_45 (by decide) ?_
      refine lv_icmp_lt (tgt := 88) hx hb dX12_unit_47 (by decide) (fun hc => ?_) (fun hc => ?_)
      · have h := ite_t hc h
        refine lv_aload_n hx hb dX12_unit_88 rfl (lv_at hl 0 rfl) ?_
        refine lv_iconst (v := 1) hx hb dX12_unit_89 (by decide) ?_
        obtain ⟨μ7, e6, h⟩ := b1_e h
        refine cVv (as := [.int 1]) (rest := []) (c_X12_fail hW e6) C hl.1 hH hS rfl (jM_0 hW) rfl wd_40 wd_1443 mw_X12_fail wd_1441 rfl (rm_ok (by decide) (by decide)) (Nat.le_of_ble_eq_true rfl) ⟨Nat.zero_le _, Nat.zero_le _⟩ (by decide) dX12_unit_90 (fun H locs hH hS => ?_)
        exact h_vret C hr hk hH hS (by cases h; rfl) dX12_unit_93
      · have h := ite_f hc h
        refine lv_aload_n hx hb dX12_unit_50 rfl (lv_at hl 0 rfl) ?_
        refine g_1192 (i := 3) C hH (jM_0 hW) rfl dX12_unit_51 ?_
        refine lv_aload_n hx hb dX12_unit_54 rfl (lv_at hl 0 rfl) ?_
        refine g_1198 C hH (jM_0 hW) dX12_unit_55 ?_
        obtain ⟨b8, h⟩ := gd_e h
        refine h_iald C hH (jM_3 hW).1 (jM_3 hW).2.1 b8 dX12_unit_58 ?_
        refine lv_bipush (v := 40) hx hb dX12_unit_59 (by decide) ?_
        refine lv_icmp_gt (tgt := 88) hx hb dX12_unit_61 (by decide) (fun hc => ?_) (fun hc => ?_)
        · have h := ite_t hc h
          refine lv_aload_n hx hb dX12_unit_88 rfl (lv_at hl 0 rfl) ?_
          refine lv_iconst (v := 1) hx hb dX12_unit_89 (by decide) ?_
          obtain ⟨μ10, e9, h⟩ := b1_e h
          refine cVv (as := [.int 1]) (rest := []) (c_X12_fail hW e9) C hl.1 hH hS rfl (jM_0 hW) rfl wd_40 wd_1443 mw_X12_fail wd_1441 rfl (rm_ok (by decide) (by decide)) (Nat.le_of_ble_eq_true rfl) ⟨Nat.zero_le _, Nat.zero_le _⟩ (by decide) dX12_unit_90 (fun H locs hH hS => ?_)
          exact h_vret C hr hk hH hS (by cases h; rfl) dX12_unit_93
        · have h := ite_f hc h
          refine lv_aload_n hx hb dX12_unit_64 rfl (lv_at hl 0 rfl) ?_
          refine lv_iconst (v := 1) hx hb dX12_unit_65 (by decide) ?_
          refine lv_aload_n hx hb dX12_unit_66 rfl (lv_at hl 0 rfl) ?_
          refine g_1192 (i := 3) C hH (jM_0 hW) rfl dX12_unit_67 ?_
          refine lv_aload_n hx hb dX12_unit_70 rfl (lv_at hl 0 rfl) ?_
          refine g_1198 C hH (jM_0 hW) dX12_unit_71 ?_
          obtain ⟨b11, h⟩ := gd_e h
          refine h_iald C hH (jM_3 hW).1 (jM_3 hW).2.1 b11 dX12_unit_74 ?_
          refine lv_bipush (v := 32) hx hb dX12_unit_75 (by decide) ?_
          refine lv_isub hx hb dX12_unit_77 ?_
          obtain ⟨μ13, e12, h⟩ := b1_e h
          refine cVv (as := [.int 1, .int ((μ.1 3 ((μ.1 0 11).toNatClampNeg)) - 32)]) (rest := []) (c_X12_emit hW e12) C hl.1 hH hS rfl (jM_0 hW) rfl wd_50 wd_1483 mw_X12_emit wd_1481 rfl (rm_ok (by decide) (by decide)) (Nat.le_of_ble_eq_true rfl) ⟨Nat.zero_le _, Nat.zero_le _⟩ (by decide) dX12_unit_78 (fun H locs hH hS => ?_)
          refine lv_aload_n hx hb dX12_unit_81 rfl (lv_at hl 0 rfl) ?_
          obtain ⟨μ15, e14, h⟩ := b1_e h
          refine cVv (as := []) (rest := []) (c_X12_goesOn hW e14) C hl.1 hH hS rfl (jM_0 hW) rfl wd_42 wd_1451 mw_X12_goesOn wd_1449 rfl (rm_ok (by decide) (by decide)) (Nat.le_of_ble_eq_true rfl) ⟨Nat.zero_le _, Nat.zero_le _⟩ (by decide) dX12_unit_82 (fun H locs hH hS => ?_)
          refine lv_goto (tgt := 93) hx hb dX12_unit_85 (by decide) ?_
          exact h_vret C hr hk hH hS (by cases h; rfl) dX12_unit_93
  · have h := ite_f hc h
    refine lv_aload_n hx hb dX12_unit_8 rfl (lv_at hl 0 rfl) ?_
    refine lv_iconst (v := 0) hx hb dX12_unit_9 (by decide) ?_
    refine lv_aload_n hx hb dX12_unit_10 rfl (lv_at hl 0 rfl) ?_
    refine g_1194 (i := 5) C hH (jM_0 hW) rfl dX12_unit_11 ?_
    refine lv_aload_n hx hb dX12_unit_14 rfl (lv_at hl 0 rfl) ?_
    refine g_1198 C hH (jM_0 hW) dX12_unit_15 ?_
    obtain ⟨b16, h⟩ := gd_e h
    refine h_iald C hH (jM_5 hW).1 (jM_5 hW).2.1 b16 dX12_unit_18 ?_
    obtain ⟨μ18, e17, h⟩ := b1_e h
    refine cVv (as := [.int 0, .int (μ.1 5 ((μ.1 0 11).toNatClampNeg))]) (rest := []) (c_X12_emit hW e17) C hl.1 hH hS rfl (jM_0 hW) rfl wd_50 wd_1483 mw_X12_emit wd_1481 rfl (rm_ok (by decide) (by decide)) (Nat.le_of_ble_eq_true rfl) ⟨Nat.zero_le _, Nat.zero_le _⟩ (by decide) dX12_unit_19 (fun H locs hH hS => ?_)
    refine lv_aload_n hx hb dX12_unit_22 rfl (lv_at hl 0 rfl) ?_
    obtain ⟨μ20, e19, h⟩ := b1_e h
    refine cVv (as := []) (rest := []) (c_X12_goesOn hW e19) C hl.1 hH hS rfl (jM_0 hW) rfl wd_42 wd_1451 mw_X12_goesOn wd_1449 rfl (rm_ok (by decide) (by decide)) (Nat.le_of_ble_eq_true rfl) ⟨Nat.zero_le _, Nat.zero_le _⟩ (by decide) dX12_unit_23 (fun H locs hH hS => ?_)
    refine lv_goto (tgt := 93) hx hb dX12_unit_26 (by decide) ?_
    exact h_vret C hr hk hH hS (by cases h; rfl) dX12_unit_93
theorem c_X12_unit {l : Launch} {ω : WW} (hW : FWM ω) {μ : Mem} {μo : Mem} (h : fX12_unit μ = some μo) : Con l yX12_unit cX12_unit 1 none 3 ω [.ref (wB ω + 0)] μ none μo :=
  con_of (by decide) (Nat.le_of_ble_eq_true rfl) (fun p e s m args below meth c ls C hr hk hl hH hS => wX12_unit_e hW C hr hk hH hS (lv_sub hl [0] rfl) h)
set_option maxHeartbeats 4000000 in
set_option maxRecDepth 100000 in
theorem wX12_expression_b46 (hW : FWM ω) (C : Cx ω p s m args c cX12_expression 3 RX12) (hr : meth.sig.returnType = none) (hk : meth.locks = false) {μo : Mem} {x1 : Int32} {rec : Mem → Option Mem} (hrec : ∀ (ν : Mem) (H : Heap) (locs : List Loc) (ls : Array Slot), Hd ω ν H → FS ω s H locs → lv_has ls 3 [(0, .ref (wB ω + 0)), (1, .int x1)] → rec ν = some μo → W p l e (rmd 4) s m args below meth c H locs 0 0 (MQ below (QR ω none μo) args s 0 0 (wA ω)) (F0 m 23 ls [])) {K : Mem → Option Mem} (hK : ∀ (ν : Mem) (H : Heap) (locs : List Loc) (ls : Array Slot), Hd ω ν H → FS ω s H locs → lv_has ls 3 [(0, .ref (wB ω + 0)), (1, .int x1)] → K ν = some μo → W p l e (rmd 4) s m args below meth c H locs 0 0 (MQ below (QR ω none μo) args s 0 0 (wA ω)) (F0 m 84 ls [])) {μ : Mem} {H : Heap} {locs : List Loc} {ls : Array Slot} (hH : Hd ω μ H) (hS : FS ω s H locs) (hl : lv_has ls 3 [(0, .ref (wB ω + 0)), (1, .int x1)]) (h : fX12_expression_b46 rec K μ = some μo) : W p l e (rmd 4) s m args below meth c H locs 0 0 (MQ below (QR ω none μo) args s 0 0 (wA ω)) (F0 m 46 ls []) := by
  have hx := C.1
  have hb := C.2.1
  unfold fX12_expression_b46 at h
  refine lv_aload_n hx hb dX12_expression_46 rfl (lv_at hl 0 rfl) ?_
  refine lv_dup hx hb dX12_expression_47 rfl ?_
  refine g_1199 C hH (jM_0 hW) dX12_expression_48 ?_
  refine lv_iconst (v := 1) hx hb dX12_expression_51 (by decide) ?_
  refine lv_iadd hx hb dX12_expression_52 ?_
  obtain ⟨μ7, e8, h⟩ := bd_e h
  refine p_1199 C hH hS (jM_0 hW) dX12_expression_53 (fun H locs hH hS => ?_)
  have hH := Hd.to e8 hH
  refine lv_aload_n hx hb dX12_expression_56 rfl (lv_at hl 0 rfl) ?_
  obtain ⟨μ10, e9, h⟩ := b1_e h
  refine cVv (as := []) (rest := []) (c_X12_goesOn hW e9) C hl.1 hH hS rfl (jM_0 hW) rfl wd_42 wd_1451 mw_X12_goesOn wd_1449 rfl (rm_ok (by decide) (by decide)) (Nat.le_of_ble_eq_true rfl) ⟨Nat.zero_le _, Nat.zero_le _⟩ (by decide) dX12_expression_57 (fun H locs hH hS => ?_)
  refine lv_aload_n hx hb dX12_expression_60 rfl (lv_at hl 0 rfl) ?_
  refine g_1229 (i := 28) C hH (jM_0 hW) rfl dX12_expression_61 ?_
  refine lv_aload_n hx hb dX12_expression_64 rfl (lv_at hl 0 rfl) ?_
  refine g_1230 C hH (jM_0 hW) dX12_expression_65 ?_
  refine lv_bipush (v := 6) hx hb dX12_expression_68 (by decide) ?_
  obtain ⟨b11, h⟩ := gd_e h
  obtain ⟨μ12, e13, h⟩ := bd_e h
  refine h_iast C hH hS (jM_28 hW).1 (jM_28 hW).2.1 b11 dX12_expression_70 (fun H locs hH hS => ?_)
  have hH := Hd.to e13 hH
  refine lv_aload_n hx hb dX12_expression_71 rfl (lv_at hl 0 rfl) ?_
  refine lv_dup hx hb dX12_expression_72 rfl ?_
  refine g_1230 C hH (jM_0 hW) dX12_expression_73 ?_
  refine lv_iconst (v := 1) hx hb dX12_expression_76 (by decide) ?_
  refine lv_iadd hx hb dX12_expression_77 ?_
  obtain ⟨μ14, e15, h⟩ := bd_e h
  refine p_1230 C hH hS (jM_0 hW) dX12_expression_78 (fun H locs hH hS => ?_)
  have hH := Hd.to e15 hH
  refine lv_goto (tgt := 23) hx hb dX12_expression_81 (by decide) ?_
  exact hrec _ H locs ls hH hS hl h
set_option maxHeartbeats 4000000 in
set_option maxRecDepth 100000 in
theorem wX12_expression_s23 (hW : FWM ω) (C : Cx ω p s m args c cX12_expression 3 RX12) (hr : meth.sig.returnType = none) (hk : meth.locks = false) {μo : Mem} {x1 : Int32} {rec : Mem → Option Mem} (hrec : ∀ (ν : Mem) (H : Heap) (locs : List Loc) (ls : Array Slot), Hd ω ν H → FS ω s H locs → lv_has ls 3 [(0, .ref (wB ω + 0)), (1, .int x1)] → rec ν = some μo → W p l e (rmd 4) s m args below meth c H locs 0 0 (MQ below (QR ω none μo) args s 0 0 (wA ω)) (F0 m 23 ls [])) {K : Mem → Option Mem} (hK : ∀ (ν : Mem) (H : Heap) (locs : List Loc) (ls : Array Slot), Hd ω ν H → FS ω s H locs → lv_has ls 3 [(0, .ref (wB ω + 0)), (1, .int x1)] → K ν = some μo → W p l e (rmd 4) s m args below meth c H locs 0 0 (MQ below (QR ω none μo) args s 0 0 (wA ω)) (F0 m 84 ls [])) {μ : Mem} {H : Heap} {locs : List Loc} {ls : Array Slot} (hH : Hd ω μ H) (hS : FS ω s H locs) (hl : lv_has ls 3 [(0, .ref (wB ω + 0)), (1, .int x1)]) (h : fX12_expression_s23 rec K μ = some μo) : W p l e (rmd 4) s m args below meth c H locs 0 0 (MQ below (QR ω none μo) args s 0 0 (wA ω)) (F0 m 23 ls []) := by
  have hx := C.1
  have hb := C.2.1
  unfold fX12_expression_s23 at h
  refine lv_aload_n hx hb dX12_expression_23 rfl (lv_at hl 0 rfl) ?_
  refine lv_bipush (v := 6) hx hb dX12_expression_24 (by decide) ?_
  obtain ⟨r6, e5, h⟩ := b1_e h
  refine cVi (as := [.int 6]) (rest := []) (c_X12_is hW e5) C hl.1 hH hS rfl (jM_0 hW) rfl wd_38 wd_1435 mw_X12_is wd_1433 rfl (rm_ok (by decide) (by decide)) (Nat.le_of_ble_eq_true rfl) ⟨Nat.zero_le _, Nat.zero_le _⟩ (by decide) dX12_expression_26 (fun H locs hH hS => ?_)
  refine lv_if_eq (tgt := 84) hx hb dX12_expression_29 (by decide) (fun hc => ?_) (fun hc => ?_)
  · have h := ite_t hc h
    exact hK _ H locs ls hH hS hl h
  · have h := ite_f hc h
    refine lv_aload_n hx hb dX12_expression_32 rfl (lv_at hl 0 rfl) ?_
    refine g_1199 C hH (jM_0 hW) dX12_expression_33 ?_
    refine lv_bipush (v := 6) hx hb dX12_expression_36 (by decide) ?_
    refine lv_icmp_ne (tgt := 46) hx hb dX12_expression_38 (by decide) (fun hc => ?_) (fun hc => ?_)
    · have h := ite_f hc h
      exact wX12_expression_b46 hW C hr hk hrec hK hH hS hl h
    · have h := ite_t hc h
      refine lv_aload_n hx hb dX12_expression_41 rfl (lv_at hl 0 rfl) ?_
      refine lv_iconst (v := 2) hx hb dX12_expression_42 (by decide) ?_
      obtain ⟨μ17, e16, h⟩ := b1_e h
      refine cVv (as := [.int 2]) (rest := []) (c_X12_fail hW e16) C hl.1 hH hS rfl (jM_0 hW) rfl wd_40 wd_1443 mw_X12_fail wd_1441 rfl (rm_ok (by decide) (by decide)) (Nat.le_of_ble_eq_true rfl) ⟨Nat.zero_le _, Nat.zero_le _⟩ (by decide) dX12_expression_43 (fun H locs hH hS => ?_)
      exact wX12_expression_b46 hW C hr hk hrec hK hH hS hl h
theorem wX12_expression_l23 (hW : FWM ω) (C : Cx ω p s m args c cX12_expression 3 RX12) (hr : meth.sig.returnType = none) (hk : meth.locks = false) {μo : Mem} {x1 : Int32} {K : Mem → Option Mem} (hK : ∀ (ν : Mem) (H : Heap) (locs : List Loc) (ls : Array Slot), Hd ω ν H → FS ω s H locs → lv_has ls 3 [(0, .ref (wB ω + 0)), (1, .int x1)] → K ν = some μo → W p l e (rmd 4) s m args below meth c H locs 0 0 (MQ below (QR ω none μo) args s 0 0 (wA ω)) (F0 m 84 ls [])) : ∀ (n : Nat) (μ : Mem) (H : Heap) (locs : List Loc) (ls : Array Slot), Hd ω μ H → FS ω s H locs → lv_has ls 3 [(0, .ref (wB ω + 0)), (1, .int x1)] → fX12_expression_l23 K n μ = some μo → W p l e (rmd 4) s m args below meth c H locs 0 0 (MQ below (QR ω none μo) args s 0 0 (wA ω)) (F0 m 23 ls []) := by
  intro n
  induction n with
  | zero => intro μ H locs ls hH hS hl h; cases h
  | succ n ih => intro μ H locs ls hH hS hl h; exact wX12_expression_s23 hW C hr hk ih hK hH hS hl h
set_option maxHeartbeats 4000000 in
set_option maxRecDepth 100000 in
theorem wX12_expression_s96 (hW : FWM ω) (C : Cx ω p s m args c cX12_expression 3 RX12) (hr : meth.sig.returnType = none) (hk : meth.locks = false) {μo : Mem} {x1 : Int32} {rec : Mem → Option Mem} (hrec : ∀ (ν : Mem) (H : Heap) (locs : List Loc) (ls : Array Slot), Hd ω ν H → FS ω s H locs → lv_has ls 3 [(0, .ref (wB ω + 0)), (1, .int x1)] → rec ν = some μo → W p l e (rmd 4) s m args below meth c H locs 0 0 (MQ below (QR ω none μo) args s 0 0 (wA ω)) (F0 m 96 ls [])) {K : Mem → Option Mem} (hK : ∀ (ν : Mem) (H : Heap) (locs : List Loc) (ls : Array Slot), Hd ω ν H → FS ω s H locs → lv_has ls 3 [(0, .ref (wB ω + 0)), (1, .int x1)] → K ν = some μo → W p l e (rmd 4) s m args below meth c H locs 0 0 (MQ below (QR ω none μo) args s 0 0 (wA ω)) (F0 m 145 ls [])) {μ : Mem} {H : Heap} {locs : List Loc} {ls : Array Slot} (hH : Hd ω μ H) (hS : FS ω s H locs) (hl : lv_has ls 3 [(0, .ref (wB ω + 0)), (1, .int x1)]) (h : fX12_expression_s96 rec K x1 μ = some μo) : W p l e (rmd 4) s m args below meth c H locs 0 0 (MQ below (QR ω none μo) args s 0 0 (wA ω)) (F0 m 96 ls []) := by
  have hx := C.1
  have hb := C.2.1
  unfold fX12_expression_s96 at h
  refine lv_aload_n hx hb dX12_expression_96 rfl (lv_at hl 0 rfl) ?_
  refine lv_bipush (v := 7) hx hb dX12_expression_97 (by decide) ?_
  obtain ⟨r22, e21, h⟩ := b1_e h
  refine cVi (as := [.int 7]) (rest := []) (c_X12_is hW e21) C hl.1 hH hS rfl (jM_0 hW) rfl wd_38 wd_1435 mw_X12_is wd_1433 rfl (rm_ok (by decide) (by decide)) (Nat.le_of_ble_eq_true rfl) ⟨Nat.zero_le _, Nat.zero_le _⟩ (by decide) dX12_expression_99 (fun H locs hH hS => ?_)
  refine lv_if_eq (tgt := 145) hx hb dX12_expression_102 (by decide) (fun hc => ?_) (fun hc => ?_)
  · have h := ite_t hc h
    exact hK _ H locs ls hH hS hl h
  · have h := ite_f hc h
    refine lv_aload_n hx hb dX12_expression_105 rfl (lv_at hl 0 rfl) ?_
    refine g_1199 C hH (jM_0 hW) dX12_expression_106 ?_
    refine lv_iload_n hx hb dX12_expression_109 rfl (lv_at hl 1 rfl) ?_
    refine lv_icmp_le (tgt := 145) hx hb dX12_expression_110 (by decide) (fun hc => ?_) (fun hc => ?_)
    · have h := ite_t hc h
      exact hK _ H locs ls hH hS hl h
    · have h := ite_f hc h
      refine lv_aload_n hx hb dX12_expression_113 rfl (lv_at hl 0 rfl) ?_
      refine lv_iconst (v := 0) hx hb dX12_expression_114 (by decide) ?_
      obtain ⟨μ24, e23, h⟩ := b1_e h
      refine cVv (as := [.int 0]) (rest := []) (c_X12_comesOut hW e23) C hl.1 hH hS rfl (jM_0 hW) rfl wd_51 wd_1487 mw_X12_comesOut wd_1485 rfl (rm_ok (by decide) (by decide)) (Nat.le_of_ble_eq_true rfl) ⟨Nat.zero_le _, Nat.zero_le _⟩ (by decide) dX12_expression_115 (fun H locs hH hS => ?_)
      refine lv_aload_n hx hb dX12_expression_118 rfl (lv_at hl 0 rfl) ?_
      refine lv_dup hx hb dX12_expression_119 rfl ?_
      refine g_1230 C hH (jM_0 hW) dX12_expression_120 ?_
      refine lv_iconst (v := 1) hx hb dX12_expression_123 (by decide) ?_
      refine lv_isub hx hb dX12_expression_124 ?_
      obtain ⟨μ25, e26, h⟩ := bd_e h
      refine p_1230 C hH hS (jM_0 hW) dX12_expression_125 (fun H locs hH hS => ?_)
      have hH := Hd.to e26 hH
      refine lv_aload_n hx hb dX12_expression_128 rfl (lv_at hl 0 rfl) ?_
      refine lv_dup hx hb dX12_expression_129 rfl ?_
      refine g_1199 C hH (jM_0 hW) dX12_expression_130 ?_
      refine lv_iconst (v := 1) hx hb dX12_expression_133 (by decide) ?_
      refine lv_isub hx hb dX12_expression_134 ?_
      obtain ⟨μ27, e28, h⟩ := bd_e h
      refine p_1199 C hH hS (jM_0 hW) dX12_expression_135 (fun H locs hH hS => ?_)
      have hH := Hd.to e28 hH
      refine lv_aload_n hx hb dX12_expression_138 rfl (lv_at hl 0 rfl) ?_
      obtain ⟨μ30, e29, h⟩ := b1_e h
      refine cVv (as := []) (rest := []) (c_X12_goesOn hW e29) C hl.1 hH hS rfl (jM_0 hW) rfl wd_42 wd_1451 mw_X12_goesOn wd_1449 rfl (rm_ok (by decide) (by decide)) (Nat.le_of_ble_eq_true rfl) ⟨Nat.zero_le _, Nat.zero_le _⟩ (by decide) dX12_expression_139 (fun H locs hH hS => ?_)
      refine lv_goto (tgt := 96) hx hb dX12_expression_142 (by decide) ?_
      exact hrec _ H locs ls hH hS hl h
theorem wX12_expression_l96 (hW : FWM ω) (C : Cx ω p s m args c cX12_expression 3 RX12) (hr : meth.sig.returnType = none) (hk : meth.locks = false) {μo : Mem} {x1 : Int32} {K : Mem → Option Mem} (hK : ∀ (ν : Mem) (H : Heap) (locs : List Loc) (ls : Array Slot), Hd ω ν H → FS ω s H locs → lv_has ls 3 [(0, .ref (wB ω + 0)), (1, .int x1)] → K ν = some μo → W p l e (rmd 4) s m args below meth c H locs 0 0 (MQ below (QR ω none μo) args s 0 0 (wA ω)) (F0 m 145 ls [])) : ∀ (n : Nat) (μ : Mem) (H : Heap) (locs : List Loc) (ls : Array Slot), Hd ω μ H → FS ω s H locs → lv_has ls 3 [(0, .ref (wB ω + 0)), (1, .int x1)] → fX12_expression_l96 K x1 n μ = some μo → W p l e (rmd 4) s m args below meth c H locs 0 0 (MQ below (QR ω none μo) args s 0 0 (wA ω)) (F0 m 96 ls []) := by
  intro n
  induction n with
  | zero => intro μ H locs ls hH hS hl h; cases h
  | succ n ih => intro μ H locs ls hH hS hl h; exact wX12_expression_s96 hW C hr hk ih hK hH hS hl h
set_option maxHeartbeats 4000000 in
set_option maxRecDepth 100000 in
theorem wX12_expression_b234 (hW : FWM ω) (C : Cx ω p s m args c cX12_expression 3 RX12) (hr : meth.sig.returnType = none) (hk : meth.locks = false) {μo : Mem} {x1 : Int32} {x2 : Int32} {rec : Int32 → Mem → Option Mem} (hrec : ∀ (z2 : Int32) (ν : Mem) (H : Heap) (locs : List Loc) (ls : Array Slot), Hd ω ν H → FS ω s H locs → lv_has ls 3 [(0, .ref (wB ω + 0)), (1, .int x1), (2, .int z2)] → rec z2 ν = some μo → W p l e (rmd 4) s m args below meth c H locs 0 0 (MQ below (QR ω none μo) args s 0 0 (wA ω)) (F0 m 12 ls [])) {K : Mem → Option Mem} (hK : ∀ (ν : Mem) (H : Heap) (locs : List Loc) (ls : Array Slot), Hd ω ν H → FS ω s H locs → lv_has ls 3 [(0, .ref (wB ω + 0)), (1, .int x1)] → K ν = some μo → W p l e (rmd 4) s m args below meth c H locs 0 0 (MQ below (QR ω none μo) args s 0 0 (wA ω)) (F0 m 191 ls [])) {k1 : Int32} {μ : Mem} {H : Heap} {locs : List Loc} {ls : Array Slot} (hH : Hd ω μ H) (hS : FS ω s H locs) (hl : lv_has ls 3 [(0, .ref (wB ω + 0)), (1, .int x1), (2, .int x2)]) (h : fX12_expression_b234 rec K x1 x2 k1 μ = some μo) : W p l e (rmd 4) s m args below meth c H locs 0 0 (MQ below (QR ω none μo) args s 0 0 (wA ω)) (F0 m 234 ls [.int k1, .ref (wB ω + 0)]) := by
  have hx := C.1
  have hb := C.2.1
  unfold fX12_expression_b234 at h
  obtain ⟨μ37, e36, h⟩ := b1_e h
  refine cVv (as := [.int k1]) (rest := []) (c_X12_comesOut hW e36) C hl.1 hH hS rfl (jM_0 hW) rfl wd_51 wd_1487 mw_X12_comesOut wd_1485 rfl (rm_ok (by decide) (by decide)) (Nat.le_of_ble_eq_true rfl) ⟨Nat.zero_le _, Nat.zero_le _⟩ (by decide) dX12_expression_234 (fun H locs hH hS => ?_)
  refine lv_aload_n hx hb dX12_expression_237 rfl (lv_at hl 0 rfl) ?_
  refine g_1229 (i := 28) C hH (jM_0 hW) rfl dX12_expression_238 ?_
  refine lv_aload_n hx hb dX12_expression_241 rfl (lv_at hl 0 rfl) ?_
  refine g_1230 C hH (jM_0 hW) dX12_expression_242 ?_
  refine lv_aload_n hx hb dX12_expression_245 rfl (lv_at hl 0 rfl) ?_
  refine g_1192 (i := 3) C hH (jM_0 hW) rfl dX12_expression_246 ?_
  refine lv_aload_n hx hb dX12_expression_249 rfl (lv_at hl 0 rfl) ?_
  refine g_1198 C hH (jM_0 hW) dX12_expression_250 ?_
  obtain ⟨b38, h⟩ := gd_e h
  refine h_iald C hH (jM_3 hW).1 (jM_3 hW).2.1 b38 dX12_expression_253 ?_
  obtain ⟨b39, h⟩ := gd_e h
  obtain ⟨μ40, e41, h⟩ := bd_e h
  refine h_iast C hH hS (jM_28 hW).1 (jM_28 hW).2.1 b39 dX12_expression_254 (fun H locs hH hS => ?_)
  have hH := Hd.to e41 hH
  refine lv_aload_n hx hb dX12_expression_255 rfl (lv_at hl 0 rfl) ?_
  refine lv_dup hx hb dX12_expression_256 rfl ?_
  refine g_1230 C hH (jM_0 hW) dX12_expression_257 ?_
  refine lv_iconst (v := 1) hx hb dX12_expression_260 (by decide) ?_
  refine lv_iadd hx hb dX12_expression_261 ?_
  obtain ⟨μ42, e43, h⟩ := bd_e h
  refine p_1230 C hH hS (jM_0 hW) dX12_expression_262 (fun H locs hH hS => ?_)
  have hH := Hd.to e43 hH
  refine lv_aload_n hx hb dX12_expression_265 rfl (lv_at hl 0 rfl) ?_
  obtain ⟨μ45, e44, h⟩ := b1_e h
  refine cVv (as := []) (rest := []) (c_X12_goesOn hW e44) C hl.1 hH hS rfl (jM_0 hW) rfl wd_42 wd_1451 mw_X12_goesOn wd_1449 rfl (rm_ok (by decide) (by decide)) (Nat.le_of_ble_eq_true rfl) ⟨Nat.zero_le _, Nat.zero_le _⟩ (by decide) dX12_expression_266 (fun H locs hH hS => ?_)
  refine lv_goto (tgt := 12) hx hb dX12_expression_269 (by decide) ?_
  exact hrec _ _ H locs ls hH hS hl h
set_option maxHeartbeats 4000000 in
set_option maxRecDepth 100000 in
theorem wX12_expression_b229 (hW : FWM ω) (C : Cx ω p s m args c cX12_expression 3 RX12) (hr : meth.sig.returnType = none) (hk : meth.locks = false) {μo : Mem} {x1 : Int32} {x2 : Int32} {rec : Int32 → Mem → Option Mem} (hrec : ∀ (z2 : Int32) (ν : Mem) (H : Heap) (locs : List Loc) (ls : Array Slot), Hd ω ν H → FS ω s H locs → lv_has ls 3 [(0, .ref (wB ω + 0)), (1, .int x1), (2, .int z2)] → rec z2 ν = some μo → W p l e (rmd 4) s m args below meth c H locs 0 0 (MQ below (QR ω none μo) args s 0 0 (wA ω)) (F0 m 12 ls [])) {K : Mem → Option Mem} (hK : ∀ (ν : Mem) (H : Heap) (locs : List Loc) (ls : Array Slot), Hd ω ν H → FS ω s H locs → lv_has ls 3 [(0, .ref (wB ω + 0)), (1, .int x1)] → K ν = some μo → W p l e (rmd 4) s m args below meth c H locs 0 0 (MQ below (QR ω none μo) args s 0 0 (wA ω)) (F0 m 191 ls [])) {μ : Mem} {H : Heap} {locs : List Loc} {ls : Array Slot} (hH : Hd ω μ H) (hS : FS ω s H locs) (hl : lv_has ls 3 [(0, .ref (wB ω + 0)), (1, .int x1), (2, .int x2)]) (h : fX12_expression_b229 rec K x1 x2 μ = some μo) : W p l e (rmd 4) s m args below meth c H locs 0 0 (MQ below (QR ω none μo) args s 0 0 (wA ω)) (F0 m 229 ls [.ref (wB ω + 0)]) := by
  have hx := C.1
  have hb := C.2.1
  unfold fX12_expression_b229 at h
  refine lv_iconst (v := 1) hx hb dX12_expression_229 (by decide) ?_
  refine lv_goto (tgt := 234) hx hb dX12_expression_230 (by decide) ?_
  exact wX12_expression_b234 hW C hr hk hrec hK hH hS hl h
set_option maxHeartbeats 4000000 in
set_option maxRecDepth 100000 in
theorem wX12_expression_b186 (hW : FWM ω) (C : Cx ω p s m args c cX12_expression 3 RX12) (hr : meth.sig.returnType = none) (hk : meth.locks = false) {μo : Mem} {x1 : Int32} {rec : Int32 → Mem → Option Mem} (hrec : ∀ (z2 : Int32) (ν : Mem) (H : Heap) (locs : List Loc) (ls : Array Slot), Hd ω ν H → FS ω s H locs → lv_has ls 3 [(0, .ref (wB ω + 0)), (1, .int x1), (2, .int z2)] → rec z2 ν = some μo → W p l e (rmd 4) s m args below meth c H locs 0 0 (MQ below (QR ω none μo) args s 0 0 (wA ω)) (F0 m 12 ls [])) {K : Mem → Option Mem} (hK : ∀ (ν : Mem) (H : Heap) (locs : List Loc) (ls : Array Slot), Hd ω ν H → FS ω s H locs → lv_has ls 3 [(0, .ref (wB ω + 0)), (1, .int x1)] → K ν = some μo → W p l e (rmd 4) s m args below meth c H locs 0 0 (MQ below (QR ω none μo) args s 0 0 (wA ω)) (F0 m 191 ls [])) {k0 : Int32} {μ : Mem} {H : Heap} {locs : List Loc} {ls : Array Slot} (hH : Hd ω μ H) (hS : FS ω s H locs) (hl : lv_has ls 3 [(0, .ref (wB ω + 0)), (1, .int x1)]) (h : fX12_expression_b186 rec K x1 k0 μ = some μo) : W p l e (rmd 4) s m args below meth c H locs 0 0 (MQ below (QR ω none μo) args s 0 0 (wA ω)) (F0 m 186 ls [.int k0]) := by
  have hx := C.1
  have hb := C.2.1
  unfold fX12_expression_b186 at h
  refine lv_istore_n (lv' := [(2, .int k0), (0, .ref (wB ω + 0)), (1, .int x1)]) hx hb dX12_expression_186 rfl hl (by decide) rfl (fun ls hl => ?_)
  refine lv_iload_n hx hb dX12_expression_187 rfl (lv_at hl 0 rfl) ?_
  refine lv_if_ne (tgt := 210) hx hb dX12_expression_188 (by decide) (fun hc => ?_) (fun hc => ?_)
  · have h := ite_f hc h
    refine lv_aload_n hx hb dX12_expression_210 rfl (lv_at hl 1 rfl) ?_
    refine lv_aload_n hx hb dX12_expression_211 rfl (lv_at hl 1 rfl) ?_
    refine lv_bipush (v := 10) hx hb dX12_expression_212 (by decide) ?_
    obtain ⟨r35, e34, h⟩ := b1_e h
    refine cVi (as := [.int 10]) (rest := [.ref (wB ω + 0)]) (c_X12_is hW e34) C hl.1 hH hS rfl (jM_0 hW) rfl wd_38 wd_1435 mw_X12_is wd_1433 rfl (rm_ok (by decide) (by decide)) (Nat.le_of_ble_eq_true rfl) ⟨Nat.zero_le _, Nat.zero_le _⟩ (by decide) dX12_expression_214 (fun H locs hH hS => ?_)
    refine lv_if_ne (tgt := 229) hx hb dX12_expression_217 (by decide) (fun hc => ?_) (fun hc => ?_)
    · have h := ite_f hc h
      exact wX12_expression_b229 hW C hr hk hrec hK hH hS (lv_sub hl [1, 2, 0] rfl) h
    · have h := ite_t hc h
      refine lv_aload_n hx hb dX12_expression_220 rfl (lv_at hl 1 rfl) ?_
      refine lv_bipush (v := 15) hx hb dX12_expression_221 (by decide) ?_
      obtain ⟨r47, e46, h⟩ := b1_e h
      refine cVi (as := [.int 15]) (rest := [.ref (wB ω + 0)]) (c_X12_is hW e46) C hl.1 hH hS rfl (jM_0 hW) rfl wd_38 wd_1435 mw_X12_is wd_1433 rfl (rm_ok (by decide) (by decide)) (Nat.le_of_ble_eq_true rfl) ⟨Nat.zero_le _, Nat.zero_le _⟩ (by decide) dX12_expression_223 (fun H locs hH hS => ?_)
      refine lv_if_eq (tgt := 233) hx hb dX12_expression_226 (by decide) (fun hc => ?_) (fun hc => ?_)
      · have h := ite_t hc h
        refine lv_iconst (v := 0) hx hb dX12_expression_233 (by decide) ?_
        exact wX12_expression_b234 hW C hr hk hrec hK hH hS (lv_sub hl [1, 2, 0] rfl) h
      · have h := ite_f hc h
        exact wX12_expression_b229 hW C hr hk hrec hK hH hS (lv_sub hl [1, 2, 0] rfl) h
  · have h := ite_t hc h
    exact hK _ H locs ls hH hS (lv_sub hl [1, 2] rfl) h
set_option maxHeartbeats 4000000 in
set_option maxRecDepth 100000 in
theorem wX12_expression_b181 (hW : FWM ω) (C : Cx ω p s m args c cX12_expression 3 RX12) (hr : meth.sig.returnType = none) (hk : meth.locks = false) {μo : Mem} {x1 : Int32} {rec : Int32 → Mem → Option Mem} (hrec : ∀ (z2 : Int32) (ν : Mem) (H : Heap) (locs : List Loc) (ls : Array Slot), Hd ω ν H → FS ω s H locs → lv_has ls 3 [(0, .ref (wB ω + 0)), (1, .int x1), (2, .int z2)] → rec z2 ν = some μo → W p l e (rmd 4) s m args below meth c H locs 0 0 (MQ below (QR ω none μo) args s 0 0 (wA ω)) (F0 m 12 ls [])) {K : Mem → Option Mem} (hK : ∀ (ν : Mem) (H : Heap) (locs : List Loc) (ls : Array Slot), Hd ω ν H → FS ω s H locs → lv_has ls 3 [(0, .ref (wB ω + 0)), (1, .int x1)] → K ν = some μo → W p l e (rmd 4) s m args below meth c H locs 0 0 (MQ below (QR ω none μo) args s 0 0 (wA ω)) (F0 m 191 ls [])) {μ : Mem} {H : Heap} {locs : List Loc} {ls : Array Slot} (hH : Hd ω μ H) (hS : FS ω s H locs) (hl : lv_has ls 3 [(0, .ref (wB ω + 0)), (1, .int x1)]) (h : fX12_expression_b181 rec K x1 μ = some μo) : W p l e (rmd 4) s m args below meth c H locs 0 0 (MQ below (QR ω none μo) args s 0 0 (wA ω)) (F0 m 181 ls []) := by
  have hx := C.1
  have hb := C.2.1
  unfold fX12_expression_b181 at h
  refine lv_iconst (v := 1) hx hb dX12_expression_181 (by decide) ?_
  refine lv_goto (tgt := 186) hx hb dX12_expression_182 (by decide) ?_
  exact wX12_expression_b186 hW C hr hk hrec hK hH hS hl h
set_option maxHeartbeats 4000000 in
set_option maxRecDepth 100000 in
theorem wX12_expression_b145 (hW : FWM ω) (C : Cx ω p s m args c cX12_expression 3 RX12) (hr : meth.sig.returnType = none) (hk : meth.locks = false) {μo : Mem} {x1 : Int32} {rec : Int32 → Mem → Option Mem} (hrec : ∀ (z2 : Int32) (ν : Mem) (H : Heap) (locs : List Loc) (ls : Array Slot), Hd ω ν H → FS ω s H locs → lv_has ls 3 [(0, .ref (wB ω + 0)), (1, .int x1), (2, .int z2)] → rec z2 ν = some μo → W p l e (rmd 4) s m args below meth c H locs 0 0 (MQ below (QR ω none μo) args s 0 0 (wA ω)) (F0 m 12 ls [])) {K : Mem → Option Mem} (hK : ∀ (ν : Mem) (H : Heap) (locs : List Loc) (ls : Array Slot), Hd ω ν H → FS ω s H locs → lv_has ls 3 [(0, .ref (wB ω + 0)), (1, .int x1)] → K ν = some μo → W p l e (rmd 4) s m args below meth c H locs 0 0 (MQ below (QR ω none μo) args s 0 0 (wA ω)) (F0 m 191 ls [])) {μ : Mem} {H : Heap} {locs : List Loc} {ls : Array Slot} (hH : Hd ω μ H) (hS : FS ω s H locs) (hl : lv_has ls 3 [(0, .ref (wB ω + 0)), (1, .int x1)]) (h : fX12_expression_b145 rec K x1 μ = some μo) : W p l e (rmd 4) s m args below meth c H locs 0 0 (MQ below (QR ω none μo) args s 0 0 (wA ω)) (F0 m 145 ls []) := by
  have hx := C.1
  have hb := C.2.1
  unfold fX12_expression_b145 at h
  refine lv_aload_n hx hb dX12_expression_145 rfl (lv_at hl 0 rfl) ?_
  refine lv_bipush (v := 8) hx hb dX12_expression_146 (by decide) ?_
  obtain ⟨r33, e32, h⟩ := b1_e h
  refine cVi (as := [.int 8]) (rest := []) (c_X12_is hW e32) C hl.1 hH hS rfl (jM_0 hW) rfl wd_38 wd_1435 mw_X12_is wd_1433 rfl (rm_ok (by decide) (by decide)) (Nat.le_of_ble_eq_true rfl) ⟨Nat.zero_le _, Nat.zero_le _⟩ (by decide) dX12_expression_148 (fun H locs hH hS => ?_)
  refine lv_if_ne (tgt := 181) hx hb dX12_expression_151 (by decide) (fun hc => ?_) (fun hc => ?_)
  · have h := ite_f hc h
    exact wX12_expression_b181 hW C hr hk hrec hK hH hS hl h
  · have h := ite_t hc h
    refine lv_aload_n hx hb dX12_expression_154 rfl (lv_at hl 0 rfl) ?_
    refine lv_bipush (v := 9) hx hb dX12_expression_155 (by decide) ?_
    obtain ⟨r49, e48, h⟩ := b1_e h
    refine cVi (as := [.int 9]) (rest := []) (c_X12_is hW e48) C hl.1 hH hS rfl (jM_0 hW) rfl wd_38 wd_1435 mw_X12_is wd_1433 rfl (rm_ok (by decide) (by decide)) (Nat.le_of_ble_eq_true rfl) ⟨Nat.zero_le _, Nat.zero_le _⟩ (by decide) dX12_expression_157 (fun H locs hH hS => ?_)
    refine lv_if_ne (tgt := 181) hx hb dX12_expression_160 (by decide) (fun hc => ?_) (fun hc => ?_)
    · have h := ite_f hc h
      exact wX12_expression_b181 hW C hr hk hrec hK hH hS hl h
    · have h := ite_t hc h
      refine lv_aload_n hx hb dX12_expression_163 rfl (lv_at hl 0 rfl) ?_
      refine lv_bipush (v := 10) hx hb dX12_expression_164 (by decide) ?_
      obtain ⟨r51, e50, h⟩ := b1_e h
      refine cVi (as := [.int 10]) (rest := []) (c_X12_is hW e50) C hl.1 hH hS rfl (jM_0 hW) rfl wd_38 wd_1435 mw_X12_is wd_1433 rfl (rm_ok (by decide) (by decide)) (Nat.le_of_ble_eq_true rfl) ⟨Nat.zero_le _, Nat.zero_le _⟩ (by decide) dX12_expression_166 (fun H locs hH hS => ?_)
      refine lv_if_ne (tgt := 181) hx hb dX12_expression_169 (by decide) (fun hc => ?_) (fun hc => ?_)
      · have h := ite_f hc h
        exact wX12_expression_b181 hW C hr hk hrec hK hH hS hl h
      · have h := ite_t hc h
        refine lv_aload_n hx hb dX12_expression_172 rfl (lv_at hl 0 rfl) ?_
        refine lv_bipush (v := 15) hx hb dX12_expression_173 (by decide) ?_
        obtain ⟨r53, e52, h⟩ := b1_e h
        refine cVi (as := [.int 15]) (rest := []) (c_X12_is hW e52) C hl.1 hH hS rfl (jM_0 hW) rfl wd_38 wd_1435 mw_X12_is wd_1433 rfl (rm_ok (by decide) (by decide)) (Nat.le_of_ble_eq_true rfl) ⟨Nat.zero_le _, Nat.zero_le _⟩ (by decide) dX12_expression_175 (fun H locs hH hS => ?_)
        refine lv_if_eq (tgt := 185) hx hb dX12_expression_178 (by decide) (fun hc => ?_) (fun hc => ?_)
        · have h := ite_t hc h
          refine lv_iconst (v := 0) hx hb dX12_expression_185 (by decide) ?_
          exact wX12_expression_b186 hW C hr hk hrec hK hH hS hl h
        · have h := ite_f hc h
          exact wX12_expression_b181 hW C hr hk hrec hK hH hS hl h
set_option maxHeartbeats 4000000 in
set_option maxRecDepth 100000 in
theorem wX12_expression_s12 (hW : FWM ω) (C : Cx ω p s m args c cX12_expression 3 RX12) (hr : meth.sig.returnType = none) (hk : meth.locks = false) {μo : Mem} {x1 : Int32} {x2 : Int32} {rec : Int32 → Mem → Option Mem} (hrec : ∀ (z2 : Int32) (ν : Mem) (H : Heap) (locs : List Loc) (ls : Array Slot), Hd ω ν H → FS ω s H locs → lv_has ls 3 [(0, .ref (wB ω + 0)), (1, .int x1), (2, .int z2)] → rec z2 ν = some μo → W p l e (rmd 4) s m args below meth c H locs 0 0 (MQ below (QR ω none μo) args s 0 0 (wA ω)) (F0 m 12 ls [])) {K : Mem → Option Mem} (hK : ∀ (ν : Mem) (H : Heap) (locs : List Loc) (ls : Array Slot), Hd ω ν H → FS ω s H locs → lv_has ls 3 [(0, .ref (wB ω + 0)), (1, .int x1)] → K ν = some μo → W p l e (rmd 4) s m args below meth c H locs 0 0 (MQ below (QR ω none μo) args s 0 0 (wA ω)) (F0 m 191 ls [])) {μ : Mem} {H : Heap} {locs : List Loc} {ls : Array Slot} (hH : Hd ω μ H) (hS : FS ω s H locs) (hl : lv_has ls 3 [(0, .ref (wB ω + 0)), (1, .int x1), (2, .int x2)]) (h : fX12_expression_s12 rec K x1 x2 μ = some μo) : W p l e (rmd 4) s m args below meth c H locs 0 0 (MQ below (QR ω none μo) args s 0 0 (wA ω)) (F0 m 12 ls []) := by
  have hx := C.1
  have hb := C.2.1
  unfold fX12_expression_s12 at h
  refine lv_iload_n hx hb dX12_expression_12 rfl (lv_at hl 2 rfl) ?_
  refine lv_if_eq (tgt := 272) hx hb dX12_expression_13 (by decide) (fun hc => ?_) (fun hc => ?_)
  · have h := ite_t hc h
    exact h_vret C hr hk hH hS (by cases h; rfl) dX12_expression_272
  · have h := ite_f hc h
    refine lv_aload_n hx hb dX12_expression_16 rfl (lv_at hl 0 rfl) ?_
    refine g_1200 C hH (jM_0 hW) dX12_expression_17 ?_
    refine lv_if_ne (tgt := 272) hx hb dX12_expression_20 (by decide) (fun hc => ?_) (fun hc => ?_)
    · have h := ite_f hc h
      exact h_vret C hr hk hH hS (by cases h; rfl) dX12_expression_272
    · have h := ite_t hc h
      refine wX12_expression_l23 hW C hr hk (fun μ18 H locs ls hH hS hl h => ?_) FU _ H locs ls hH hS (lv_sub hl [0, 1] rfl) h
      refine lv_aload_n hx hb dX12_expression_84 rfl (lv_at hl 0 rfl) ?_
      obtain ⟨μ20, e19, h⟩ := b1_e h
      refine cVv (as := []) (rest := []) (c_X12_unit hW e19) C hl.1 hH hS rfl (jM_0 hW) rfl wd_49 wd_1479 mw_X12_unit wd_1477 rfl (rm_ok (by decide) (by decide)) (Nat.le_of_ble_eq_true rfl) ⟨Nat.zero_le _, Nat.zero_le _⟩ (by decide) dX12_expression_85 (fun H locs hH hS => ?_)
      refine lv_aload_n hx hb dX12_expression_88 rfl (lv_at hl 0 rfl) ?_
      refine g_1200 C hH (jM_0 hW) dX12_expression_89 ?_
      refine lv_if_le (tgt := 96) hx hb dX12_expression_92 (by decide) (fun hc => ?_) (fun hc => ?_)
      · have h := ite_t hc h
        refine wX12_expression_l96 hW C hr hk (fun μ31 H locs ls hH hS hl h => ?_) FU _ H locs ls hH hS hl h
        exact wX12_expression_b145 hW C hr hk hrec hK hH hS hl h
      · have h := ite_f hc h
        exact h_vret C hr hk hH hS (by cases h; rfl) dX12_expression_95
theorem wX12_expression_l12 (hW : FWM ω) (C : Cx ω p s m args c cX12_expression 3 RX12) (hr : meth.sig.returnType = none) (hk : meth.locks = false) {μo : Mem} {x1 : Int32} {K : Mem → Option Mem} (hK : ∀ (ν : Mem) (H : Heap) (locs : List Loc) (ls : Array Slot), Hd ω ν H → FS ω s H locs → lv_has ls 3 [(0, .ref (wB ω + 0)), (1, .int x1)] → K ν = some μo → W p l e (rmd 4) s m args below meth c H locs 0 0 (MQ below (QR ω none μo) args s 0 0 (wA ω)) (F0 m 191 ls [])) : ∀ (n : Nat) (x2 : Int32) (μ : Mem) (H : Heap) (locs : List Loc) (ls : Array Slot), Hd ω μ H → FS ω s H locs → lv_has ls 3 [(0, .ref (wB ω + 0)), (1, .int x1), (2, .int x2)] → fX12_expression_l12 K x1 n x2 μ = some μo → W p l e (rmd 4) s m args below meth c H locs 0 0 (MQ below (QR ω none μo) args s 0 0 (wA ω)) (F0 m 12 ls []) := by
  intro n
  induction n with
  | zero => intro x2 μ H locs ls hH hS hl h; cases h
  | succ n ih => intro x2 μ H locs ls hH hS hl h; exact wX12_expression_s12 hW C hr hk ih hK hH hS hl h
set_option maxHeartbeats 4000000 in
set_option maxRecDepth 100000 in
theorem wX12_expression_e (hW : FWM ω) (C : Cx ω p s m args c cX12_expression 3 RX12) (hr : meth.sig.returnType = none) (hk : meth.locks = false) {μo : Mem} {μ : Mem} {H : Heap} {locs : List Loc} {ls : Array Slot} (hH : Hd ω μ H) (hS : FS ω s H locs) (hl : lv_has ls 3 [(0, .ref (wB ω + 0))]) (h : fX12_expression μ = some μo) : W p l e (rmd 4) s m args below meth c H locs 0 0 (MQ below (QR ω none μo) args s 0 0 (wA ω)) (F0 m 0 ls []) := by
  have hx := C.1
  have hb := C.2.1
  unfold fX12_expression at h
  refine lv_aload_n hx hb dX12_expression_0 rfl (lv_at hl 0 rfl) ?_
  refine lv_iconst (v := 0) hx hb dX12_expression_1 (by decide) ?_
  obtain ⟨μ1, e2, h⟩ := bd_e h
  refine p_1230 C hH hS (jM_0 hW) dX12_expression_2 (fun H locs hH hS => ?_)
  have hH := Hd.to e2 hH
  refine lv_aload_n hx hb dX12_expression_5 rfl (lv_at hl 0 rfl) ?_
  refine g_1199 C hH (jM_0 hW) dX12_expression_6 ?_
  obtain ⟨y3, e4, h⟩ := bd_e h
  refine h_topi e4 ?_
  refine lv_istore_n (lv' := [(1, .int y3), (0, .ref (wB ω + 0))]) hx hb dX12_expression_9 rfl hl (by decide) rfl (fun ls hl => ?_)
  refine lv_iconst (v := 1) hx hb dX12_expression_10 (by decide) ?_
  refine lv_istore_n (lv' := [(2, .int 1), (1, .int y3), (0, .ref (wB ω + 0))]) hx hb dX12_expression_11 rfl hl (by decide) rfl (fun ls hl => ?_)
  refine wX12_expression_l12 hW C hr hk (fun μ54 H locs ls hH hS hl h => ?_) FU _ _ H locs ls hH hS (lv_sub hl [2, 1, 0] rfl) h
  refine lv_aload_n hx hb dX12_expression_191 rfl (lv_at hl 0 rfl) ?_
  refine g_1199 C hH (jM_0 hW) dX12_expression_192 ?_
  refine lv_iload_n hx hb dX12_expression_195 rfl (lv_at hl 1 rfl) ?_
  refine lv_icmp_le (tgt := 204) hx hb dX12_expression_196 (by decide) (fun hc => ?_) (fun hc => ?_)
  · have h := ite_t hc h
    refine lv_aload_n hx hb dX12_expression_204 rfl (lv_at hl 0 rfl) ?_
    refine lv_iconst (v := 0) hx hb dX12_expression_205 (by decide) ?_
    obtain ⟨μ56, e55, h⟩ := b1_e h
    refine cVv (as := [.int 0]) (rest := []) (c_X12_comesOut hW e55) C hl.1 hH hS rfl (jM_0 hW) rfl wd_51 wd_1487 mw_X12_comesOut wd_1485 rfl (rm_ok (by decide) (by decide)) (Nat.le_of_ble_eq_true rfl) ⟨Nat.zero_le _, Nat.zero_le _⟩ (by decide) dX12_expression_206 (fun H locs hH hS => ?_)
    exact h_vret C hr hk hH hS (by cases h; rfl) dX12_expression_209
  · have h := ite_f hc h
    refine lv_aload_n hx hb dX12_expression_199 rfl (lv_at hl 0 rfl) ?_
    refine lv_iconst (v := 1) hx hb dX12_expression_200 (by decide) ?_
    obtain ⟨μ58, e57, h⟩ := b1_e h
    refine cVv (as := [.int 1]) (rest := []) (c_X12_fail hW e57) C hl.1 hH hS rfl (jM_0 hW) rfl wd_40 wd_1443 mw_X12_fail wd_1441 rfl (rm_ok (by decide) (by decide)) (Nat.le_of_ble_eq_true rfl) ⟨Nat.zero_le _, Nat.zero_le _⟩ (by decide) dX12_expression_201 (fun H locs hH hS => ?_)
    refine lv_aload_n hx hb dX12_expression_204 rfl (lv_at hl 0 rfl) ?_
    refine lv_iconst (v := 0) hx hb dX12_expression_205 (by decide) ?_
    obtain ⟨μ60, e59, h⟩ := b1_e h
    refine cVv (as := [.int 0]) (rest := []) (c_X12_comesOut hW e59) C hl.1 hH hS rfl (jM_0 hW) rfl wd_51 wd_1487 mw_X12_comesOut wd_1485 rfl (rm_ok (by decide) (by decide)) (Nat.le_of_ble_eq_true rfl) ⟨Nat.zero_le _, Nat.zero_le _⟩ (by decide) dX12_expression_206 (fun H locs hH hS => ?_)
    exact h_vret C hr hk hH hS (by cases h; rfl) dX12_expression_209
theorem c_X12_expression {l : Launch} {ω : WW} (hW : FWM ω) {μ : Mem} {μo : Mem} (h : fX12_expression μ = some μo) : Con l yX12_expression cX12_expression 3 none 4 ω [.ref (wB ω + 0)] μ none μo :=
  con_of (by decide) (Nat.le_of_ble_eq_true rfl) (fun p e s m args below meth c ls C hr hk hl hH hS => wX12_expression_e hW C hr hk hH hS (lv_sub hl [0] rfl) h)
set_option maxHeartbeats 4000000 in
set_option maxRecDepth 100000 in
theorem wX12_off_e (C : Cx ω p s m args c cX12_off 2 RX12) (hr : meth.sig.returnType = some .int) (hk : meth.locks = false) {rr : Int32} {μ : Mem} {x0 : Int32} {x1 : Int32} {H : Heap} {locs : List Loc} {ls : Array Slot} (hH : Hd ω μ H) (hS : FS ω s H locs) (hl : lv_has ls 2 [(0, .int x0), (1, .int x1)]) (h : fX12_off x0 x1 = some rr) : W p l e (rmd 1) s m args below meth c H locs 0 0 (MQ below (QR ω (some (.int rr)) μ) args s 0 0 (wA ω)) (F0 m 0 ls []) := by
  have hx := C.1
  have hb := C.2.1
  unfold fX12_off at h
  refine lv_iload_n hx hb dX12_off_0 rfl (lv_at hl 0 rfl) ?_
  refine lv_iload_n hx hb dX12_off_1 rfl (lv_at hl 1 rfl) ?_
  refine lv_icmp_ge (tgt := 11) hx hb dX12_off_2 (by decide) (fun hc => ?_) (fun hc => ?_)
  · have h := ite_t hc h
    refine lv_iload_n hx hb dX12_off_11 rfl (lv_at hl 0 rfl) ?_
    refine lv_iload_n hx hb dX12_off_12 rfl (lv_at hl 1 rfl) ?_
    refine lv_isub hx hb dX12_off_13 ?_
    exact h_iret C hr hk hH hS rfl (by cases h; rfl) dX12_off_14
  · have h := ite_f hc h
    refine lv_iload_n hx hb dX12_off_5 rfl (lv_at hl 1 rfl) ?_
    refine lv_iload_n hx hb dX12_off_6 rfl (lv_at hl 0 rfl) ?_
    refine lv_isub hx hb dX12_off_7 ?_
    refine lv_goto (tgt := 14) hx hb dX12_off_8 (by decide) ?_
    exact h_iret C hr hk hH hS rfl (by cases h; rfl) dX12_off_14
theorem c_X12_off {l : Launch} {ω : WW} {x0 : Int32} {x1 : Int32} {μ : Mem} {rr : Int32} (h : fX12_off x0 x1 = some rr) : Con l yX12_off cX12_off 2 (some .int) 1 ω [.int x0, .int x1] μ (some (.int rr)) μ :=
  con_of (by decide) (Nat.le_of_ble_eq_true rfl) (fun p e s m args below meth c ls C hr hk hl hH hS => wX12_off_e C hr hk hH hS (lv_sub hl [0, 1] rfl) h)
set_option maxHeartbeats 4000000 in
set_option maxRecDepth 100000 in
theorem wX12_farOf_e (hW : FWM ω) (C : Cx ω p s m args c cX12_farOf 3 RX12) (hr : meth.sig.returnType = some .int) (hk : meth.locks = false) {rr : Int32} {μ : Mem} {x1 : Int32} {x2 : Int32} {H : Heap} {locs : List Loc} {ls : Array Slot} (hH : Hd ω μ H) (hS : FS ω s H locs) (hl : lv_has ls 3 [(0, .ref (wB ω + 0)), (1, .int x1), (2, .int x2)]) (h : fX12_farOf x1 x2 μ = some rr) : W p l e (rmd 2) s m args below meth c H locs 0 0 (MQ below (QR ω (some (.int rr)) μ) args s 0 0 (wA ω)) (F0 m 0 ls []) := by
  have hx := C.1
  have hb := C.2.1
  unfold fX12_farOf at h
  refine lv_aload_n hx hb dX12_farOf_0 rfl (lv_at hl 0 rfl) ?_
  refine g_1212 (i := 13) C hH (jM_0 hW) rfl dX12_farOf_1 ?_
  refine lv_bipush (v := 6) hx hb dX12_farOf_4 (by decide) ?_
  refine lv_aload_n hx hb dX12_farOf_6 rfl (lv_at hl 0 rfl) ?_
  refine g_1205 C hH (jM_0 hW) dX12_farOf_7 ?_
  refine lv_imul hx hb dX12_farOf_10 ?_
  refine lv_iload_n hx hb dX12_farOf_11 rfl (lv_at hl 1 rfl) ?_
  refine lv_iadd hx hb dX12_farOf_12 ?_
  obtain ⟨b1, h⟩ := gd_e h
  refine h_iald C hH (jM_13 hW).1 (jM_13 hW).2.1 b1 dX12_farOf_13 ?_
  refine lv_aload_n hx hb dX12_farOf_14 rfl (lv_at hl 0 rfl) ?_
  refine g_1212 (i := 13) C hH (jM_0 hW) rfl dX12_farOf_15 ?_
  refine lv_bipush (v := 6) hx hb dX12_farOf_18 (by decide) ?_
  refine lv_aload_n hx hb dX12_farOf_20 rfl (lv_at hl 0 rfl) ?_
  refine g_1205 C hH (jM_0 hW) dX12_farOf_21 ?_
  refine lv_imul hx hb dX12_farOf_24 ?_
  refine lv_iload_n hx hb dX12_farOf_25 rfl (lv_at hl 2 rfl) ?_
  refine lv_iadd hx hb dX12_farOf_26 ?_
  obtain ⟨b2, h⟩ := gd_e h
  refine h_iald C hH (jM_13 hW).1 (jM_13 hW).2.1 b2 dX12_farOf_27 ?_
  obtain ⟨r4, e3, h⟩ := b1_e h
  refine cSi (as := [.int (μ.1 13 (((6 * (μ.1 0 18)) + x1).toNatClampNeg)), .int (μ.1 13 (((6 * (μ.1 0 18)) + x2).toNatClampNeg))]) (rest := []) (c_X12_off e3) C hl.1 hH hS rfl wd_1719 mw_X12_off wd_1718 rfl (rm_ok (by decide) (by decide)) (Nat.le_of_ble_eq_true rfl) ⟨Nat.zero_le _, Nat.zero_le _⟩ dX12_farOf_28 (fun H locs hH hS => ?_)
  refine lv_aload_n hx hb dX12_farOf_31 rfl (lv_at hl 0 rfl) ?_
  refine g_1213 (i := 14) C hH (jM_0 hW) rfl dX12_farOf_32 ?_
  refine lv_bipush (v := 6) hx hb dX12_farOf_35 (by decide) ?_
  refine lv_aload_n hx hb dX12_farOf_37 rfl (lv_at hl 0 rfl) ?_
  refine g_1205 C hH (jM_0 hW) dX12_farOf_38 ?_
  refine lv_imul hx hb dX12_farOf_41 ?_
  refine lv_iload_n hx hb dX12_farOf_42 rfl (lv_at hl 1 rfl) ?_
  refine lv_iadd hx hb dX12_farOf_43 ?_
  obtain ⟨b5, h⟩ := gd_e h
  refine h_iald C hH (jM_14 hW).1 (jM_14 hW).2.1 b5 dX12_farOf_44 ?_
  refine lv_aload_n hx hb dX12_farOf_45 rfl (lv_at hl 0 rfl) ?_
  refine g_1213 (i := 14) C hH (jM_0 hW) rfl dX12_farOf_46 ?_
  refine lv_bipush (v := 6) hx hb dX12_farOf_49 (by decide) ?_
  refine lv_aload_n hx hb dX12_farOf_51 rfl (lv_at hl 0 rfl) ?_
  refine g_1205 C hH (jM_0 hW) dX12_farOf_52 ?_
  refine lv_imul hx hb dX12_farOf_55 ?_
  refine lv_iload_n hx hb dX12_farOf_56 rfl (lv_at hl 2 rfl) ?_
  refine lv_iadd hx hb dX12_farOf_57 ?_
  obtain ⟨b6, h⟩ := gd_e h
  refine h_iald C hH (jM_14 hW).1 (jM_14 hW).2.1 b6 dX12_farOf_58 ?_
  obtain ⟨r8, e7, h⟩ := b1_e h
  refine cSi (as := [.int (μ.1 14 (((6 * (μ.1 0 18)) + x1).toNatClampNeg)), .int (μ.1 14 (((6 * (μ.1 0 18)) + x2).toNatClampNeg))]) (rest := [.int r4]) (c_X12_off e7) C hl.1 hH hS rfl wd_1719 mw_X12_off wd_1718 rfl (rm_ok (by decide) (by decide)) (Nat.le_of_ble_eq_true rfl) ⟨Nat.zero_le _, Nat.zero_le _⟩ dX12_farOf_59 (fun H locs hH hS => ?_)
  refine lv_iadd hx hb dX12_farOf_62 ?_
  exact h_iret C hr hk hH hS rfl (by cases h; rfl) dX12_farOf_63
theorem c_X12_farOf {l : Launch} {ω : WW} {x1 : Int32} {x2 : Int32} (hW : FWM ω) {μ : Mem} {rr : Int32} (h : fX12_farOf x1 x2 μ = some rr) : Con l yX12_farOf cX12_farOf 3 (some .int) 2 ω [.ref (wB ω + 0), .int x1, .int x2] μ (some (.int rr)) μ :=
  con_of (by decide) (Nat.le_of_ble_eq_true rfl) (fun p e s m args below meth c ls C hr hk hl hH hS => wX12_farOf_e hW C hr hk hH hS (lv_sub hl [0, 1, 2] rfl) h)
set_option maxHeartbeats 4000000 in
set_option maxRecDepth 100000 in
theorem wX12_far_e (hW : FWM ω) (C : Cx ω p s m args c cX12_far 3 RX12) (hr : meth.sig.returnType = some .int) (hk : meth.locks = false) {rr : Int32} {μ : Mem} {x1 : Int32} {x2 : Int32} {H : Heap} {locs : List Loc} {ls : Array Slot} (hH : Hd ω μ H) (hS : FS ω s H locs) (hl : lv_has ls 3 [(0, .ref (wB ω + 0)), (1, .int x1), (2, .int x2)]) (h : fX12_far x1 x2 μ = some rr) : W p l e (rmd 3) s m args below meth c H locs 0 0 (MQ below (QR ω (some (.int rr)) μ) args s 0 0 (wA ω)) (F0 m 0 ls []) := by
  have hx := C.1
  have hb := C.2.1
  unfold fX12_far at h
  refine lv_aload_n hx hb dX12_far_0 rfl (lv_at hl 0 rfl) ?_
  refine lv_iload_n hx hb dX12_far_1 rfl (lv_at hl 1 rfl) ?_
  obtain ⟨r2, e1, h⟩ := b1_e h
  refine cVi (as := [.int x1]) (rest := []) (c_X12_isHouse hW e1) C hl.1 hH hS rfl (jM_0 hW) rfl wd_53 wd_1503 mw_X12_isHouse wd_1501 rfl (rm_ok (by decide) (by decide)) (Nat.le_of_ble_eq_true rfl) ⟨Nat.zero_le _, Nat.zero_le _⟩ (by decide) dX12_far_2 (fun H locs hH hS => ?_)
  refine lv_if_eq (tgt := 25) hx hb dX12_far_5 (by decide) (fun hc => ?_) (fun hc => ?_)
  · have h := ite_t hc h
    refine lv_iconst (v := (-1)) hx hb dX12_far_25 (by decide) ?_
    exact h_iret C hr hk hH hS rfl (by cases h; rfl) dX12_far_26
  · have h := ite_f hc h
    refine lv_aload_n hx hb dX12_far_8 rfl (lv_at hl 0 rfl) ?_
    refine lv_iload_n hx hb dX12_far_9 rfl (lv_at hl 2 rfl) ?_
    obtain ⟨r4, e3, h⟩ := b1_e h
    refine cVi (as := [.int x2]) (rest := []) (c_X12_isHouse hW e3) C hl.1 hH hS rfl (jM_0 hW) rfl wd_53 wd_1503 mw_X12_isHouse wd_1501 rfl (rm_ok (by decide) (by decide)) (Nat.le_of_ble_eq_true rfl) ⟨Nat.zero_le _, Nat.zero_le _⟩ (by decide) dX12_far_10 (fun H locs hH hS => ?_)
    refine lv_if_eq (tgt := 25) hx hb dX12_far_13 (by decide) (fun hc => ?_) (fun hc => ?_)
    · have h := ite_t hc h
      refine lv_iconst (v := (-1)) hx hb dX12_far_25 (by decide) ?_
      exact h_iret C hr hk hH hS rfl (by cases h; rfl) dX12_far_26
    · have h := ite_f hc h
      refine lv_aload_n hx hb dX12_far_16 rfl (lv_at hl 0 rfl) ?_
      refine lv_iload_n hx hb dX12_far_17 rfl (lv_at hl 1 rfl) ?_
      refine lv_iload_n hx hb dX12_far_18 rfl (lv_at hl 2 rfl) ?_
      obtain ⟨r6, e5, h⟩ := b1_e h
      refine cVi (as := [.int x1, .int x2]) (rest := []) (c_X12_farOf hW e5) C hl.1 hH hS rfl (jM_0 hW) rfl wd_84 wd_1716 mw_X12_farOf wd_1714 rfl (rm_ok (by decide) (by decide)) (Nat.le_of_ble_eq_true rfl) ⟨Nat.zero_le _, Nat.zero_le _⟩ (by decide) dX12_far_19 (fun H locs hH hS => ?_)
      refine lv_goto (tgt := 26) hx hb dX12_far_22 (by decide) ?_
      exact h_iret C hr hk hH hS rfl (by cases h; rfl) dX12_far_26
theorem c_X12_far {l : Launch} {ω : WW} {x1 : Int32} {x2 : Int32} (hW : FWM ω) {μ : Mem} {rr : Int32} (h : fX12_far x1 x2 μ = some rr) : Con l yX12_far cX12_far 3 (some .int) 3 ω [.ref (wB ω + 0), .int x1, .int x2] μ (some (.int rr)) μ :=
  con_of (by decide) (Nat.le_of_ble_eq_true rfl) (fun p e s m args below meth c ls C hr hk hl hH hS => wX12_far_e hW C hr hk hH hS (lv_sub hl [0, 1, 2] rfl) h)
set_option maxHeartbeats 4000000 in
set_option maxRecDepth 100000 in
theorem wX12_put_s3 (hW : FWM ω) (C : Cx ω p s m args c cX12_put 3 RX12) (hr : meth.sig.returnType = none) (hk : meth.locks = false) {μo : Mem} {x1 : Int32} {x2 : Int32} {rec : Int32 → Mem → Option Mem} (hrec : ∀ (z2 : Int32) (ν : Mem) (H : Heap) (locs : List Loc) (ls : Array Slot), Hd ω ν H → FS ω s H locs → lv_has ls 3 [(0, .ref (wB ω + 0)), (1, .int x1), (2, .int z2)] → rec z2 ν = some μo → W p l e (rmd 1) s m args below meth c H locs 0 0 (MQ below (QR ω none μo) args s 0 0 (wA ω)) (F0 m 3 ls [])) {μ : Mem} {H : Heap} {locs : List Loc} {ls : Array Slot} (hH : Hd ω μ H) (hS : FS ω s H locs) (hl : lv_has ls 3 [(0, .ref (wB ω + 0)), (1, .int x1), (2, .int x2)]) (h : fX12_put_s3 rec x1 x2 μ = some μo) : W p l e (rmd 1) s m args below meth c H locs 0 0 (MQ below (QR ω none μo) args s 0 0 (wA ω)) (F0 m 3 ls []) := by
  have hx := C.1
  have hb := C.2.1
  unfold fX12_put_s3 at h
  refine lv_iload_n hx hb dX12_put_3 rfl (lv_at hl 2 rfl) ?_
  refine lv_if_lt (tgt := 36) hx hb dX12_put_4 (by decide) (fun hc => ?_) (fun hc => ?_)
  · have h := ite_t hc h
    exact h_vret C hr hk hH hS (by cases h; rfl) dX12_put_36
  · have h := ite_f hc h
    refine lv_aload_n hx hb dX12_put_7 rfl (lv_at hl 0 rfl) ?_
    refine g_1188 (i := 1) C hH (jM_0 hW) rfl dX12_put_8 ?_
    refine lv_aload_n hx hb dX12_put_11 rfl (lv_at hl 0 rfl) ?_
    refine g_1189 C hH (jM_0 hW) dX12_put_12 ?_
    refine lv_iload_n hx hb dX12_put_15 rfl (lv_at hl 1 rfl) ?_
    refine lv_iload_n hx hb dX12_put_16 rfl (lv_at hl 2 rfl) ?_
    refine lv_ishr hx hb dX12_put_17 ?_
    refine lv_i2b (v := (x1 >>> (x2 &&& 31)).toInt8.toInt32) hx hb dX12_put_18 rfl ?_
    obtain ⟨b1, h⟩ := gd_e h
    obtain ⟨μ2, e3, h⟩ := bd_e h
    refine h_bast C hH hS (jM_1 hW).1 (jM_1 hW).2.1 b1 dX12_put_19 (fun H locs hH hS => ?_)
    have hH := Hd.to e3 hH
    refine lv_aload_n hx hb dX12_put_20 rfl (lv_at hl 0 rfl) ?_
    refine lv_dup hx hb dX12_put_21 rfl ?_
    refine g_1189 C hH (jM_0 hW) dX12_put_22 ?_
    refine lv_iconst (v := 1) hx hb dX12_put_25 (by decide) ?_
    refine lv_iadd hx hb dX12_put_26 ?_
    obtain ⟨μ4, e5, h⟩ := bd_e h
    refine p_1189 C hH hS (jM_0 hW) dX12_put_27 (fun H locs hH hS => ?_)
    have hH := Hd.to e5 hH
    refine lv_iinc (v := x2 + (-8)) (lv' := [(2, .int (x2 + (-8))), (0, .ref (wB ω + 0)), (1, .int x1)]) hx hb dX12_put_30 hl (k := 2) rfl rfl (by decide) rfl (fun ls hl => ?_)
    refine lv_goto (tgt := 3) hx hb dX12_put_33 (by decide) ?_
    exact hrec _ _ H locs ls hH hS (lv_sub hl [1, 2, 0] rfl) h
theorem wX12_put_l3 (hW : FWM ω) (C : Cx ω p s m args c cX12_put 3 RX12) (hr : meth.sig.returnType = none) (hk : meth.locks = false) {μo : Mem} {x1 : Int32} : ∀ (n : Nat) (x2 : Int32) (μ : Mem) (H : Heap) (locs : List Loc) (ls : Array Slot), Hd ω μ H → FS ω s H locs → lv_has ls 3 [(0, .ref (wB ω + 0)), (1, .int x1), (2, .int x2)] → fX12_put_l3 x1 n x2 μ = some μo → W p l e (rmd 1) s m args below meth c H locs 0 0 (MQ below (QR ω none μo) args s 0 0 (wA ω)) (F0 m 3 ls []) := by
  intro n
  induction n with
  | zero => intro x2 μ H locs ls hH hS hl h; cases h
  | succ n ih => intro x2 μ H locs ls hH hS hl h; exact wX12_put_s3 hW C hr hk ih hH hS hl h
set_option maxHeartbeats 4000000 in
set_option maxRecDepth 100000 in
theorem wX12_put_e (hW : FWM ω) (C : Cx ω p s m args c cX12_put 3 RX12) (hr : meth.sig.returnType = none) (hk : meth.locks = false) {μo : Mem} {x1 : Int32} {μ : Mem} {H : Heap} {locs : List Loc} {ls : Array Slot} (hH : Hd ω μ H) (hS : FS ω s H locs) (hl : lv_has ls 3 [(0, .ref (wB ω + 0)), (1, .int x1)]) (h : fX12_put x1 μ = some μo) : W p l e (rmd 1) s m args below meth c H locs 0 0 (MQ below (QR ω none μo) args s 0 0 (wA ω)) (F0 m 0 ls []) := by
  have hx := C.1
  have hb := C.2.1
  unfold fX12_put at h
  refine lv_bipush (v := 24) hx hb dX12_put_0 (by decide) ?_
  refine lv_istore_n (lv' := [(2, .int 24), (0, .ref (wB ω + 0)), (1, .int x1)]) hx hb dX12_put_2 rfl hl (by decide) rfl (fun ls hl => ?_)
  exact wX12_put_l3 hW C hr hk FU _ _ H locs ls hH hS (lv_sub hl [1, 2, 0] rfl) h
theorem c_X12_put {l : Launch} {ω : WW} {x1 : Int32} (hW : FWM ω) {μ : Mem} {μo : Mem} (h : fX12_put x1 μ = some μo) : Con l yX12_put cX12_put 3 none 1 ω [.ref (wB ω + 0), .int x1] μ none μo :=
  con_of (by decide) (Nat.le_of_ble_eq_true rfl) (fun p e s m args below meth c ls C hr hk hl hH hS => wX12_put_e hW C hr hk hH hS (lv_sub hl [0, 1] rfl) h)
set_option maxHeartbeats 4000000 in
set_option maxRecDepth 100000 in
theorem wX12_feed_e (hW : FWM ω) (C : Cx ω p s m args c cX12_feed 6 RX12) (hr : meth.sig.returnType = some .int) (hk : meth.locks = false) {rr : Int32} {μo : Mem} {x1 : Int32} {x2 : Int32} {x3 : Int32} {x4 : Int32} {x5 : Int32} {μ : Mem} {H : Heap} {locs : List Loc} {ls : Array Slot} (hH : Hd ω μ H) (hS : FS ω s H locs) (hl : lv_has ls 6 [(0, .ref (wB ω + 0)), (1, .int x1), (2, .int x2), (3, .int x3), (4, .int x4), (5, .int x5)]) (h : fX12_feed x1 x2 x3 x4 x5 μ = some (rr, μo)) : W p l e (rmd 2) s m args below meth c H locs 0 0 (MQ below (QR ω (some (.int rr)) μo) args s 0 0 (wA ω)) (F0 m 0 ls []) := by
  have hx := C.1
  have hb := C.2.1
  unfold fX12_feed at h
  refine lv_aload_n hx hb dX12_feed_0 rfl (lv_at hl 0 rfl) ?_
  refine g_1189 C hH (jM_0 hW) dX12_feed_1 ?_
  refine lv_bipush (v := 20) hx hb dX12_feed_4 (by decide) ?_
  refine lv_iadd hx hb dX12_feed_6 ?_
  refine lv_sipush (v := 2000) hx hb dX12_feed_7 (by decide) ?_
  refine lv_icmp_le (tgt := 15) hx hb dX12_feed_10 (by decide) (fun hc => ?_) (fun hc => ?_)
  · have h := ite_t hc h
    refine lv_aload_n hx hb dX12_feed_15 rfl (lv_at hl 0 rfl) ?_
    refine lv_iload_n hx hb dX12_feed_16 rfl (lv_at hl 1 rfl) ?_
    obtain ⟨μ2, e1, h⟩ := b1_e h
    refine cVv (as := [.int x1]) (rest := []) (c_X12_put hW e1) C hl.1 hH hS rfl (jM_0 hW) rfl wd_33 wd_1401 mw_X12_put wd_1399 rfl (rm_ok (by decide) (by decide)) (Nat.le_of_ble_eq_true rfl) ⟨Nat.zero_le _, Nat.zero_le _⟩ (by decide) dX12_feed_17 (fun H locs hH hS => ?_)
    refine lv_aload_n hx hb dX12_feed_20 rfl (lv_at hl 0 rfl) ?_
    refine lv_iload_n hx hb dX12_feed_21 rfl (lv_at hl 2 rfl) ?_
    obtain ⟨μ4, e3, h⟩ := b1_e h
    refine cVv (as := [.int x2]) (rest := []) (c_X12_put hW e3) C hl.1 hH hS rfl (jM_0 hW) rfl wd_33 wd_1401 mw_X12_put wd_1399 rfl (rm_ok (by decide) (by decide)) (Nat.le_of_ble_eq_true rfl) ⟨Nat.zero_le _, Nat.zero_le _⟩ (by decide) dX12_feed_22 (fun H locs hH hS => ?_)
    refine lv_aload_n hx hb dX12_feed_25 rfl (lv_at hl 0 rfl) ?_
    refine lv_iload_n hx hb dX12_feed_26 rfl (lv_at hl 3 rfl) ?_
    obtain ⟨μ6, e5, h⟩ := b1_e h
    refine cVv (as := [.int x3]) (rest := []) (c_X12_put hW e5) C hl.1 hH hS rfl (jM_0 hW) rfl wd_33 wd_1401 mw_X12_put wd_1399 rfl (rm_ok (by decide) (by decide)) (Nat.le_of_ble_eq_true rfl) ⟨Nat.zero_le _, Nat.zero_le _⟩ (by decide) dX12_feed_27 (fun H locs hH hS => ?_)
    refine lv_aload_n hx hb dX12_feed_30 rfl (lv_at hl 0 rfl) ?_
    refine lv_iload hx hb dX12_feed_31 (lv_at hl 4 rfl) ?_
    obtain ⟨μ8, e7, h⟩ := b1_e h
    refine cVv (as := [.int x4]) (rest := []) (c_X12_put hW e7) C hl.1 hH hS rfl (jM_0 hW) rfl wd_33 wd_1401 mw_X12_put wd_1399 rfl (rm_ok (by decide) (by decide)) (Nat.le_of_ble_eq_true rfl) ⟨Nat.zero_le _, Nat.zero_le _⟩ (by decide) dX12_feed_33 (fun H locs hH hS => ?_)
    refine lv_aload_n hx hb dX12_feed_36 rfl (lv_at hl 0 rfl) ?_
    refine lv_iload hx hb dX12_feed_37 (lv_at hl 5 rfl) ?_
    obtain ⟨μ10, e9, h⟩ := b1_e h
    refine cVv (as := [.int x5]) (rest := []) (c_X12_put hW e9) C hl.1 hH hS rfl (jM_0 hW) rfl wd_33 wd_1401 mw_X12_put wd_1399 rfl (rm_ok (by decide) (by decide)) (Nat.le_of_ble_eq_true rfl) ⟨Nat.zero_le _, Nat.zero_le _⟩ (by decide) dX12_feed_39 (fun H locs hH hS => ?_)
    refine lv_aload_n hx hb dX12_feed_42 rfl (lv_at hl 0 rfl) ?_
    refine g_1189 C hH (jM_0 hW) dX12_feed_43 ?_
    exact h_iret C hr hk hH hS rfl (by cases h; rfl) dX12_feed_46
  · have h := ite_f hc h
    refine lv_iconst (v := (-1)) hx hb dX12_feed_13 (by decide) ?_
    exact h_iret C hr hk hH hS rfl (by cases h; rfl) dX12_feed_14
theorem c_X12_feed {l : Launch} {ω : WW} {x1 : Int32} {x2 : Int32} {x3 : Int32} {x4 : Int32} {x5 : Int32} (hW : FWM ω) {μ : Mem} {rr : Int32} {μo : Mem} (h : fX12_feed x1 x2 x3 x4 x5 μ = some (rr, μo)) : Con l yX12_feed cX12_feed 6 (some .int) 2 ω [.ref (wB ω + 0), .int x1, .int x2, .int x3, .int x4, .int x5] μ (some (.int rr)) μo :=
  con_of (by decide) (Nat.le_of_ble_eq_true rfl) (fun p e s m args below meth c ls C hr hk hl hH hS => wX12_feed_e hW C hr hk hH hS (lv_sub hl [0, 1, 2, 3, 4, 5] rfl) h)
set_option maxHeartbeats 4000000 in
set_option maxRecDepth 100000 in
theorem wX12_lowestOf_s2 (C : Cx ω p s m args c cX12_lowestOf 2 RX12) (hr : meth.sig.returnType = some .int) (hk : meth.locks = false) {rr : Int32} {μ : Mem} {x0 : Int32} {x1 : Int32} {rec : Int32 → Option Int32} (hrec : ∀ (z1 : Int32) (H : Heap) (locs : List Loc) (ls : Array Slot), Hd ω μ H → FS ω s H locs → lv_has ls 2 [(0, .int x0), (1, .int z1)] → rec z1 = some rr → W p l e (rmd 1) s m args below meth c H locs 0 0 (MQ below (QR ω (some (.int rr)) μ) args s 0 0 (wA ω)) (F0 m 2 ls [])) {H : Heap} {locs : List Loc} {ls : Array Slot} (hH : Hd ω μ H) (hS : FS ω s H locs) (hl : lv_has ls 2 [(0, .int x0), (1, .int x1)]) (h : fX12_lowestOf_s2 rec x0 x1 = some rr) : W p l e (rmd 1) s m args below meth c H locs 0 0 (MQ below (QR ω (some (.int rr)) μ) args s 0 0 (wA ω)) (F0 m 2 ls []) := by
  have hx := C.1
  have hb := C.2.1
  unfold fX12_lowestOf_s2 at h
  refine lv_iload_n hx hb dX12_lowestOf_2 rfl (lv_at hl 0 rfl) ?_
  refine lv_iload_n hx hb dX12_lowestOf_3 rfl (lv_at hl 1 rfl) ?_
  refine lv_ishr hx hb dX12_lowestOf_4 ?_
  refine lv_iconst (v := 1) hx hb dX12_lowestOf_5 (by decide) ?_
  refine lv_iand hx hb dX12_lowestOf_6 ?_
  refine lv_if_ne (tgt := 16) hx hb dX12_lowestOf_7 (by decide) (fun hc => ?_) (fun hc => ?_)
  · have h := ite_f hc h
    refine lv_iload_n hx hb dX12_lowestOf_16 rfl (lv_at hl 1 rfl) ?_
    exact h_iret C hr hk hH hS rfl (by cases h; rfl) dX12_lowestOf_17
  · have h := ite_t hc h
    refine lv_iinc (v := x1 + 1) (lv' := [(1, .int (x1 + 1)), (0, .int x0)]) hx hb dX12_lowestOf_10 hl (k := 1) rfl rfl (by decide) rfl (fun ls hl => ?_)
    refine lv_goto (tgt := 2) hx hb dX12_lowestOf_13 (by decide) ?_
    exact hrec _ H locs ls hH hS (lv_sub hl [1, 0] rfl) h
theorem wX12_lowestOf_l2 (C : Cx ω p s m args c cX12_lowestOf 2 RX12) (hr : meth.sig.returnType = some .int) (hk : meth.locks = false) {rr : Int32} {μ : Mem} {x0 : Int32} : ∀ (n : Nat) (x1 : Int32) (H : Heap) (locs : List Loc) (ls : Array Slot), Hd ω μ H → FS ω s H locs → lv_has ls 2 [(0, .int x0), (1, .int x1)] → fX12_lowestOf_l2 x0 n x1 = some rr → W p l e (rmd 1) s m args below meth c H locs 0 0 (MQ below (QR ω (some (.int rr)) μ) args s 0 0 (wA ω)) (F0 m 2 ls []) := by
  intro n
  induction n with
  | zero => intro x1 H locs ls hH hS hl h; cases h
  | succ n ih => intro x1 H locs ls hH hS hl h; exact wX12_lowestOf_s2 C hr hk ih hH hS hl h
set_option maxHeartbeats 4000000 in
set_option maxRecDepth 100000 in
theorem wX12_lowestOf_e (C : Cx ω p s m args c cX12_lowestOf 2 RX12) (hr : meth.sig.returnType = some .int) (hk : meth.locks = false) {rr : Int32} {μ : Mem} {x0 : Int32} {H : Heap} {locs : List Loc} {ls : Array Slot} (hH : Hd ω μ H) (hS : FS ω s H locs) (hl : lv_has ls 2 [(0, .int x0)]) (h : fX12_lowestOf x0 = some rr) : W p l e (rmd 1) s m args below meth c H locs 0 0 (MQ below (QR ω (some (.int rr)) μ) args s 0 0 (wA ω)) (F0 m 0 ls []) := by
  have hx := C.1
  have hb := C.2.1
  unfold fX12_lowestOf at h
  refine lv_iconst (v := 0) hx hb dX12_lowestOf_0 (by decide) ?_
  refine lv_istore_n (lv' := [(1, .int 0), (0, .int x0)]) hx hb dX12_lowestOf_1 rfl hl (by decide) rfl (fun ls hl => ?_)
  exact wX12_lowestOf_l2 C hr hk FU _ H locs ls hH hS (lv_sub hl [1, 0] rfl) h
theorem c_X12_lowestOf {l : Launch} {ω : WW} {x0 : Int32} {μ : Mem} {rr : Int32} (h : fX12_lowestOf x0 = some rr) : Con l yX12_lowestOf cX12_lowestOf 2 (some .int) 1 ω [.int x0] μ (some (.int rr)) μ :=
  con_of (by decide) (Nat.le_of_ble_eq_true rfl) (fun p e s m args below meth c ls C hr hk hl hH hS => wX12_lowestOf_e C hr hk hH hS (lv_sub hl [0] rfl) h)
set_option maxHeartbeats 4000000 in
set_option maxRecDepth 100000 in
theorem wX12_unlike_e (hW : FWM ω) (C : Cx ω p s m args c cX12_unlike 3 RX12) (hr : meth.sig.returnType = some .int) (hk : meth.locks = false) {rr : Int32} {μ : Mem} {x1 : Int32} {x2 : Int32} {H : Heap} {locs : List Loc} {ls : Array Slot} (hH : Hd ω μ H) (hS : FS ω s H locs) (hl : lv_has ls 3 [(0, .ref (wB ω + 0)), (1, .int x1), (2, .int x2)]) (h : fX12_unlike x1 x2 μ = some rr) : W p l e (rmd 2) s m args below meth c H locs 0 0 (MQ below (QR ω (some (.int rr)) μ) args s 0 0 (wA ω)) (F0 m 0 ls []) := by
  have hx := C.1
  have hb := C.2.1
  unfold fX12_unlike at h
  refine lv_aload_n hx hb dX12_unlike_0 rfl (lv_at hl 0 rfl) ?_
  refine g_1234 (i := 31) C hH (jM_0 hW) rfl dX12_unlike_1 ?_
  refine lv_bipush (v := 12) hx hb dX12_unlike_4 (by decide) ?_
  refine lv_iload_n hx hb dX12_unlike_6 rfl (lv_at hl 1 rfl) ?_
  refine lv_iadd hx hb dX12_unlike_7 ?_
  obtain ⟨b1, h⟩ := gd_e h
  refine h_iald C hH (jM_31 hW).1 (jM_31 hW).2.1 b1 dX12_unlike_8 ?_
  refine lv_aload_n hx hb dX12_unlike_9 rfl (lv_at hl 0 rfl) ?_
  refine g_1234 (i := 31) C hH (jM_0 hW) rfl dX12_unlike_10 ?_
  refine lv_bipush (v := 12) hx hb dX12_unlike_13 (by decide) ?_
  refine lv_iload_n hx hb dX12_unlike_15 rfl (lv_at hl 2 rfl) ?_
  refine lv_iadd hx hb dX12_unlike_16 ?_
  obtain ⟨b2, h⟩ := gd_e h
  refine h_iald C hH (jM_31 hW).1 (jM_31 hW).2.1 b2 dX12_unlike_17 ?_
  obtain ⟨r4, e3, h⟩ := b1_e h
  refine cSi (as := [.int (μ.1 31 ((12 + x1).toNatClampNeg)), .int (μ.1 31 ((12 + x2).toNatClampNeg))]) (rest := []) (c_X12_off e3) C hl.1 hH hS rfl wd_1719 mw_X12_off wd_1718 rfl (rm_ok (by decide) (by decide)) (Nat.le_of_ble_eq_true rfl) ⟨Nat.zero_le _, Nat.zero_le _⟩ dX12_unlike_18 (fun H locs hH hS => ?_)
  exact h_iret C hr hk hH hS rfl (by cases h; rfl) dX12_unlike_21
theorem c_X12_unlike {l : Launch} {ω : WW} {x1 : Int32} {x2 : Int32} (hW : FWM ω) {μ : Mem} {rr : Int32} (h : fX12_unlike x1 x2 μ = some rr) : Con l yX12_unlike cX12_unlike 3 (some .int) 2 ω [.ref (wB ω + 0), .int x1, .int x2] μ (some (.int rr)) μ :=
  con_of (by decide) (Nat.le_of_ble_eq_true rfl) (fun p e s m args below meth c ls C hr hk hl hH hS => wX12_unlike_e hW C hr hk hH hS (lv_sub hl [0, 1, 2] rfl) h)
set_option maxHeartbeats 4000000 in
set_option maxRecDepth 100000 in
theorem wX12_pairedWith_e (hW : FWM ω) (C : Cx ω p s m args c cX12_pairedWith 4 RX12) (hr : meth.sig.returnType = some .int) (hk : meth.locks = false) {rr : Int32} {μ : Mem} {x1 : Int32} {x2 : Int32} {x3 : Int32} {H : Heap} {locs : List Loc} {ls : Array Slot} (hH : Hd ω μ H) (hS : FS ω s H locs) (hl : lv_has ls 4 [(0, .ref (wB ω + 0)), (1, .int x1), (2, .int x2), (3, .int x3)]) (h : fX12_pairedWith x1 x2 x3 μ = some rr) : W p l e (rmd 3) s m args below meth c H locs 0 0 (MQ below (QR ω (some (.int rr)) μ) args s 0 0 (wA ω)) (F0 m 0 ls []) := by
  have hx := C.1
  have hb := C.2.1
  unfold fX12_pairedWith at h
  refine lv_aload_n hx hb dX12_pairedWith_0 rfl (lv_at hl 0 rfl) ?_
  refine lv_iload_n hx hb dX12_pairedWith_1 rfl (lv_at hl 1 rfl) ?_
  refine lv_iload_n hx hb dX12_pairedWith_2 rfl (lv_at hl 2 rfl) ?_
  obtain ⟨r2, e1, h⟩ := b1_e h
  refine cVi (as := [.int x1, .int x2]) (rest := []) (c_X12_unlike hW e1) C hl.1 hH hS rfl (jM_0 hW) rfl wd_88 wd_1755 mw_X12_unlike wd_1753 rfl (rm_ok (by decide) (by decide)) (Nat.le_of_ble_eq_true rfl) ⟨Nat.zero_le _, Nat.zero_le _⟩ (by decide) dX12_pairedWith_3 (fun H locs hH hS => ?_)
  refine lv_sipush (v := 10000) hx hb dX12_pairedWith_6 (by decide) ?_
  refine lv_isub hx hb dX12_pairedWith_9 ?_
  refine lv_aload_n hx hb dX12_pairedWith_10 rfl (lv_at hl 0 rfl) ?_
  refine g_1249 (i := 43) C hH (jM_0 hW) rfl dX12_pairedWith_11 ?_
  refine lv_iload_n hx hb dX12_pairedWith_14 rfl (lv_at hl 3 rfl) ?_
  refine lv_iconst (v := 1) hx hb dX12_pairedWith_15 (by decide) ?_
  refine lv_iload_n hx hb dX12_pairedWith_16 rfl (lv_at hl 2 rfl) ?_
  refine lv_ishl hx hb dX12_pairedWith_17 ?_
  refine lv_iconst (v := (-1)) hx hb dX12_pairedWith_18 (by decide) ?_
  refine lv_ixor hx hb dX12_pairedWith_19 ?_
  refine lv_iand hx hb dX12_pairedWith_20 ?_
  obtain ⟨b3, h⟩ := gd_e h
  refine h_iald C hH (jM_43 hW).1 (jM_43 hW).2.1 b3 dX12_pairedWith_21 ?_
  refine lv_iadd hx hb dX12_pairedWith_22 ?_
  exact h_iret C hr hk hH hS rfl (by cases h; rfl) dX12_pairedWith_23
theorem c_X12_pairedWith {l : Launch} {ω : WW} {x1 : Int32} {x2 : Int32} {x3 : Int32} (hW : FWM ω) {μ : Mem} {rr : Int32} (h : fX12_pairedWith x1 x2 x3 μ = some rr) : Con l yX12_pairedWith cX12_pairedWith 4 (some .int) 3 ω [.ref (wB ω + 0), .int x1, .int x2, .int x3] μ (some (.int rr)) μ :=
  con_of (by decide) (Nat.le_of_ble_eq_true rfl) (fun p e s m args below meth c ls C hr hk hl hH hS => wX12_pairedWith_e hW C hr hk hH hS (lv_sub hl [0, 1, 2, 3] rfl) h)
set_option maxHeartbeats 4000000 in
set_option maxRecDepth 100000 in
theorem wX12_fillsPaired_s49 (hW : FWM ω) (C : Cx ω p s m args c cX12_fillsPaired 5 RX12) (hr : meth.sig.returnType = none) (hk : meth.locks = false) {μo : Mem} {x1 : Int32} {x2 : Int32} {x3 : Int32} {x4 : Int32} {rec : Int32 → Mem → Option Mem} (hrec : ∀ (z4 : Int32) (ν : Mem) (H : Heap) (locs : List Loc) (ls : Array Slot), Hd ω ν H → FS ω s H locs → lv_has ls 5 [(0, .ref (wB ω + 0)), (1, .int x1), (2, .int x2), (3, .int x3), (4, .int z4)] → rec z4 ν = some μo → W p l e (rmd 4) s m args below meth c H locs 0 0 (MQ below (QR ω none μo) args s 0 0 (wA ω)) (F0 m 49 ls [])) {K : Mem → Option Mem} (hK : ∀ (ν : Mem) (H : Heap) (locs : List Loc) (ls : Array Slot), Hd ω ν H → FS ω s H locs → lv_has ls 5 [(0, .ref (wB ω + 0)), (1, .int x1)] → K ν = some μo → W p l e (rmd 4) s m args below meth c H locs 0 0 (MQ below (QR ω none μo) args s 0 0 (wA ω)) (F0 m 105 ls [])) {μ : Mem} {H : Heap} {locs : List Loc} {ls : Array Slot} (hH : Hd ω μ H) (hS : FS ω s H locs) (hl : lv_has ls 5 [(0, .ref (wB ω + 0)), (1, .int x1), (2, .int x2), (3, .int x3), (4, .int x4)]) (h : fX12_fillsPaired_s49 rec K x1 x2 x3 x4 μ = some μo) : W p l e (rmd 4) s m args below meth c H locs 0 0 (MQ below (QR ω none μo) args s 0 0 (wA ω)) (F0 m 49 ls []) := by
  have hx := C.1
  have hb := C.2.1
  unfold fX12_fillsPaired_s49 at h
  refine lv_iload hx hb dX12_fillsPaired_49 (lv_at hl 4 rfl) ?_
  refine lv_aload_n hx hb dX12_fillsPaired_51 rfl (lv_at hl 0 rfl) ?_
  obtain ⟨r16, e15, h⟩ := b1_e h
  refine cVi (as := []) (rest := [.int x4]) (c_X12_many hW e15) C hl.1 hH hS rfl (jM_0 hW) rfl wd_31 wd_1182 mw_X12_many wd_1180 rfl (rm_ok (by decide) (by decide)) (Nat.le_of_ble_eq_true rfl) ⟨Nat.zero_le _, Nat.zero_le _⟩ (by decide) dX12_fillsPaired_52 (fun H locs hH hS => ?_)
  refine lv_icmp_ge (tgt := 105) hx hb dX12_fillsPaired_55 (by decide) (fun hc => ?_) (fun hc => ?_)
  · have h := ite_t hc h
    exact hK _ H locs ls hH hS (lv_sub hl [0, 1] rfl) h
  · have h := ite_f hc h
    refine lv_iload_n hx hb dX12_fillsPaired_58 rfl (lv_at hl 3 rfl) ?_
    refine lv_iload hx hb dX12_fillsPaired_59 (lv_at hl 4 rfl) ?_
    refine lv_ishr hx hb dX12_fillsPaired_61 ?_
    refine lv_iconst (v := 1) hx hb dX12_fillsPaired_62 (by decide) ?_
    refine lv_iand hx hb dX12_fillsPaired_63 ?_
    refine lv_iconst (v := 1) hx hb dX12_fillsPaired_64 (by decide) ?_
    refine lv_icmp_ne (tgt := 99) hx hb dX12_fillsPaired_65 (by decide) (fun hc => ?_) (fun hc => ?_)
    · have h := ite_f hc h
      refine lv_iinc (v := x4 + 1) (lv' := [(4, .int (x4 + 1)), (0, .ref (wB ω + 0)), (1, .int x1), (2, .int x2), (3, .int x3)]) hx hb dX12_fillsPaired_99 hl (k := 4) rfl rfl (by decide) rfl (fun ls hl => ?_)
      refine lv_goto (tgt := 49) hx hb dX12_fillsPaired_102 (by decide) ?_
      exact hrec _ _ H locs ls hH hS (lv_sub hl [1, 2, 3, 4, 0] rfl) h
    · have h := ite_t hc h
      refine lv_aload_n hx hb dX12_fillsPaired_68 rfl (lv_at hl 0 rfl) ?_
      refine lv_iload_n hx hb dX12_fillsPaired_69 rfl (lv_at hl 2 rfl) ?_
      refine lv_iload hx hb dX12_fillsPaired_70 (lv_at hl 4 rfl) ?_
      refine lv_iload_n hx hb dX12_fillsPaired_72 rfl (lv_at hl 3 rfl) ?_
      obtain ⟨r18, e17, h⟩ := b1_e h
      refine cVi (as := [.int x2, .int x4, .int x3]) (rest := []) (c_X12_pairedWith hW e17) C hl.1 hH hS rfl (jM_0 hW) rfl wd_91 wd_1782 mw_X12_pairedWith wd_1780 rfl (rm_ok (by decide) (by decide)) (Nat.le_of_ble_eq_true rfl) ⟨Nat.zero_le _, Nat.zero_le _⟩ (by decide) dX12_fillsPaired_73 (fun H locs hH hS => ?_)
      refine lv_aload_n hx hb dX12_fillsPaired_76 rfl (lv_at hl 0 rfl) ?_
      refine g_1249 (i := 43) C hH (jM_0 hW) rfl dX12_fillsPaired_77 ?_
      refine lv_iload_n hx hb dX12_fillsPaired_80 rfl (lv_at hl 1 rfl) ?_
      obtain ⟨b19, h⟩ := gd_e h
      refine h_iald C hH (jM_43 hW).1 (jM_43 hW).2.1 b19 dX12_fillsPaired_81 ?_
      refine lv_icmp_ge (tgt := 99) hx hb dX12_fillsPaired_82 (by decide) (fun hc => ?_) (fun hc => ?_)
      · have h := ite_t hc h
        refine lv_iinc (v := x4 + 1) (lv' := [(4, .int (x4 + 1)), (0, .ref (wB ω + 0)), (1, .int x1), (2, .int x2), (3, .int x3)]) hx hb dX12_fillsPaired_99 hl (k := 4) rfl rfl (by decide) rfl (fun ls hl => ?_)
        refine lv_goto (tgt := 49) hx hb dX12_fillsPaired_102 (by decide) ?_
        exact hrec _ _ H locs ls hH hS (lv_sub hl [1, 2, 3, 4, 0] rfl) h
      · have h := ite_f hc h
        refine lv_aload_n hx hb dX12_fillsPaired_85 rfl (lv_at hl 0 rfl) ?_
        refine g_1249 (i := 43) C hH (jM_0 hW) rfl dX12_fillsPaired_86 ?_
        refine lv_iload_n hx hb dX12_fillsPaired_89 rfl (lv_at hl 1 rfl) ?_
        refine lv_aload_n hx hb dX12_fillsPaired_90 rfl (lv_at hl 0 rfl) ?_
        refine lv_iload_n hx hb dX12_fillsPaired_91 rfl (lv_at hl 2 rfl) ?_
        refine lv_iload hx hb dX12_fillsPaired_92 (lv_at hl 4 rfl) ?_
        refine lv_iload_n hx hb dX12_fillsPaired_94 rfl (lv_at hl 3 rfl) ?_
        obtain ⟨r21, e20, h⟩ := b1_e h
        refine cVi (as := [.int x2, .int x4, .int x3]) (rest := [.int x1, .ref (wB ω + 43)]) (c_X12_pairedWith hW e20) C hl.1 hH hS rfl (jM_0 hW) rfl wd_91 wd_1782 mw_X12_pairedWith wd_1780 rfl (rm_ok (by decide) (by decide)) (Nat.le_of_ble_eq_true rfl) ⟨Nat.zero_le _, Nat.zero_le _⟩ (by decide) dX12_fillsPaired_95 (fun H locs hH hS => ?_)
        obtain ⟨b22, h⟩ := gd_e h
        obtain ⟨μ23, e24, h⟩ := bd_e h
        refine h_iast C hH hS (jM_43 hW).1 (jM_43 hW).2.1 b22 dX12_fillsPaired_98 (fun H locs hH hS => ?_)
        have hH := Hd.to e24 hH
        refine lv_iinc (v := x4 + 1) (lv' := [(4, .int (x4 + 1)), (0, .ref (wB ω + 0)), (1, .int x1), (2, .int x2), (3, .int x3)]) hx hb dX12_fillsPaired_99 hl (k := 4) rfl rfl (by decide) rfl (fun ls hl => ?_)
        refine lv_goto (tgt := 49) hx hb dX12_fillsPaired_102 (by decide) ?_
        exact hrec _ _ H locs ls hH hS (lv_sub hl [1, 2, 3, 4, 0] rfl) h
theorem wX12_fillsPaired_l49 (hW : FWM ω) (C : Cx ω p s m args c cX12_fillsPaired 5 RX12) (hr : meth.sig.returnType = none) (hk : meth.locks = false) {μo : Mem} {x1 : Int32} {x2 : Int32} {x3 : Int32} {K : Mem → Option Mem} (hK : ∀ (ν : Mem) (H : Heap) (locs : List Loc) (ls : Array Slot), Hd ω ν H → FS ω s H locs → lv_has ls 5 [(0, .ref (wB ω + 0)), (1, .int x1)] → K ν = some μo → W p l e (rmd 4) s m args below meth c H locs 0 0 (MQ below (QR ω none μo) args s 0 0 (wA ω)) (F0 m 105 ls [])) : ∀ (n : Nat) (x4 : Int32) (μ : Mem) (H : Heap) (locs : List Loc) (ls : Array Slot), Hd ω μ H → FS ω s H locs → lv_has ls 5 [(0, .ref (wB ω + 0)), (1, .int x1), (2, .int x2), (3, .int x3), (4, .int x4)] → fX12_fillsPaired_l49 K x1 x2 x3 n x4 μ = some μo → W p l e (rmd 4) s m args below meth c H locs 0 0 (MQ below (QR ω none μo) args s 0 0 (wA ω)) (F0 m 49 ls []) := by
  intro n
  induction n with
  | zero => intro x4 μ H locs ls hH hS hl h; cases h
  | succ n ih => intro x4 μ H locs ls hH hS hl h; exact wX12_fillsPaired_s49 hW C hr hk ih hK hH hS hl h
set_option maxHeartbeats 4000000 in
set_option maxRecDepth 100000 in
theorem wX12_fillsPaired_s9 (hW : FWM ω) (C : Cx ω p s m args c cX12_fillsPaired 5 RX12) (hr : meth.sig.returnType = none) (hk : meth.locks = false) {μo : Mem} {x1 : Int32} {rec : Int32 → Mem → Option Mem} (hrec : ∀ (z1 : Int32) (ν : Mem) (H : Heap) (locs : List Loc) (ls : Array Slot), Hd ω ν H → FS ω s H locs → lv_has ls 5 [(0, .ref (wB ω + 0)), (1, .int z1)] → rec z1 ν = some μo → W p l e (rmd 4) s m args below meth c H locs 0 0 (MQ below (QR ω none μo) args s 0 0 (wA ω)) (F0 m 9 ls [])) {μ : Mem} {H : Heap} {locs : List Loc} {ls : Array Slot} (hH : Hd ω μ H) (hS : FS ω s H locs) (hl : lv_has ls 5 [(0, .ref (wB ω + 0)), (1, .int x1)]) (h : fX12_fillsPaired_s9 rec x1 μ = some μo) : W p l e (rmd 4) s m args below meth c H locs 0 0 (MQ below (QR ω none μo) args s 0 0 (wA ω)) (F0 m 9 ls []) := by
  have hx := C.1
  have hb := C.2.1
  unfold fX12_fillsPaired_s9 at h
  refine lv_iload_n hx hb dX12_fillsPaired_9 rfl (lv_at hl 1 rfl) ?_
  refine lv_iconst (v := 1) hx hb dX12_fillsPaired_10 (by decide) ?_
  refine lv_aload_n hx hb dX12_fillsPaired_11 rfl (lv_at hl 0 rfl) ?_
  obtain ⟨r4, e3, h⟩ := b1_e h
  refine cVi (as := []) (rest := [.int 1, .int x1]) (c_X12_many hW e3) C hl.1 hH hS rfl (jM_0 hW) rfl wd_31 wd_1182 mw_X12_many wd_1180 rfl (rm_ok (by decide) (by decide)) (Nat.le_of_ble_eq_true rfl) ⟨Nat.zero_le _, Nat.zero_le _⟩ (by decide) dX12_fillsPaired_12 (fun H locs hH hS => ?_)
  refine lv_ishl hx hb dX12_fillsPaired_15 ?_
  refine lv_icmp_ge (tgt := 111) hx hb dX12_fillsPaired_16 (by decide) (fun hc => ?_) (fun hc => ?_)
  · have h := ite_t hc h
    exact h_vret C hr hk hH hS (by cases h; rfl) dX12_fillsPaired_111
  · have h := ite_f hc h
    refine lv_iload_n hx hb dX12_fillsPaired_19 rfl (lv_at hl 1 rfl) ?_
    obtain ⟨r6, e5, h⟩ := b1_e h
    refine cSi (as := [.int x1]) (rest := []) (c_X12_lowestOf e5) C hl.1 hH hS rfl wd_1778 mw_X12_lowestOf wd_1777 rfl (rm_ok (by decide) (by decide)) (Nat.le_of_ble_eq_true rfl) ⟨Nat.zero_le _, Nat.zero_le _⟩ dX12_fillsPaired_20 (fun H locs hH hS => ?_)
    refine lv_istore_n (lv' := [(2, .int r6), (0, .ref (wB ω + 0)), (1, .int x1)]) hx hb dX12_fillsPaired_23 rfl hl (by decide) rfl (fun ls hl => ?_)
    refine lv_iload_n hx hb dX12_fillsPaired_24 rfl (lv_at hl 2 rfl) ?_
    refine lv_iconst (v := 1) hx hb dX12_fillsPaired_25 (by decide) ?_
    refine lv_iload_n hx hb dX12_fillsPaired_26 rfl (lv_at hl 0 rfl) ?_
    refine lv_ishl hx hb dX12_fillsPaired_27 ?_
    refine lv_iconst (v := (-1)) hx hb dX12_fillsPaired_28 (by decide) ?_
    refine lv_ixor hx hb dX12_fillsPaired_29 ?_
    refine lv_iand hx hb dX12_fillsPaired_30 ?_
    obtain ⟨y7, e8, h⟩ := bd_e h
    refine h_topi e8 ?_
    refine lv_istore_n (lv' := [(3, .int y7), (2, .int r6), (0, .ref (wB ω + 0)), (1, .int x1)]) hx hb dX12_fillsPaired_31 rfl hl (by decide) rfl (fun ls hl => ?_)
    refine lv_aload_n hx hb dX12_fillsPaired_32 rfl (lv_at hl 2 rfl) ?_
    refine g_1249 (i := 43) C hH (jM_0 hW) rfl dX12_fillsPaired_33 ?_
    refine lv_iload_n hx hb dX12_fillsPaired_36 rfl (lv_at hl 3 rfl) ?_
    refine lv_aload_n hx hb dX12_fillsPaired_37 rfl (lv_at hl 2 rfl) ?_
    refine g_1249 (i := 43) C hH (jM_0 hW) rfl dX12_fillsPaired_38 ?_
    refine lv_iload_n hx hb dX12_fillsPaired_41 rfl (lv_at hl 0 rfl) ?_
    obtain ⟨b9, h⟩ := gd_e h
    refine h_iald C hH (jM_43 hW).1 (jM_43 hW).2.1 b9 dX12_fillsPaired_42 ?_
    obtain ⟨b10, h⟩ := gd_e h
    obtain ⟨μ11, e12, h⟩ := bd_e h
    refine h_iast C hH hS (jM_43 hW).1 (jM_43 hW).2.1 b10 dX12_fillsPaired_43 (fun H locs hH hS => ?_)
    have hH := Hd.to e12 hH
    refine lv_iload_n hx hb dX12_fillsPaired_44 rfl (lv_at hl 1 rfl) ?_
    refine lv_iconst (v := 1) hx hb dX12_fillsPaired_45 (by decide) ?_
    refine lv_iadd hx hb dX12_fillsPaired_46 ?_
    obtain ⟨y13, e14, h⟩ := bd_e h
    refine h_topi e14 ?_
    refine lv_istore (lv' := [(4, .int y13), (3, .int y7), (2, .int r6), (0, .ref (wB ω + 0)), (1, .int x1)]) hx hb dX12_fillsPaired_47 hl (by decide) rfl (fun ls hl => ?_)
    refine wX12_fillsPaired_l49 hW C hr hk (fun μ25 H locs ls hH hS hl h => ?_) FU _ _ H locs ls hH hS (lv_sub hl [3, 4, 2, 1, 0] rfl) h
    refine lv_iinc (v := x1 + 1) (lv' := [(1, .int (x1 + 1)), (0, .ref (wB ω + 0))]) hx hb dX12_fillsPaired_105 hl (k := 1) rfl rfl (by decide) rfl (fun ls hl => ?_)
    refine lv_goto (tgt := 9) hx hb dX12_fillsPaired_108 (by decide) ?_
    exact hrec _ _ H locs ls hH hS (lv_sub hl [1, 0] rfl) h
theorem wX12_fillsPaired_l9 (hW : FWM ω) (C : Cx ω p s m args c cX12_fillsPaired 5 RX12) (hr : meth.sig.returnType = none) (hk : meth.locks = false) {μo : Mem} : ∀ (n : Nat) (x1 : Int32) (μ : Mem) (H : Heap) (locs : List Loc) (ls : Array Slot), Hd ω μ H → FS ω s H locs → lv_has ls 5 [(0, .ref (wB ω + 0)), (1, .int x1)] → fX12_fillsPaired_l9 n x1 μ = some μo → W p l e (rmd 4) s m args below meth c H locs 0 0 (MQ below (QR ω none μo) args s 0 0 (wA ω)) (F0 m 9 ls []) := by
  intro n
  induction n with
  | zero => intro x1 μ H locs ls hH hS hl h; cases h
  | succ n ih => intro x1 μ H locs ls hH hS hl h; exact wX12_fillsPaired_s9 hW C hr hk ih hH hS hl h
set_option maxHeartbeats 4000000 in
set_option maxRecDepth 100000 in
theorem wX12_fillsPaired_e (hW : FWM ω) (C : Cx ω p s m args c cX12_fillsPaired 5 RX12) (hr : meth.sig.returnType = none) (hk : meth.locks = false) {μo : Mem} {μ : Mem} {H : Heap} {locs : List Loc} {ls : Array Slot} (hH : Hd ω μ H) (hS : FS ω s H locs) (hl : lv_has ls 5 [(0, .ref (wB ω + 0))]) (h : fX12_fillsPaired μ = some μo) : W p l e (rmd 4) s m args below meth c H locs 0 0 (MQ below (QR ω none μo) args s 0 0 (wA ω)) (F0 m 0 ls []) := by
  have hx := C.1
  have hb := C.2.1
  unfold fX12_fillsPaired at h
  refine lv_aload_n hx hb dX12_fillsPaired_0 rfl (lv_at hl 0 rfl) ?_
  refine g_1249 (i := 43) C hH (jM_0 hW) rfl dX12_fillsPaired_1 ?_
  refine lv_iconst (v := 0) hx hb dX12_fillsPaired_4 (by decide) ?_
  refine lv_iconst (v := 0) hx hb dX12_fillsPaired_5 (by decide) ?_
  obtain ⟨μ1, e2, h⟩ := bd_e h
  refine h_iast C hH hS (jM_43 hW).1 (jM_43 hW).2.1 (by decide) dX12_fillsPaired_6 (fun H locs hH hS => ?_)
  have hH := Hd.to e2 hH
  refine lv_iconst (v := 1) hx hb dX12_fillsPaired_7 (by decide) ?_
  refine lv_istore_n (lv' := [(1, .int 1), (0, .ref (wB ω + 0))]) hx hb dX12_fillsPaired_8 rfl hl (by decide) rfl (fun ls hl => ?_)
  exact wX12_fillsPaired_l9 hW C hr hk FU _ _ H locs ls hH hS (lv_sub hl [1, 0] rfl) h
theorem c_X12_fillsPaired {l : Launch} {ω : WW} (hW : FWM ω) {μ : Mem} {μo : Mem} (h : fX12_fillsPaired μ = some μo) : Con l yX12_fillsPaired cX12_fillsPaired 5 none 4 ω [.ref (wB ω + 0)] μ none μo :=
  con_of (by decide) (Nat.le_of_ble_eq_true rfl) (fun p e s m args below meth c ls C hr hk hl hH hS => wX12_fillsPaired_e hW C hr hk hH hS (lv_sub hl [0] rfl) h)
set_option maxHeartbeats 4000000 in
set_option maxRecDepth 100000 in
theorem wX12_restWith_e (hW : FWM ω) (C : Cx ω p s m args c cX12_restWith 4 RX12) (hr : meth.sig.returnType = some .int) (hk : meth.locks = false) {rr : Int32} {μ : Mem} {x1 : Int32} {x2 : Int32} {x3 : Int32} {H : Heap} {locs : List Loc} {ls : Array Slot} (hH : Hd ω μ H) (hS : FS ω s H locs) (hl : lv_has ls 4 [(0, .ref (wB ω + 0)), (1, .int x1), (2, .int x2), (3, .int x3)]) (h : fX12_restWith x1 x2 x3 μ = some rr) : W p l e (rmd 3) s m args below meth c H locs 0 0 (MQ below (QR ω (some (.int rr)) μ) args s 0 0 (wA ω)) (F0 m 0 ls []) := by
  have hx := C.1
  have hb := C.2.1
  unfold fX12_restWith at h
  refine lv_aload_n hx hb dX12_restWith_0 rfl (lv_at hl 0 rfl) ?_
  refine lv_iload_n hx hb dX12_restWith_1 rfl (lv_at hl 2 rfl) ?_
  refine lv_iload_n hx hb dX12_restWith_2 rfl (lv_at hl 3 rfl) ?_
  obtain ⟨r2, e1, h⟩ := b1_e h
  refine cVi (as := [.int x2, .int x3]) (rest := []) (c_X12_farOf hW e1) C hl.1 hH hS rfl (jM_0 hW) rfl wd_84 wd_1716 mw_X12_farOf wd_1714 rfl (rm_ok (by decide) (by decide)) (Nat.le_of_ble_eq_true rfl) ⟨Nat.zero_le _, Nat.zero_le _⟩ (by decide) dX12_restWith_3 (fun H locs hH hS => ?_)
  refine lv_aload_n hx hb dX12_restWith_6 rfl (lv_at hl 0 rfl) ?_
  refine g_1245 (i := 39) C hH (jM_0 hW) rfl dX12_restWith_7 ?_
  refine lv_bipush (v := 6) hx hb dX12_restWith_10 (by decide) ?_
  refine lv_iload_n hx hb dX12_restWith_12 rfl (lv_at hl 1 rfl) ?_
  refine lv_iconst (v := 1) hx hb dX12_restWith_13 (by decide) ?_
  refine lv_iload_n hx hb dX12_restWith_14 rfl (lv_at hl 3 rfl) ?_
  refine lv_ishl hx hb dX12_restWith_15 ?_
  refine lv_ior hx hb dX12_restWith_16 ?_
  refine lv_imul hx hb dX12_restWith_17 ?_
  refine lv_iload_n hx hb dX12_restWith_18 rfl (lv_at hl 3 rfl) ?_
  refine lv_iadd hx hb dX12_restWith_19 ?_
  obtain ⟨b3, h⟩ := gd_e h
  refine h_iald C hH (jM_39 hW).1 (jM_39 hW).2.1 b3 dX12_restWith_20 ?_
  refine lv_iadd hx hb dX12_restWith_21 ?_
  exact h_iret C hr hk hH hS rfl (by cases h; rfl) dX12_restWith_22
theorem c_X12_restWith {l : Launch} {ω : WW} {x1 : Int32} {x2 : Int32} {x3 : Int32} (hW : FWM ω) {μ : Mem} {rr : Int32} (h : fX12_restWith x1 x2 x3 μ = some rr) : Con l yX12_restWith cX12_restWith 4 (some .int) 3 ω [.ref (wB ω + 0), .int x1, .int x2, .int x3] μ (some (.int rr)) μ :=
  con_of (by decide) (Nat.le_of_ble_eq_true rfl) (fun p e s m args below meth c ls C hr hk hl hH hS => wX12_restWith_e hW C hr hk hH hS (lv_sub hl [0, 1, 2, 3] rfl) h)
set_option maxHeartbeats 4000000 in
set_option maxRecDepth 100000 in
theorem wX12_fillsRest_s46 (hW : FWM ω) (C : Cx ω p s m args c cX12_fillsRest 5 RX12) (hr : meth.sig.returnType = none) (hk : meth.locks = false) {μo : Mem} {x1 : Int32} {x2 : Int32} {x3 : Int32} {x4 : Int32} {μ : Mem} {rec : Int32 → Int32 → Option Mem} (hrec : ∀ (z3 : Int32) (z4 : Int32) (H : Heap) (locs : List Loc) (ls : Array Slot), Hd ω μ H → FS ω s H locs → lv_has ls 5 [(0, .ref (wB ω + 0)), (1, .int x1), (2, .int x2), (3, .int z3), (4, .int z4)] → rec z3 z4 = some μo → W p l e (rmd 4) s m args below meth c H locs 0 0 (MQ below (QR ω none μo) args s 0 0 (wA ω)) (F0 m 46 ls [])) {K : Int32 → Option Mem} (hK : ∀ (z3 : Int32) (H : Heap) (locs : List Loc) (ls : Array Slot), Hd ω μ H → FS ω s H locs → lv_has ls 5 [(0, .ref (wB ω + 0)), (1, .int x1), (2, .int x2), (3, .int z3)] → K z3 = some μo → W p l e (rmd 4) s m args below meth c H locs 0 0 (MQ below (QR ω none μo) args s 0 0 (wA ω)) (F0 m 91 ls [])) {H : Heap} {locs : List Loc} {ls : Array Slot} (hH : Hd ω μ H) (hS : FS ω s H locs) (hl : lv_has ls 5 [(0, .ref (wB ω + 0)), (1, .int x1), (2, .int x2), (3, .int x3), (4, .int x4)]) (h : fX12_fillsRest_s46 rec K x1 x2 x3 x4 μ = some μo) : W p l e (rmd 4) s m args below meth c H locs 0 0 (MQ below (QR ω none μo) args s 0 0 (wA ω)) (F0 m 46 ls []) := by
  have hx := C.1
  have hb := C.2.1
  unfold fX12_fillsRest_s46 at h
  refine lv_iload hx hb dX12_fillsRest_46 (lv_at hl 4 rfl) ?_
  refine lv_aload_n hx hb dX12_fillsRest_48 rfl (lv_at hl 0 rfl) ?_
  obtain ⟨r10, e9, h⟩ := b1_e h
  refine cVi (as := []) (rest := [.int x4]) (c_X12_many hW e9) C hl.1 hH hS rfl (jM_0 hW) rfl wd_31 wd_1182 mw_X12_many wd_1180 rfl (rm_ok (by decide) (by decide)) (Nat.le_of_ble_eq_true rfl) ⟨Nat.zero_le _, Nat.zero_le _⟩ (by decide) dX12_fillsRest_49 (fun H locs hH hS => ?_)
  refine lv_icmp_ge (tgt := 91) hx hb dX12_fillsRest_52 (by decide) (fun hc => ?_) (fun hc => ?_)
  · have h := ite_t hc h
    exact hK _ H locs ls hH hS (lv_sub hl [0, 1, 2, 3] rfl) h
  · have h := ite_f hc h
    refine lv_iload_n hx hb dX12_fillsRest_55 rfl (lv_at hl 1 rfl) ?_
    refine lv_iload hx hb dX12_fillsRest_56 (lv_at hl 4 rfl) ?_
    refine lv_ishr hx hb dX12_fillsRest_58 ?_
    refine lv_iconst (v := 1) hx hb dX12_fillsRest_59 (by decide) ?_
    refine lv_iand hx hb dX12_fillsRest_60 ?_
    refine lv_if_ne (tgt := 85) hx hb dX12_fillsRest_61 (by decide) (fun hc => ?_) (fun hc => ?_)
    · have h := ite_f hc h
      refine lv_iinc (v := x4 + 1) (lv' := [(4, .int (x4 + 1)), (0, .ref (wB ω + 0)), (1, .int x1), (2, .int x2), (3, .int x3)]) hx hb dX12_fillsRest_85 hl (k := 4) rfl rfl (by decide) rfl (fun ls hl => ?_)
      refine lv_goto (tgt := 46) hx hb dX12_fillsRest_88 (by decide) ?_
      exact hrec _ _ H locs ls hH hS (lv_sub hl [1, 2, 3, 4, 0] rfl) h
    · have h := ite_t hc h
      refine lv_aload_n hx hb dX12_fillsRest_64 rfl (lv_at hl 0 rfl) ?_
      refine lv_iload_n hx hb dX12_fillsRest_65 rfl (lv_at hl 1 rfl) ?_
      refine lv_iload_n hx hb dX12_fillsRest_66 rfl (lv_at hl 2 rfl) ?_
      refine lv_iload hx hb dX12_fillsRest_67 (lv_at hl 4 rfl) ?_
      obtain ⟨r12, e11, h⟩ := b1_e h
      refine cVi (as := [.int x1, .int x2, .int x4]) (rest := []) (c_X12_restWith hW e11) C hl.1 hH hS rfl (jM_0 hW) rfl wd_86 wd_1731 mw_X12_restWith wd_1729 rfl (rm_ok (by decide) (by decide)) (Nat.le_of_ble_eq_true rfl) ⟨Nat.zero_le _, Nat.zero_le _⟩ (by decide) dX12_fillsRest_69 (fun H locs hH hS => ?_)
      refine lv_iload_n hx hb dX12_fillsRest_72 rfl (lv_at hl 3 rfl) ?_
      refine lv_icmp_ge (tgt := 85) hx hb dX12_fillsRest_73 (by decide) (fun hc => ?_) (fun hc => ?_)
      · have h := ite_t hc h
        refine lv_iinc (v := x4 + 1) (lv' := [(4, .int (x4 + 1)), (0, .ref (wB ω + 0)), (1, .int x1), (2, .int x2), (3, .int x3)]) hx hb dX12_fillsRest_85 hl (k := 4) rfl rfl (by decide) rfl (fun ls hl => ?_)
        refine lv_goto (tgt := 46) hx hb dX12_fillsRest_88 (by decide) ?_
        exact hrec _ _ H locs ls hH hS (lv_sub hl [1, 2, 3, 4, 0] rfl) h
      · have h := ite_f hc h
        refine lv_aload_n hx hb dX12_fillsRest_76 rfl (lv_at hl 0 rfl) ?_
        refine lv_iload_n hx hb dX12_fillsRest_77 rfl (lv_at hl 1 rfl) ?_
        refine lv_iload_n hx hb dX12_fillsRest_78 rfl (lv_at hl 2 rfl) ?_
        refine lv_iload hx hb dX12_fillsRest_79 (lv_at hl 4 rfl) ?_
        obtain ⟨r14, e13, h⟩ := b1_e h
        refine cVi (as := [.int x1, .int x2, .int x4]) (rest := []) (c_X12_restWith hW e13) C hl.1 hH hS rfl (jM_0 hW) rfl wd_86 wd_1731 mw_X12_restWith wd_1729 rfl (rm_ok (by decide) (by decide)) (Nat.le_of_ble_eq_true rfl) ⟨Nat.zero_le _, Nat.zero_le _⟩ (by decide) dX12_fillsRest_81 (fun H locs hH hS => ?_)
        refine lv_istore_n (lv' := [(3, .int r14), (0, .ref (wB ω + 0)), (1, .int x1), (2, .int x2), (4, .int x4)]) hx hb dX12_fillsRest_84 rfl hl (by decide) rfl (fun ls hl => ?_)
        refine lv_iinc (v := x4 + 1) (lv' := [(4, .int (x4 + 1)), (3, .int r14), (0, .ref (wB ω + 0)), (1, .int x1), (2, .int x2)]) hx hb dX12_fillsRest_85 hl (k := 4) rfl rfl (by decide) rfl (fun ls hl => ?_)
        refine lv_goto (tgt := 46) hx hb dX12_fillsRest_88 (by decide) ?_
        exact hrec _ _ H locs ls hH hS (lv_sub hl [2, 3, 4, 1, 0] rfl) h
theorem wX12_fillsRest_l46 (hW : FWM ω) (C : Cx ω p s m args c cX12_fillsRest 5 RX12) (hr : meth.sig.returnType = none) (hk : meth.locks = false) {μo : Mem} {x1 : Int32} {x2 : Int32} {μ : Mem} {K : Int32 → Option Mem} (hK : ∀ (z3 : Int32) (H : Heap) (locs : List Loc) (ls : Array Slot), Hd ω μ H → FS ω s H locs → lv_has ls 5 [(0, .ref (wB ω + 0)), (1, .int x1), (2, .int x2), (3, .int z3)] → K z3 = some μo → W p l e (rmd 4) s m args below meth c H locs 0 0 (MQ below (QR ω none μo) args s 0 0 (wA ω)) (F0 m 91 ls [])) : ∀ (n : Nat) (x3 : Int32) (x4 : Int32) (H : Heap) (locs : List Loc) (ls : Array Slot), Hd ω μ H → FS ω s H locs → lv_has ls 5 [(0, .ref (wB ω + 0)), (1, .int x1), (2, .int x2), (3, .int x3), (4, .int x4)] → fX12_fillsRest_l46 K x1 x2 μ n x3 x4 = some μo → W p l e (rmd 4) s m args below meth c H locs 0 0 (MQ below (QR ω none μo) args s 0 0 (wA ω)) (F0 m 46 ls []) := by
  intro n
  induction n with
  | zero => intro x3 x4 H locs ls hH hS hl h; cases h
  | succ n ih => intro x3 x4 H locs ls hH hS hl h; exact wX12_fillsRest_s46 hW C hr hk ih hK hH hS hl h
set_option maxHeartbeats 4000000 in
set_option maxRecDepth 100000 in
theorem wX12_fillsRest_b42 (hW : FWM ω) (C : Cx ω p s m args c cX12_fillsRest 5 RX12) (hr : meth.sig.returnType = none) (hk : meth.locks = false) {μo : Mem} {x1 : Int32} {x2 : Int32} {rec : Int32 → Mem → Option Mem} (hrec : ∀ (z2 : Int32) (ν : Mem) (H : Heap) (locs : List Loc) (ls : Array Slot), Hd ω ν H → FS ω s H locs → lv_has ls 5 [(0, .ref (wB ω + 0)), (1, .int x1), (2, .int z2)] → rec z2 ν = some μo → W p l e (rmd 4) s m args below meth c H locs 0 0 (MQ below (QR ω none μo) args s 0 0 (wA ω)) (F0 m 15 ls [])) {K : Mem → Option Mem} (hK : ∀ (ν : Mem) (H : Heap) (locs : List Loc) (ls : Array Slot), Hd ω ν H → FS ω s H locs → lv_has ls 5 [(0, .ref (wB ω + 0)), (1, .int x1)] → K ν = some μo → W p l e (rmd 4) s m args below meth c H locs 0 0 (MQ below (QR ω none μo) args s 0 0 (wA ω)) (F0 m 109 ls [])) {k0 : Int32} {μ : Mem} {H : Heap} {locs : List Loc} {ls : Array Slot} (hH : Hd ω μ H) (hS : FS ω s H locs) (hl : lv_has ls 5 [(0, .ref (wB ω + 0)), (1, .int x1), (2, .int x2)]) (h : fX12_fillsRest_b42 rec K x1 x2 k0 μ = some μo) : W p l e (rmd 4) s m args below meth c H locs 0 0 (MQ below (QR ω none μo) args s 0 0 (wA ω)) (F0 m 42 ls [.int k0]) := by
  have hx := C.1
  have hb := C.2.1
  unfold fX12_fillsRest_b42 at h
  refine lv_istore_n (lv' := [(3, .int k0), (0, .ref (wB ω + 0)), (1, .int x1), (2, .int x2)]) hx hb dX12_fillsRest_42 rfl hl (by decide) rfl (fun ls hl => ?_)
  refine lv_iconst (v := 0) hx hb dX12_fillsRest_43 (by decide) ?_
  refine lv_istore (lv' := [(4, .int 0), (3, .int k0), (0, .ref (wB ω + 0)), (1, .int x1), (2, .int x2)]) hx hb dX12_fillsRest_44 hl (by decide) rfl (fun ls hl => ?_)
  refine wX12_fillsRest_l46 hW C hr hk (fun y15 H locs ls hH hS hl h => ?_) FU _ _ H locs ls hH hS (lv_sub hl [2, 3, 4, 1, 0] rfl) h
  refine lv_aload_n hx hb dX12_fillsRest_91 rfl (lv_at hl 0 rfl) ?_
  refine g_1245 (i := 39) C hH (jM_0 hW) rfl dX12_fillsRest_92 ?_
  refine lv_bipush (v := 6) hx hb dX12_fillsRest_95 (by decide) ?_
  refine lv_iload_n hx hb dX12_fillsRest_97 rfl (lv_at hl 1 rfl) ?_
  refine lv_imul hx hb dX12_fillsRest_98 ?_
  refine lv_iload_n hx hb dX12_fillsRest_99 rfl (lv_at hl 2 rfl) ?_
  refine lv_iadd hx hb dX12_fillsRest_100 ?_
  refine lv_iload_n hx hb dX12_fillsRest_101 rfl (lv_at hl 3 rfl) ?_
  obtain ⟨b16, h⟩ := gd_e h
  obtain ⟨μ17, e18, h⟩ := bd_e h
  refine h_iast C hH hS (jM_39 hW).1 (jM_39 hW).2.1 b16 dX12_fillsRest_102 (fun H locs hH hS => ?_)
  have hH := Hd.to e18 hH
  refine lv_iinc (v := x2 + 1) (lv' := [(2, .int (x2 + 1)), (0, .ref (wB ω + 0)), (1, .int x1), (3, .int y15)]) hx hb dX12_fillsRest_103 hl (k := 2) rfl rfl (by decide) rfl (fun ls hl => ?_)
  refine lv_goto (tgt := 15) hx hb dX12_fillsRest_106 (by decide) ?_
  exact hrec _ _ H locs ls hH hS (lv_sub hl [1, 2, 0] rfl) h
set_option maxHeartbeats 4000000 in
set_option maxRecDepth 100000 in
theorem wX12_fillsRest_s15 (hW : FWM ω) (C : Cx ω p s m args c cX12_fillsRest 5 RX12) (hr : meth.sig.returnType = none) (hk : meth.locks = false) {μo : Mem} {x1 : Int32} {x2 : Int32} {rec : Int32 → Mem → Option Mem} (hrec : ∀ (z2 : Int32) (ν : Mem) (H : Heap) (locs : List Loc) (ls : Array Slot), Hd ω ν H → FS ω s H locs → lv_has ls 5 [(0, .ref (wB ω + 0)), (1, .int x1), (2, .int z2)] → rec z2 ν = some μo → W p l e (rmd 4) s m args below meth c H locs 0 0 (MQ below (QR ω none μo) args s 0 0 (wA ω)) (F0 m 15 ls [])) {K : Mem → Option Mem} (hK : ∀ (ν : Mem) (H : Heap) (locs : List Loc) (ls : Array Slot), Hd ω ν H → FS ω s H locs → lv_has ls 5 [(0, .ref (wB ω + 0)), (1, .int x1)] → K ν = some μo → W p l e (rmd 4) s m args below meth c H locs 0 0 (MQ below (QR ω none μo) args s 0 0 (wA ω)) (F0 m 109 ls [])) {μ : Mem} {H : Heap} {locs : List Loc} {ls : Array Slot} (hH : Hd ω μ H) (hS : FS ω s H locs) (hl : lv_has ls 5 [(0, .ref (wB ω + 0)), (1, .int x1), (2, .int x2)]) (h : fX12_fillsRest_s15 rec K x1 x2 μ = some μo) : W p l e (rmd 4) s m args below meth c H locs 0 0 (MQ below (QR ω none μo) args s 0 0 (wA ω)) (F0 m 15 ls []) := by
  have hx := C.1
  have hb := C.2.1
  unfold fX12_fillsRest_s15 at h
  refine lv_iload_n hx hb dX12_fillsRest_15 rfl (lv_at hl 2 rfl) ?_
  refine lv_aload_n hx hb dX12_fillsRest_16 rfl (lv_at hl 0 rfl) ?_
  obtain ⟨r6, e5, h⟩ := b1_e h
  refine cVi (as := []) (rest := [.int x2]) (c_X12_many hW e5) C hl.1 hH hS rfl (jM_0 hW) rfl wd_31 wd_1182 mw_X12_many wd_1180 rfl (rm_ok (by decide) (by decide)) (Nat.le_of_ble_eq_true rfl) ⟨Nat.zero_le _, Nat.zero_le _⟩ (by decide) dX12_fillsRest_17 (fun H locs hH hS => ?_)
  refine lv_icmp_ge (tgt := 109) hx hb dX12_fillsRest_20 (by decide) (fun hc => ?_) (fun hc => ?_)
  · have h := ite_t hc h
    exact hK _ H locs ls hH hS (lv_sub hl [0, 1] rfl) h
  · have h := ite_f hc h
    refine lv_iload_n hx hb dX12_fillsRest_23 rfl (lv_at hl 1 rfl) ?_
    refine lv_iconst (v := 1) hx hb dX12_fillsRest_24 (by decide) ?_
    refine lv_aload_n hx hb dX12_fillsRest_25 rfl (lv_at hl 0 rfl) ?_
    obtain ⟨r8, e7, h⟩ := b1_e h
    refine cVi (as := []) (rest := [.int 1, .int x1]) (c_X12_many hW e7) C hl.1 hH hS rfl (jM_0 hW) rfl wd_31 wd_1182 mw_X12_many wd_1180 rfl (rm_ok (by decide) (by decide)) (Nat.le_of_ble_eq_true rfl) ⟨Nat.zero_le _, Nat.zero_le _⟩ (by decide) dX12_fillsRest_26 (fun H locs hH hS => ?_)
    refine lv_ishl hx hb dX12_fillsRest_29 ?_
    refine lv_iconst (v := 1) hx hb dX12_fillsRest_30 (by decide) ?_
    refine lv_isub hx hb dX12_fillsRest_31 ?_
    refine lv_icmp_ne (tgt := 39) hx hb dX12_fillsRest_32 (by decide) (fun hc => ?_) (fun hc => ?_)
    · have h := ite_f hc h
      refine lv_sipush (v := 10000) hx hb dX12_fillsRest_39 (by decide) ?_
      exact wX12_fillsRest_b42 hW C hr hk hrec hK hH hS hl h
    · have h := ite_t hc h
      refine lv_iconst (v := 0) hx hb dX12_fillsRest_35 (by decide) ?_
      refine lv_goto (tgt := 42) hx hb dX12_fillsRest_36 (by decide) ?_
      exact wX12_fillsRest_b42 hW C hr hk hrec hK hH hS hl h
theorem wX12_fillsRest_l15 (hW : FWM ω) (C : Cx ω p s m args c cX12_fillsRest 5 RX12) (hr : meth.sig.returnType = none) (hk : meth.locks = false) {μo : Mem} {x1 : Int32} {K : Mem → Option Mem} (hK : ∀ (ν : Mem) (H : Heap) (locs : List Loc) (ls : Array Slot), Hd ω ν H → FS ω s H locs → lv_has ls 5 [(0, .ref (wB ω + 0)), (1, .int x1)] → K ν = some μo → W p l e (rmd 4) s m args below meth c H locs 0 0 (MQ below (QR ω none μo) args s 0 0 (wA ω)) (F0 m 109 ls [])) : ∀ (n : Nat) (x2 : Int32) (μ : Mem) (H : Heap) (locs : List Loc) (ls : Array Slot), Hd ω μ H → FS ω s H locs → lv_has ls 5 [(0, .ref (wB ω + 0)), (1, .int x1), (2, .int x2)] → fX12_fillsRest_l15 K x1 n x2 μ = some μo → W p l e (rmd 4) s m args below meth c H locs 0 0 (MQ below (QR ω none μo) args s 0 0 (wA ω)) (F0 m 15 ls []) := by
  intro n
  induction n with
  | zero => intro x2 μ H locs ls hH hS hl h; cases h
  | succ n ih => intro x2 μ H locs ls hH hS hl h; exact wX12_fillsRest_s15 hW C hr hk ih hK hH hS hl h
set_option maxHeartbeats 4000000 in
set_option maxRecDepth 100000 in
theorem wX12_fillsRest_s9 (hW : FWM ω) (C : Cx ω p s m args c cX12_fillsRest 5 RX12) (hr : meth.sig.returnType = none) (hk : meth.locks = false) {μo : Mem} {x1 : Int32} {rec : Int32 → Mem → Option Mem} (hrec : ∀ (z1 : Int32) (ν : Mem) (H : Heap) (locs : List Loc) (ls : Array Slot), Hd ω ν H → FS ω s H locs → lv_has ls 5 [(0, .ref (wB ω + 0)), (1, .int z1)] → rec z1 ν = some μo → W p l e (rmd 4) s m args below meth c H locs 0 0 (MQ below (QR ω none μo) args s 0 0 (wA ω)) (F0 m 9 ls [])) {μ : Mem} {H : Heap} {locs : List Loc} {ls : Array Slot} (hH : Hd ω μ H) (hS : FS ω s H locs) (hl : lv_has ls 5 [(0, .ref (wB ω + 0)), (1, .int x1)]) (h : fX12_fillsRest_s9 rec x1 μ = some μo) : W p l e (rmd 4) s m args below meth c H locs 0 0 (MQ below (QR ω none μo) args s 0 0 (wA ω)) (F0 m 9 ls []) := by
  have hx := C.1
  have hb := C.2.1
  unfold fX12_fillsRest_s9 at h
  refine lv_iload_n hx hb dX12_fillsRest_9 rfl (lv_at hl 1 rfl) ?_
  refine lv_if_lt (tgt := 115) hx hb dX12_fillsRest_10 (by decide) (fun hc => ?_) (fun hc => ?_)
  · have h := ite_t hc h
    exact h_vret C hr hk hH hS (by cases h; rfl) dX12_fillsRest_115
  · have h := ite_f hc h
    refine lv_iconst (v := 0) hx hb dX12_fillsRest_13 (by decide) ?_
    refine lv_istore_n (lv' := [(2, .int 0), (0, .ref (wB ω + 0)), (1, .int x1)]) hx hb dX12_fillsRest_14 rfl hl (by decide) rfl (fun ls hl => ?_)
    refine wX12_fillsRest_l15 hW C hr hk (fun μ19 H locs ls hH hS hl h => ?_) FU _ _ H locs ls hH hS (lv_sub hl [1, 2, 0] rfl) h
    refine lv_iinc (v := x1 + (-1)) (lv' := [(1, .int (x1 + (-1))), (0, .ref (wB ω + 0))]) hx hb dX12_fillsRest_109 hl (k := 1) rfl rfl (by decide) rfl (fun ls hl => ?_)
    refine lv_goto (tgt := 9) hx hb dX12_fillsRest_112 (by decide) ?_
    exact hrec _ _ H locs ls hH hS (lv_sub hl [1, 0] rfl) h
theorem wX12_fillsRest_l9 (hW : FWM ω) (C : Cx ω p s m args c cX12_fillsRest 5 RX12) (hr : meth.sig.returnType = none) (hk : meth.locks = false) {μo : Mem} : ∀ (n : Nat) (x1 : Int32) (μ : Mem) (H : Heap) (locs : List Loc) (ls : Array Slot), Hd ω μ H → FS ω s H locs → lv_has ls 5 [(0, .ref (wB ω + 0)), (1, .int x1)] → fX12_fillsRest_l9 n x1 μ = some μo → W p l e (rmd 4) s m args below meth c H locs 0 0 (MQ below (QR ω none μo) args s 0 0 (wA ω)) (F0 m 9 ls []) := by
  intro n
  induction n with
  | zero => intro x1 μ H locs ls hH hS hl h; cases h
  | succ n ih => intro x1 μ H locs ls hH hS hl h; exact wX12_fillsRest_s9 hW C hr hk ih hH hS hl h
set_option maxHeartbeats 4000000 in
set_option maxRecDepth 100000 in
theorem wX12_fillsRest_e (hW : FWM ω) (C : Cx ω p s m args c cX12_fillsRest 5 RX12) (hr : meth.sig.returnType = none) (hk : meth.locks = false) {μo : Mem} {μ : Mem} {H : Heap} {locs : List Loc} {ls : Array Slot} (hH : Hd ω μ H) (hS : FS ω s H locs) (hl : lv_has ls 5 [(0, .ref (wB ω + 0))]) (h : fX12_fillsRest μ = some μo) : W p l e (rmd 4) s m args below meth c H locs 0 0 (MQ below (QR ω none μo) args s 0 0 (wA ω)) (F0 m 0 ls []) := by
  have hx := C.1
  have hb := C.2.1
  unfold fX12_fillsRest at h
  refine lv_iconst (v := 1) hx hb dX12_fillsRest_0 (by decide) ?_
  refine lv_aload_n hx hb dX12_fillsRest_1 rfl (lv_at hl 0 rfl) ?_
  obtain ⟨r2, e1, h⟩ := b1_e h
  refine cVi (as := []) (rest := [.int 1]) (c_X12_many hW e1) C hl.1 hH hS rfl (jM_0 hW) rfl wd_31 wd_1182 mw_X12_many wd_1180 rfl (rm_ok (by decide) (by decide)) (Nat.le_of_ble_eq_true rfl) ⟨Nat.zero_le _, Nat.zero_le _⟩ (by decide) dX12_fillsRest_2 (fun H locs hH hS => ?_)
  refine lv_ishl hx hb dX12_fillsRest_5 ?_
  refine lv_iconst (v := 1) hx hb dX12_fillsRest_6 (by decide) ?_
  refine lv_isub hx hb dX12_fillsRest_7 ?_
  obtain ⟨y3, e4, h⟩ := bd_e h
  refine h_topi e4 ?_
  refine lv_istore_n (lv' := [(1, .int y3), (0, .ref (wB ω + 0))]) hx hb dX12_fillsRest_8 rfl hl (by decide) rfl (fun ls hl => ?_)
  exact wX12_fillsRest_l9 hW C hr hk FU _ _ H locs ls hH hS (lv_sub hl [1, 0] rfl) h
theorem c_X12_fillsRest {l : Launch} {ω : WW} (hW : FWM ω) {μ : Mem} {μo : Mem} (h : fX12_fillsRest μ = some μo) : Con l yX12_fillsRest cX12_fillsRest 5 none 4 ω [.ref (wB ω + 0)] μ none μo :=
  con_of (by decide) (Nat.le_of_ble_eq_true rfl) (fun p e s m args below meth c ls C hr hk hl hH hS => wX12_fillsRest_e hW C hr hk hH hS (lv_sub hl [0] rfl) h)
end WK10
