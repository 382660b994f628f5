theorem dX4_unit_0 : decode cX4_unit 0 = .ok (.aload_n 0, 1) := by decide +kernel
theorem dX4_unit_1 : decode cX4_unit 1 = .ok (.getfield 12, 3) := by decide +kernel
theorem dX4_unit_4 : decode cX4_unit 4 = .ok (.getfield 46, 3) := by decide +kernel
theorem dX4_unit_7 : decode cX4_unit 7 = .ok (.aload_n 0, 1) := by decide +kernel
theorem dX4_unit_8 : decode cX4_unit 8 = .ok (.getfield 36, 3) := by decide +kernel
theorem dX4_unit_11 : decode cX4_unit 11 = .ok (.iaload, 1) := by decide +kernel
theorem dX4_unit_12 : decode cX4_unit 12 = .ok (.istore_n 2, 1) := by decide +kernel
theorem dX4_unit_13 : decode cX4_unit 13 = .ok (.iload_n 2, 1) := by decide +kernel
theorem dX4_unit_14 : decode cX4_unit 14 = .ok (.bipush 40, 2) := by decide +kernel
theorem dX4_unit_16 : decode cX4_unit 16 = .ok (.if_icmp .ne 49, 3) := by decide +kernel
theorem dX4_unit_19 : decode cX4_unit 19 = .ok (.iload_n 1, 1) := by decide +kernel
theorem dX4_unit_20 : decode cX4_unit 20 = .ok (.bipush 6, 2) := by decide +kernel
theorem dX4_unit_22 : decode cX4_unit 22 = .ok (.if_icmp .lt 9, 3) := by decide +kernel
theorem dX4_unit_25 : decode cX4_unit 25 = .ok (.aload_n 0, 1) := by decide +kernel
theorem dX4_unit_26 : decode cX4_unit 26 = .ok (.iconst 2, 1) := by decide +kernel
theorem dX4_unit_27 : decode cX4_unit 27 = .ok (.invokevirtual 67, 3) := by decide +kernel
theorem dX4_unit_30 : decode cX4_unit 30 = .ok (.ireturn, 1) := by decide +kernel
theorem dX4_unit_31 : decode cX4_unit 31 = .ok (.aload_n 0, 1) := by decide +kernel
theorem dX4_unit_32 : decode cX4_unit 32 = .ok (.bipush 40, 2) := by decide +kernel
theorem dX4_unit_34 : decode cX4_unit 34 = .ok (.invokevirtual 57, 3) := by decide +kernel
theorem dX4_unit_37 : decode cX4_unit 37 = .ok (.ifCond .eq 26, 3) := by decide +kernel
theorem dX4_unit_40 : decode cX4_unit 40 = .ok (.aload_n 0, 1) := by decide +kernel
theorem dX4_unit_41 : decode cX4_unit 41 = .ok (.iload_n 1, 1) := by decide +kernel
theorem dX4_unit_42 : decode cX4_unit 42 = .ok (.iconst 1, 1) := by decide +kernel
theorem dX4_unit_43 : decode cX4_unit 43 = .ok (.iadd, 1) := by decide +kernel
theorem dX4_unit_44 : decode cX4_unit 44 = .ok (.invokevirtual 119, 3) := by decide +kernel
theorem dX4_unit_47 : decode cX4_unit 47 = .ok (.ifCond .eq 16, 3) := by decide +kernel
theorem dX4_unit_50 : decode cX4_unit 50 = .ok (.aload_n 0, 1) := by decide +kernel
theorem dX4_unit_51 : decode cX4_unit 51 = .ok (.bipush 41, 2) := by decide +kernel
theorem dX4_unit_53 : decode cX4_unit 53 = .ok (.invokevirtual 57, 3) := by decide +kernel
theorem dX4_unit_56 : decode cX4_unit 56 = .ok (.ifCond .eq 7, 3) := by decide +kernel
theorem dX4_unit_59 : decode cX4_unit 59 = .ok (.iconst 1, 1) := by decide +kernel
theorem dX4_unit_60 : decode cX4_unit 60 = .ok (.goto 4, 3) := by decide +kernel
theorem dX4_unit_63 : decode cX4_unit 63 = .ok (.iconst 0, 1) := by decide +kernel
theorem dX4_unit_64 : decode cX4_unit 64 = .ok (.ireturn, 1) := by decide +kernel
theorem dX4_unit_65 : decode cX4_unit 65 = .ok (.iload_n 2, 1) := by decide +kernel
theorem dX4_unit_66 : decode cX4_unit 66 = .ok (.bipush 22, 2) := by decide +kernel
theorem dX4_unit_68 : decode cX4_unit 68 = .ok (.if_icmp .ne 31, 3) := by decide +kernel
theorem dX4_unit_71 : decode cX4_unit 71 = .ok (.aload_n 0, 1) := by decide +kernel
theorem dX4_unit_72 : decode cX4_unit 72 = .ok (.getfield 21, 3) := by decide +kernel
theorem dX4_unit_75 : decode cX4_unit 75 = .ok (.getfield 110, 3) := by decide +kernel
theorem dX4_unit_78 : decode cX4_unit 78 = .ok (.bipush 9, 2) := by decide +kernel
theorem dX4_unit_80 : decode cX4_unit 80 = .ok (.aload_n 0, 1) := by decide +kernel
theorem dX4_unit_81 : decode cX4_unit 81 = .ok (.getfield 12, 3) := by decide +kernel
theorem dX4_unit_84 : decode cX4_unit 84 = .ok (.getfield 73, 3) := by decide +kernel
theorem dX4_unit_87 : decode cX4_unit 87 = .ok (.aload_n 0, 1) := by decide +kernel
theorem dX4_unit_88 : decode cX4_unit 88 = .ok (.getfield 36, 3) := by decide +kernel
theorem dX4_unit_91 : decode cX4_unit 91 = .ok (.laload, 1) := by decide +kernel
theorem dX4_unit_92 : decode cX4_unit 92 = .ok (.l2i, 1) := by decide +kernel
theorem dX4_unit_93 : decode cX4_unit 93 = .ok (.invokevirtual 125, 3) := by decide +kernel
theorem dX4_unit_96 : decode cX4_unit 96 = .ok (.goto 39, 3) := by decide +kernel
theorem dX4_unit_99 : decode cX4_unit 99 = .ok (.iload_n 2, 1) := by decide +kernel
theorem dX4_unit_100 : decode cX4_unit 100 = .ok (.bipush 12, 2) := by decide +kernel
theorem dX4_unit_102 : decode cX4_unit 102 = .ok (.if_icmp .lt 27, 3) := by decide +kernel
theorem dX4_unit_105 : decode cX4_unit 105 = .ok (.iload_n 2, 1) := by decide +kernel
theorem dX4_unit_106 : decode cX4_unit 106 = .ok (.bipush 20, 2) := by decide +kernel
theorem dX4_unit_108 : decode cX4_unit 108 = .ok (.if_icmp .gt 21, 3) := by decide +kernel
theorem dX4_unit_111 : decode cX4_unit 111 = .ok (.aload_n 0, 1) := by decide +kernel
theorem dX4_unit_112 : decode cX4_unit 112 = .ok (.getfield 21, 3) := by decide +kernel
theorem dX4_unit_115 : decode cX4_unit 115 = .ok (.getfield 110, 3) := by decide +kernel
theorem dX4_unit_118 : decode cX4_unit 118 = .ok (.iload_n 2, 1) := by decide +kernel
theorem dX4_unit_119 : decode cX4_unit 119 = .ok (.bipush 12, 2) := by decide +kernel
theorem dX4_unit_121 : decode cX4_unit 121 = .ok (.isub, 1) := by decide +kernel
theorem dX4_unit_122 : decode cX4_unit 122 = .ok (.iconst 0, 1) := by decide +kernel
theorem dX4_unit_123 : decode cX4_unit 123 = .ok (.invokevirtual 125, 3) := by decide +kernel
theorem dX4_unit_126 : decode cX4_unit 126 = .ok (.goto 9, 3) := by decide +kernel
theorem dX4_unit_129 : decode cX4_unit 129 = .ok (.aload_n 0, 1) := by decide +kernel
theorem dX4_unit_130 : decode cX4_unit 130 = .ok (.iconst 1, 1) := by decide +kernel
theorem dX4_unit_131 : decode cX4_unit 131 = .ok (.invokevirtual 67, 3) := by decide +kernel
theorem dX4_unit_134 : decode cX4_unit 134 = .ok (.ireturn, 1) := by decide +kernel
theorem dX4_unit_135 : decode cX4_unit 135 = .ok (.aload_n 0, 1) := by decide +kernel
theorem dX4_unit_136 : decode cX4_unit 136 = .ok (.iload_n 2, 1) := by decide +kernel
theorem dX4_unit_137 : decode cX4_unit 137 = .ok (.invokevirtual 57, 3) := by decide +kernel
theorem dX4_unit_140 : decode cX4_unit 140 = .ok (.ireturn, 1) := by decide +kernel
theorem dX4_product_0 : decode cX4_product 0 = .ok (.aload_n 0, 1) := by decide +kernel
theorem dX4_product_1 : decode cX4_product 1 = .ok (.iload_n 1, 1) := by decide +kernel
theorem dX4_product_2 : decode cX4_product 2 = .ok (.invokevirtual 135, 3) := by decide +kernel
theorem dX4_product_5 : decode cX4_product 5 = .ok (.ifCond .ne 5, 3) := by decide +kernel
theorem dX4_product_8 : decode cX4_product 8 = .ok (.iconst 0, 1) := by decide +kernel
theorem dX4_product_9 : decode cX4_product 9 = .ok (.ireturn, 1) := by decide +kernel
theorem dX4_product_10 : decode cX4_product 10 = .ok (.iconst 0, 1) := by decide +kernel
theorem dX4_product_11 : decode cX4_product 11 = .ok (.istore_n 2, 1) := by decide +kernel
theorem dX4_product_12 : decode cX4_product 12 = .ok (.iload_n 2, 1) := by decide +kernel
theorem dX4_product_13 : decode cX4_product 13 = .ok (.sipush 400, 3) := by decide +kernel
theorem dX4_product_16 : decode cX4_product 16 = .ok (.if_icmp .gt 78, 3) := by decide +kernel
theorem dX4_product_19 : decode cX4_product 19 = .ok (.aload_n 0, 1) := by decide +kernel
theorem dX4_product_20 : decode cX4_product 20 = .ok (.getfield 12, 3) := by decide +kernel
theorem dX4_product_23 : decode cX4_product 23 = .ok (.getfield 46, 3) := by decide +kernel
theorem dX4_product_26 : decode cX4_product 26 = .ok (.aload_n 0, 1) := by decide +kernel
theorem dX4_product_27 : decode cX4_product 27 = .ok (.getfield 36, 3) := by decide +kernel
theorem dX4_product_30 : decode cX4_product 30 = .ok (.iaload, 1) := by decide +kernel
theorem dX4_product_31 : decode cX4_product 31 = .ok (.istore_n 3, 1) := by decide +kernel
theorem dX4_product_32 : decode cX4_product 32 = .ok (.iload_n 3, 1) := by decide +kernel
theorem dX4_product_33 : decode cX4_product 33 = .ok (.bipush 42, 2) := by decide +kernel
theorem dX4_product_35 : decode cX4_product 35 = .ok (.if_icmp .eq 11, 3) := by decide +kernel
theorem dX4_product_38 : decode cX4_product 38 = .ok (.iload_n 3, 1) := by decide +kernel
theorem dX4_product_39 : decode cX4_product 39 = .ok (.bipush 47, 2) := by decide +kernel
theorem dX4_product_41 : decode cX4_product 41 = .ok (.if_icmp .eq 5, 3) := by decide +kernel
theorem dX4_product_44 : decode cX4_product 44 = .ok (.iconst 1, 1) := by decide +kernel
theorem dX4_product_45 : decode cX4_product 45 = .ok (.ireturn, 1) := by decide +kernel
theorem dX4_product_46 : decode cX4_product 46 = .ok (.aload_n 0, 1) := by decide +kernel
theorem dX4_product_47 : decode cX4_product 47 = .ok (.iload_n 3, 1) := by decide +kernel
theorem dX4_product_48 : decode cX4_product 48 = .ok (.invokevirtual 57, 3) := by decide +kernel
theorem dX4_product_51 : decode cX4_product 51 = .ok (.ifCond .eq 11, 3) := by decide +kernel
theorem dX4_product_54 : decode cX4_product 54 = .ok (.aload_n 0, 1) := by decide +kernel
theorem dX4_product_55 : decode cX4_product 55 = .ok (.iload_n 1, 1) := by decide +kernel
theorem dX4_product_56 : decode cX4_product 56 = .ok (.invokevirtual 135, 3) := by decide +kernel
theorem dX4_product_59 : decode cX4_product 59 = .ok (.ifCond .ne 5, 3) := by decide +kernel
theorem dX4_product_62 : decode cX4_product 62 = .ok (.iconst 0, 1) := by decide +kernel
theorem dX4_product_63 : decode cX4_product 63 = .ok (.ireturn, 1) := by decide +kernel
theorem dX4_product_64 : decode cX4_product 64 = .ok (.aload_n 0, 1) := by decide +kernel
theorem dX4_product_65 : decode cX4_product 65 = .ok (.getfield 21, 3) := by decide +kernel
theorem dX4_product_68 : decode cX4_product 68 = .ok (.getfield 110, 3) := by decide +kernel
theorem dX4_product_71 : decode cX4_product 71 = .ok (.iload_n 3, 1) := by decide +kernel
theorem dX4_product_72 : decode cX4_product 72 = .ok (.bipush 42, 2) := by decide +kernel
theorem dX4_product_74 : decode cX4_product 74 = .ok (.if_icmp .ne 8, 3) := by decide +kernel
theorem dX4_product_77 : decode cX4_product 77 = .ok (.bipush 12, 2) := by decide +kernel
theorem dX4_product_79 : decode cX4_product 79 = .ok (.goto 5, 3) := by decide +kernel
theorem dX4_product_82 : decode cX4_product 82 = .ok (.bipush 13, 2) := by decide +kernel
theorem dX4_product_84 : decode cX4_product 84 = .ok (.iconst 0, 1) := by decide +kernel
theorem dX4_product_85 : decode cX4_product 85 = .ok (.invokevirtual 125, 3) := by decide +kernel
theorem dX4_product_88 : decode cX4_product 88 = .ok (.iinc 2 1, 3) := by decide +kernel
theorem dX4_product_91 : decode cX4_product 91 = .ok (.goto (-79), 3) := by decide +kernel
theorem dX4_product_94 : decode cX4_product 94 = .ok (.iconst 0, 1) := by decide +kernel
theorem dX4_product_95 : decode cX4_product 95 = .ok (.ireturn, 1) := by decide +kernel
theorem dX4_sum_0 : decode cX4_sum 0 = .ok (.aload_n 0, 1) := by decide +kernel
theorem dX4_sum_1 : decode cX4_sum 1 = .ok (.iload_n 1, 1) := by decide +kernel
theorem dX4_sum_2 : decode cX4_sum 2 = .ok (.invokevirtual 132, 3) := by decide +kernel
theorem dX4_sum_5 : decode cX4_sum 5 = .ok (.ifCond .ne 5, 3) := by decide +kernel
theorem dX4_sum_8 : decode cX4_sum 8 = .ok (.iconst 0, 1) := by decide +kernel
theorem dX4_sum_9 : decode cX4_sum 9 = .ok (.ireturn, 1) := by decide +kernel
theorem dX4_sum_10 : decode cX4_sum 10 = .ok (.iconst 0, 1) := by decide +kernel
theorem dX4_sum_11 : decode cX4_sum 11 = .ok (.istore_n 2, 1) := by decide +kernel
theorem dX4_sum_12 : decode cX4_sum 12 = .ok (.iload_n 2, 1) := by decide +kernel
theorem dX4_sum_13 : decode cX4_sum 13 = .ok (.sipush 400, 3) := by decide +kernel
theorem dX4_sum_16 : decode cX4_sum 16 = .ok (.if_icmp .gt 78, 3) := by decide +kernel
theorem dX4_sum_19 : decode cX4_sum 19 = .ok (.aload_n 0, 1) := by decide +kernel
theorem dX4_sum_20 : decode cX4_sum 20 = .ok (.getfield 12, 3) := by decide +kernel
theorem dX4_sum_23 : decode cX4_sum 23 = .ok (.getfield 46, 3) := by decide +kernel
theorem dX4_sum_26 : decode cX4_sum 26 = .ok (.aload_n 0, 1) := by decide +kernel
theorem dX4_sum_27 : decode cX4_sum 27 = .ok (.getfield 36, 3) := by decide +kernel
theorem dX4_sum_30 : decode cX4_sum 30 = .ok (.iaload, 1) := by decide +kernel
theorem dX4_sum_31 : decode cX4_sum 31 = .ok (.istore_n 3, 1) := by decide +kernel
theorem dX4_sum_32 : decode cX4_sum 32 = .ok (.iload_n 3, 1) := by decide +kernel
theorem dX4_sum_33 : decode cX4_sum 33 = .ok (.bipush 43, 2) := by decide +kernel
theorem dX4_sum_35 : decode cX4_sum 35 = .ok (.if_icmp .eq 11, 3) := by decide +kernel
theorem dX4_sum_38 : decode cX4_sum 38 = .ok (.iload_n 3, 1) := by decide +kernel
theorem dX4_sum_39 : decode cX4_sum 39 = .ok (.bipush 45, 2) := by decide +kernel
theorem dX4_sum_41 : decode cX4_sum 41 = .ok (.if_icmp .eq 5, 3) := by decide +kernel
theorem dX4_sum_44 : decode cX4_sum 44 = .ok (.iconst 1, 1) := by decide +kernel
theorem dX4_sum_45 : decode cX4_sum 45 = .ok (.ireturn, 1) := by decide +kernel
theorem dX4_sum_46 : decode cX4_sum 46 = .ok (.aload_n 0, 1) := by decide +kernel
theorem dX4_sum_47 : decode cX4_sum 47 = .ok (.iload_n 3, 1) := by decide +kernel
theorem dX4_sum_48 : decode cX4_sum 48 = .ok (.invokevirtual 57, 3) := by decide +kernel
theorem dX4_sum_51 : decode cX4_sum 51 = .ok (.ifCond .eq 11, 3) := by decide +kernel
theorem dX4_sum_54 : decode cX4_sum 54 = .ok (.aload_n 0, 1) := by decide +kernel
theorem dX4_sum_55 : decode cX4_sum 55 = .ok (.iload_n 1, 1) := by decide +kernel
theorem dX4_sum_56 : decode cX4_sum 56 = .ok (.invokevirtual 132, 3) := by decide +kernel
theorem dX4_sum_59 : decode cX4_sum 59 = .ok (.ifCond .ne 5, 3) := by decide +kernel
theorem dX4_sum_62 : decode cX4_sum 62 = .ok (.iconst 0, 1) := by decide +kernel
theorem dX4_sum_63 : decode cX4_sum 63 = .ok (.ireturn, 1) := by decide +kernel
theorem dX4_sum_64 : decode cX4_sum 64 = .ok (.aload_n 0, 1) := by decide +kernel
theorem dX4_sum_65 : decode cX4_sum 65 = .ok (.getfield 21, 3) := by decide +kernel
theorem dX4_sum_68 : decode cX4_sum 68 = .ok (.getfield 110, 3) := by decide +kernel
theorem dX4_sum_71 : decode cX4_sum 71 = .ok (.iload_n 3, 1) := by decide +kernel
theorem dX4_sum_72 : decode cX4_sum 72 = .ok (.bipush 43, 2) := by decide +kernel
theorem dX4_sum_74 : decode cX4_sum 74 = .ok (.if_icmp .ne 8, 3) := by decide +kernel
theorem dX4_sum_77 : decode cX4_sum 77 = .ok (.bipush 10, 2) := by decide +kernel
theorem dX4_sum_79 : decode cX4_sum 79 = .ok (.goto 5, 3) := by decide +kernel
theorem dX4_sum_82 : decode cX4_sum 82 = .ok (.bipush 11, 2) := by decide +kernel
theorem dX4_sum_84 : decode cX4_sum 84 = .ok (.iconst 0, 1) := by decide +kernel
theorem dX4_sum_85 : decode cX4_sum 85 = .ok (.invokevirtual 125, 3) := by decide +kernel
theorem dX4_sum_88 : decode cX4_sum 88 = .ok (.iinc 2 1, 3) := by decide +kernel
theorem dX4_sum_91 : decode cX4_sum 91 = .ok (.goto (-79), 3) := by decide +kernel
theorem dX4_sum_94 : decode cX4_sum 94 = .ok (.iconst 0, 1) := by decide +kernel
theorem dX4_sum_95 : decode cX4_sum 95 = .ok (.ireturn, 1) := by decide +kernel
theorem dX4_isToldAlready_0 : decode cX4_isToldAlready 0 = .ok (.iconst 0, 1) := by decide +kernel
theorem dX4_isToldAlready_1 : decode cX4_isToldAlready 1 = .ok (.istore_n 3, 1) := by decide +kernel
theorem dX4_isToldAlready_2 : decode cX4_isToldAlready 2 = .ok (.iload_n 3, 1) := by decide +kernel
theorem dX4_isToldAlready_3 : decode cX4_isToldAlready 3 = .ok (.aload_n 0, 1) := by decide +kernel
theorem dX4_isToldAlready_4 : decode cX4_isToldAlready 4 = .ok (.getfield 21, 3) := by decide +kernel
theorem dX4_isToldAlready_7 : decode cX4_isToldAlready 7 = .ok (.getfield 70, 3) := by decide +kernel
theorem dX4_isToldAlready_10 : decode cX4_isToldAlready 10 = .ok (.if_icmp .ge 28, 3) := by decide +kernel
theorem dX4_isToldAlready_13 : decode cX4_isToldAlready 13 = .ok (.iload_n 3, 1) := by decide +kernel
theorem dX4_isToldAlready_14 : decode cX4_isToldAlready 14 = .ok (.bipush 6, 2) := by decide +kernel
theorem dX4_isToldAlready_16 : decode cX4_isToldAlready 16 = .ok (.if_icmp .ge 22, 3) := by decide +kernel
theorem dX4_isToldAlready_19 : decode cX4_isToldAlready 19 = .ok (.aload_n 0, 1) := by decide +kernel
theorem dX4_isToldAlready_20 : decode cX4_isToldAlready 20 = .ok (.getfield 25, 3) := by decide +kernel
theorem dX4_isToldAlready_23 : decode cX4_isToldAlready 23 = .ok (.iload_n 3, 1) := by decide +kernel
theorem dX4_isToldAlready_24 : decode cX4_isToldAlready 24 = .ok (.laload, 1) := by decide +kernel
theorem dX4_isToldAlready_25 : decode cX4_isToldAlready 25 = .ok (.lload_n 1, 1) := by decide +kernel
theorem dX4_isToldAlready_26 : decode cX4_isToldAlready 26 = .ok (.lcmp, 1) := by decide +kernel
theorem dX4_isToldAlready_27 : decode cX4_isToldAlready 27 = .ok (.ifCond .ne 5, 3) := by decide +kernel
theorem dX4_isToldAlready_30 : decode cX4_isToldAlready 30 = .ok (.iconst 1, 1) := by decide +kernel
theorem dX4_isToldAlready_31 : decode cX4_isToldAlready 31 = .ok (.ireturn, 1) := by decide +kernel
theorem dX4_isToldAlready_32 : decode cX4_isToldAlready 32 = .ok (.iinc 3 1, 3) := by decide +kernel
theorem dX4_isToldAlready_35 : decode cX4_isToldAlready 35 = .ok (.goto (-33), 3) := by decide +kernel
theorem dX4_isToldAlready_38 : decode cX4_isToldAlready 38 = .ok (.iconst 0, 1) := by decide +kernel
theorem dX4_isToldAlready_39 : decode cX4_isToldAlready 39 = .ok (.ireturn, 1) := by decide +kernel
theorem dX4_note_0 : decode cX4_note 0 = .ok (.aload_n 0, 1) := by decide +kernel
theorem dX4_note_1 : decode cX4_note 1 = .ok (.getfield 40, 3) := by decide +kernel
theorem dX4_note_4 : decode cX4_note 4 = .ok (.ifCond .ne 24, 3) := by decide +kernel
theorem dX4_note_7 : decode cX4_note 7 = .ok (.aload_n 0, 1) := by decide +kernel
theorem dX4_note_8 : decode cX4_note 8 = .ok (.iload_n 1, 1) := by decide +kernel
theorem dX4_note_9 : decode cX4_note 9 = .ok (.putfield 40, 3) := by decide +kernel
theorem dX4_note_12 : decode cX4_note 12 = .ok (.aload_n 0, 1) := by decide +kernel
theorem dX4_note_13 : decode cX4_note 13 = .ok (.aload_n 0, 1) := by decide +kernel
theorem dX4_note_14 : decode cX4_note 14 = .ok (.getfield 12, 3) := by decide +kernel
theorem dX4_note_17 : decode cX4_note 17 = .ok (.getfield 138, 3) := by decide +kernel
theorem dX4_note_20 : decode cX4_note 20 = .ok (.aload_n 0, 1) := by decide +kernel
theorem dX4_note_21 : decode cX4_note 21 = .ok (.getfield 36, 3) := by decide +kernel
theorem dX4_note_24 : decode cX4_note 24 = .ok (.iaload, 1) := by decide +kernel
theorem dX4_note_25 : decode cX4_note 25 = .ok (.putfield 43, 3) := by decide +kernel
theorem dX4_note_28 : decode cX4_note 28 = .ok (.return_, 1) := by decide +kernel
theorem dX4_numberHere_0 : decode cX4_numberHere 0 = .ok (.aload_n 0, 1) := by decide +kernel
theorem dX4_numberHere_1 : decode cX4_numberHere 1 = .ok (.getfield 12, 3) := by decide +kernel
theorem dX4_numberHere_4 : decode cX4_numberHere 4 = .ok (.getfield 73, 3) := by decide +kernel
theorem dX4_numberHere_7 : decode cX4_numberHere 7 = .ok (.aload_n 0, 1) := by decide +kernel
theorem dX4_numberHere_8 : decode cX4_numberHere 8 = .ok (.getfield 36, 3) := by decide +kernel
theorem dX4_numberHere_11 : decode cX4_numberHere 11 = .ok (.laload, 1) := by decide +kernel
theorem dX4_numberHere_12 : decode cX4_numberHere 12 = .ok (.l2i, 1) := by decide +kernel
theorem dX4_numberHere_13 : decode cX4_numberHere 13 = .ok (.istore_n 2, 1) := by decide +kernel
theorem dX4_numberHere_14 : decode cX4_numberHere 14 = .ok (.iload_n 1, 1) := by decide +kernel
theorem dX4_numberHere_15 : decode cX4_numberHere 15 = .ok (.ifCond .lt 33, 3) := by decide +kernel
theorem dX4_numberHere_18 : decode cX4_numberHere 18 = .ok (.iload_n 1, 1) := by decide +kernel
theorem dX4_numberHere_19 : decode cX4_numberHere 19 = .ok (.getstatic 104, 3) := by decide +kernel
theorem dX4_numberHere_22 : decode cX4_numberHere 22 = .ok (.arraylength, 1) := by decide +kernel
theorem dX4_numberHere_23 : decode cX4_numberHere 23 = .ok (.if_icmp .ge 25, 3) := by decide +kernel
theorem dX4_numberHere_26 : decode cX4_numberHere 26 = .ok (.iload_n 2, 1) := by decide +kernel
theorem dX4_numberHere_27 : decode cX4_numberHere 27 = .ok (.getstatic 107, 3) := by decide +kernel
theorem dX4_numberHere_30 : decode cX4_numberHere 30 = .ok (.iload_n 1, 1) := by decide +kernel
theorem dX4_numberHere_31 : decode cX4_numberHere 31 = .ok (.iaload, 1) := by decide +kernel
theorem dX4_numberHere_32 : decode cX4_numberHere 32 = .ok (.if_icmp .lt 16, 3) := by decide +kernel
theorem dX4_numberHere_35 : decode cX4_numberHere 35 = .ok (.iload_n 2, 1) := by decide +kernel
theorem dX4_numberHere_36 : decode cX4_numberHere 36 = .ok (.getstatic 104, 3) := by decide +kernel
theorem dX4_numberHere_39 : decode cX4_numberHere 39 = .ok (.iload_n 1, 1) := by decide +kernel
theorem dX4_numberHere_40 : decode cX4_numberHere 40 = .ok (.iaload, 1) := by decide +kernel
theorem dX4_numberHere_41 : decode cX4_numberHere 41 = .ok (.if_icmp .gt 7, 3) := by decide +kernel
theorem dX4_numberHere_44 : decode cX4_numberHere 44 = .ok (.iconst 1, 1) := by decide +kernel
theorem dX4_numberHere_45 : decode cX4_numberHere 45 = .ok (.goto 4, 3) := by decide +kernel
theorem dX4_numberHere_48 : decode cX4_numberHere 48 = .ok (.iconst 0, 1) := by decide +kernel
theorem dX4_numberHere_49 : decode cX4_numberHere 49 = .ok (.istore_n 3, 1) := by decide +kernel
theorem dX4_numberHere_50 : decode cX4_numberHere 50 = .ok (.aload_n 0, 1) := by decide +kernel
theorem dX4_numberHere_51 : decode cX4_numberHere 51 = .ok (.getfield 12, 3) := by decide +kernel
theorem dX4_numberHere_54 : decode cX4_numberHere 54 = .ok (.getfield 46, 3) := by decide +kernel
theorem dX4_numberHere_57 : decode cX4_numberHere 57 = .ok (.aload_n 0, 1) := by decide +kernel
theorem dX4_numberHere_58 : decode cX4_numberHere 58 = .ok (.getfield 36, 3) := by decide +kernel
theorem dX4_numberHere_61 : decode cX4_numberHere 61 = .ok (.iaload, 1) := by decide +kernel
theorem dX4_numberHere_62 : decode cX4_numberHere 62 = .ok (.bipush 22, 2) := by decide +kernel
theorem dX4_numberHere_64 : decode cX4_numberHere 64 = .ok (.if_icmp .ne 12, 3) := by decide +kernel
theorem dX4_numberHere_67 : decode cX4_numberHere 67 = .ok (.iload_n 3, 1) := by decide +kernel
theorem dX4_numberHere_68 : decode cX4_numberHere 68 = .ok (.ifCond .ne 8, 3) := by decide +kernel
theorem dX4_numberHere_71 : decode cX4_numberHere 71 = .ok (.aload_n 0, 1) := by decide +kernel
theorem dX4_numberHere_72 : decode cX4_numberHere 72 = .ok (.iconst 5, 1) := by decide +kernel
theorem dX4_numberHere_73 : decode cX4_numberHere 73 = .ok (.invokevirtual 80, 3) := by decide +kernel
theorem dX4_numberHere_76 : decode cX4_numberHere 76 = .ok (.iload_n 2, 1) := by decide +kernel
theorem dX4_numberHere_77 : decode cX4_numberHere 77 = .ok (.ireturn, 1) := by decide +kernel
theorem dX3_setNumber_0 : decode cX3_setNumber 0 = .ok (.iload_n 1, 1) := by decide +kernel
theorem dX3_setNumber_1 : decode cX3_setNumber 1 = .ok (.iconst 5, 1) := by decide +kernel
theorem dX3_setNumber_2 : decode cX3_setNumber 2 = .ok (.imul, 1) := by decide +kernel
theorem dX3_setNumber_3 : decode cX3_setNumber 3 = .ok (.iload_n 2, 1) := by decide +kernel
theorem dX3_setNumber_4 : decode cX3_setNumber 4 = .ok (.iadd, 1) := by decide +kernel
theorem dX3_setNumber_5 : decode cX3_setNumber 5 = .ok (.istore 4, 2) := by decide +kernel
theorem dX3_setNumber_7 : decode cX3_setNumber 7 = .ok (.iload 4, 2) := by decide +kernel
theorem dX3_setNumber_9 : decode cX3_setNumber 9 = .ok (.ifCond .lt 21, 3) := by decide +kernel
theorem dX3_setNumber_12 : decode cX3_setNumber 12 = .ok (.iload 4, 2) := by decide +kernel
theorem dX3_setNumber_14 : decode cX3_setNumber 14 = .ok (.aload_n 0, 1) := by decide +kernel
theorem dX3_setNumber_15 : decode cX3_setNumber 15 = .ok (.getfield 11, 3) := by decide +kernel
theorem dX3_setNumber_18 : decode cX3_setNumber 18 = .ok (.arraylength, 1) := by decide +kernel
theorem dX3_setNumber_19 : decode cX3_setNumber 19 = .ok (.if_icmp .ge 11, 3) := by decide +kernel
theorem dX3_setNumber_22 : decode cX3_setNumber 22 = .ok (.aload_n 0, 1) := by decide +kernel
theorem dX3_setNumber_23 : decode cX3_setNumber 23 = .ok (.getfield 11, 3) := by decide +kernel
theorem dX3_setNumber_26 : decode cX3_setNumber 26 = .ok (.iload 4, 2) := by decide +kernel
theorem dX3_setNumber_28 : decode cX3_setNumber 28 = .ok (.iload_n 3, 1) := by decide +kernel
theorem dX3_setNumber_29 : decode cX3_setNumber 29 = .ok (.iastore, 1) := by decide +kernel
theorem dX3_setNumber_30 : decode cX3_setNumber 30 = .ok (.return_, 1) := by decide +kernel
theorem dX4_tellHouse_0 : decode cX4_tellHouse 0 = .ok (.aload_n 0, 1) := by decide +kernel
theorem dX4_tellHouse_1 : decode cX4_tellHouse 1 = .ok (.getfield 21, 3) := by decide +kernel
theorem dX4_tellHouse_4 : decode cX4_tellHouse 4 = .ok (.getfield 70, 3) := by decide +kernel
theorem dX4_tellHouse_7 : decode cX4_tellHouse 7 = .ok (.istore_n 1, 1) := by decide +kernel
theorem dX4_tellHouse_8 : decode cX4_tellHouse 8 = .ok (.iload_n 1, 1) := by decide +kernel
theorem dX4_tellHouse_9 : decode cX4_tellHouse 9 = .ok (.bipush 6, 2) := by decide +kernel
theorem dX4_tellHouse_11 : decode cX4_tellHouse 11 = .ok (.if_icmp .lt 9, 3) := by decide +kernel
theorem dX4_tellHouse_14 : decode cX4_tellHouse 14 = .ok (.aload_n 0, 1) := by decide +kernel
theorem dX4_tellHouse_15 : decode cX4_tellHouse 15 = .ok (.iconst 2, 1) := by decide +kernel
theorem dX4_tellHouse_16 : decode cX4_tellHouse 16 = .ok (.invokevirtual 67, 3) := by decide +kernel
theorem dX4_tellHouse_19 : decode cX4_tellHouse 19 = .ok (.ireturn, 1) := by decide +kernel
theorem dX4_tellHouse_20 : decode cX4_tellHouse 20 = .ok (.aload_n 0, 1) := by decide +kernel
theorem dX4_tellHouse_21 : decode cX4_tellHouse 21 = .ok (.iconst 0, 1) := by decide +kernel
theorem dX4_tellHouse_22 : decode cX4_tellHouse 22 = .ok (.invokevirtual 57, 3) := by decide +kernel
theorem dX4_tellHouse_25 : decode cX4_tellHouse 25 = .ok (.ifCond .ne 5, 3) := by decide +kernel
theorem dX4_tellHouse_28 : decode cX4_tellHouse 28 = .ok (.iconst 0, 1) := by decide +kernel
theorem dX4_tellHouse_29 : decode cX4_tellHouse 29 = .ok (.ireturn, 1) := by decide +kernel
theorem dX4_tellHouse_30 : decode cX4_tellHouse 30 = .ok (.aload_n 0, 1) := by decide +kernel
theorem dX4_tellHouse_31 : decode cX4_tellHouse 31 = .ok (.getfield 25, 3) := by decide +kernel
theorem dX4_tellHouse_34 : decode cX4_tellHouse 34 = .ok (.iload_n 1, 1) := by decide +kernel
theorem dX4_tellHouse_35 : decode cX4_tellHouse 35 = .ok (.aload_n 0, 1) := by decide +kernel
theorem dX4_tellHouse_36 : decode cX4_tellHouse 36 = .ok (.getfield 12, 3) := by decide +kernel
theorem dX4_tellHouse_39 : decode cX4_tellHouse 39 = .ok (.getfield 73, 3) := by decide +kernel
theorem dX4_tellHouse_42 : decode cX4_tellHouse 42 = .ok (.aload_n 0, 1) := by decide +kernel
theorem dX4_tellHouse_43 : decode cX4_tellHouse 43 = .ok (.getfield 36, 3) := by decide +kernel
theorem dX4_tellHouse_46 : decode cX4_tellHouse 46 = .ok (.laload, 1) := by decide +kernel
theorem dX4_tellHouse_47 : decode cX4_tellHouse 47 = .ok (.lastore, 1) := by decide +kernel
theorem dX4_tellHouse_48 : decode cX4_tellHouse 48 = .ok (.aload_n 0, 1) := by decide +kernel
theorem dX4_tellHouse_49 : decode cX4_tellHouse 49 = .ok (.getfield 12, 3) := by decide +kernel
theorem dX4_tellHouse_52 : decode cX4_tellHouse 52 = .ok (.getfield 46, 3) := by decide +kernel
theorem dX4_tellHouse_55 : decode cX4_tellHouse 55 = .ok (.aload_n 0, 1) := by decide +kernel
theorem dX4_tellHouse_56 : decode cX4_tellHouse 56 = .ok (.getfield 36, 3) := by decide +kernel
theorem dX4_tellHouse_59 : decode cX4_tellHouse 59 = .ok (.iaload, 1) := by decide +kernel
theorem dX4_tellHouse_60 : decode cX4_tellHouse 60 = .ok (.bipush 21, 2) := by decide +kernel
theorem dX4_tellHouse_62 : decode cX4_tellHouse 62 = .ok (.if_icmp .ne 27, 3) := by decide +kernel
theorem dX4_tellHouse_65 : decode cX4_tellHouse 65 = .ok (.aload_n 0, 1) := by decide +kernel
theorem dX4_tellHouse_66 : decode cX4_tellHouse 66 = .ok (.aload_n 0, 1) := by decide +kernel
theorem dX4_tellHouse_67 : decode cX4_tellHouse 67 = .ok (.getfield 12, 3) := by decide +kernel
theorem dX4_tellHouse_70 : decode cX4_tellHouse 70 = .ok (.getfield 73, 3) := by decide +kernel
theorem dX4_tellHouse_73 : decode cX4_tellHouse 73 = .ok (.aload_n 0, 1) := by decide +kernel
theorem dX4_tellHouse_74 : decode cX4_tellHouse 74 = .ok (.getfield 36, 3) := by decide +kernel
theorem dX4_tellHouse_77 : decode cX4_tellHouse 77 = .ok (.laload, 1) := by decide +kernel
theorem dX4_tellHouse_78 : decode cX4_tellHouse 78 = .ok (.invokevirtual 76, 3) := by decide +kernel
theorem dX4_tellHouse_81 : decode cX4_tellHouse 81 = .ok (.ifCond .eq 8, 3) := by decide +kernel
theorem dX4_tellHouse_84 : decode cX4_tellHouse 84 = .ok (.aload_n 0, 1) := by decide +kernel
theorem dX4_tellHouse_85 : decode cX4_tellHouse 85 = .ok (.iconst 3, 1) := by decide +kernel
theorem dX4_tellHouse_86 : decode cX4_tellHouse 86 = .ok (.invokevirtual 80, 3) := by decide +kernel
theorem dX4_tellHouse_89 : decode cX4_tellHouse 89 = .ok (.aload_n 0, 1) := by decide +kernel
theorem dX4_tellHouse_90 : decode cX4_tellHouse 90 = .ok (.bipush 21, 2) := by decide +kernel
theorem dX4_tellHouse_92 : decode cX4_tellHouse 92 = .ok (.invokevirtual 57, 3) := by decide +kernel
theorem dX4_tellHouse_95 : decode cX4_tellHouse 95 = .ok (.ifCond .ne 5, 3) := by decide +kernel
theorem dX4_tellHouse_98 : decode cX4_tellHouse 98 = .ok (.iconst 0, 1) := by decide +kernel
theorem dX4_tellHouse_99 : decode cX4_tellHouse 99 = .ok (.ireturn, 1) := by decide +kernel
theorem dX4_tellHouse_100 : decode cX4_tellHouse 100 = .ok (.iconst 0, 1) := by decide +kernel
theorem dX4_tellHouse_101 : decode cX4_tellHouse 101 = .ok (.istore_n 2, 1) := by decide +kernel
theorem dX4_tellHouse_102 : decode cX4_tellHouse 102 = .ok (.iload_n 2, 1) := by decide +kernel
theorem dX4_tellHouse_103 : decode cX4_tellHouse 103 = .ok (.iconst 5, 1) := by decide +kernel
theorem dX4_tellHouse_104 : decode cX4_tellHouse 104 = .ok (.if_icmp .ge 34, 3) := by decide +kernel
theorem dX4_tellHouse_107 : decode cX4_tellHouse 107 = .ok (.aload_n 0, 1) := by decide +kernel
theorem dX4_tellHouse_108 : decode cX4_tellHouse 108 = .ok (.getfield 21, 3) := by decide +kernel
theorem dX4_tellHouse_111 : decode cX4_tellHouse 111 = .ok (.iload_n 1, 1) := by decide +kernel
theorem dX4_tellHouse_112 : decode cX4_tellHouse 112 = .ok (.iload_n 2, 1) := by decide +kernel
theorem dX4_tellHouse_113 : decode cX4_tellHouse 113 = .ok (.aload_n 0, 1) := by decide +kernel
theorem dX4_tellHouse_114 : decode cX4_tellHouse 114 = .ok (.iload_n 2, 1) := by decide +kernel
theorem dX4_tellHouse_115 : decode cX4_tellHouse 115 = .ok (.invokevirtual 84, 3) := by decide +kernel
theorem dX4_tellHouse_118 : decode cX4_tellHouse 118 = .ok (.invokevirtual 88, 3) := by decide +kernel
theorem dX4_tellHouse_121 : decode cX4_tellHouse 121 = .ok (.aload_n 0, 1) := by decide +kernel
theorem dX4_tellHouse_122 : decode cX4_tellHouse 122 = .ok (.bipush 22, 2) := by decide +kernel
theorem dX4_tellHouse_124 : decode cX4_tellHouse 124 = .ok (.invokevirtual 57, 3) := by decide +kernel
theorem dX4_tellHouse_127 : decode cX4_tellHouse 127 = .ok (.ifCond .ne 5, 3) := by decide +kernel
theorem dX4_tellHouse_130 : decode cX4_tellHouse 130 = .ok (.iconst 0, 1) := by decide +kernel
theorem dX4_tellHouse_131 : decode cX4_tellHouse 131 = .ok (.ireturn, 1) := by decide +kernel
theorem dX4_tellHouse_132 : decode cX4_tellHouse 132 = .ok (.iinc 2 1, 3) := by decide +kernel
theorem dX4_tellHouse_135 : decode cX4_tellHouse 135 = .ok (.goto (-33), 3) := by decide +kernel
theorem dX4_tellHouse_138 : decode cX4_tellHouse 138 = .ok (.aload_n 0, 1) := by decide +kernel
theorem dX4_tellHouse_139 : decode cX4_tellHouse 139 = .ok (.getfield 21, 3) := by decide +kernel
theorem dX4_tellHouse_142 : decode cX4_tellHouse 142 = .ok (.dup, 1) := by decide +kernel
theorem dX4_tellHouse_143 : decode cX4_tellHouse 143 = .ok (.getfield 70, 3) := by decide +kernel
theorem dX4_tellHouse_146 : decode cX4_tellHouse 146 = .ok (.iconst 1, 1) := by decide +kernel
theorem dX4_tellHouse_147 : decode cX4_tellHouse 147 = .ok (.iadd, 1) := by decide +kernel
theorem dX4_tellHouse_148 : decode cX4_tellHouse 148 = .ok (.putfield 70, 3) := by decide +kernel
theorem dX4_tellHouse_151 : decode cX4_tellHouse 151 = .ok (.aload_n 0, 1) := by decide +kernel
theorem dX4_tellHouse_152 : decode cX4_tellHouse 152 = .ok (.bipush 59, 2) := by decide +kernel
theorem dX4_tellHouse_154 : decode cX4_tellHouse 154 = .ok (.invokevirtual 57, 3) := by decide +kernel
theorem dX4_tellHouse_157 : decode cX4_tellHouse 157 = .ok (.ireturn, 1) := by decide +kernel
theorem dX1_aimHere_0 : decode cX1_aimHere 0 = .ok (.iload_n 1, 1) := by decide +kernel
theorem dX1_aimHere_1 : decode cX1_aimHere 1 = .ok (.ifCond .lt 21, 3) := by decide +kernel
theorem dX1_aimHere_4 : decode cX1_aimHere 4 = .ok (.iload_n 1, 1) := by decide +kernel
theorem dX1_aimHere_5 : decode cX1_aimHere 5 = .ok (.aload_n 0, 1) := by decide +kernel
theorem dX1_aimHere_6 : decode cX1_aimHere 6 = .ok (.getfield 27, 3) := by decide +kernel
theorem dX1_aimHere_9 : decode cX1_aimHere 9 = .ok (.if_icmp .ge 13, 3) := by decide +kernel
theorem dX1_aimHere_12 : decode cX1_aimHere 12 = .ok (.aload_n 0, 1) := by decide +kernel
theorem dX1_aimHere_13 : decode cX1_aimHere 13 = .ok (.getfield 15, 3) := by decide +kernel
theorem dX1_aimHere_16 : decode cX1_aimHere 16 = .ok (.iload_n 1, 1) := by decide +kernel
theorem dX1_aimHere_17 : decode cX1_aimHere 17 = .ok (.aload_n 0, 1) := by decide +kernel
theorem dX1_aimHere_18 : decode cX1_aimHere 18 = .ok (.getfield 27, 3) := by decide +kernel
theorem dX1_aimHere_21 : decode cX1_aimHere 21 = .ok (.iastore, 1) := by decide +kernel
theorem dX1_aimHere_22 : decode cX1_aimHere 22 = .ok (.return_, 1) := by decide +kernel
theorem dX4_tellLaw_0 : decode cX4_tellLaw 0 = .ok (.aload_n 0, 1) := by decide +kernel
theorem dX4_tellLaw_1 : decode cX4_tellLaw 1 = .ok (.bipush 61, 2) := by decide +kernel
theorem dX4_tellLaw_3 : decode cX4_tellLaw 3 = .ok (.invokevirtual 57, 3) := by decide +kernel
theorem dX4_tellLaw_6 : decode cX4_tellLaw 6 = .ok (.ifCond .ne 5, 3) := by decide +kernel
theorem dX4_tellLaw_9 : decode cX4_tellLaw 9 = .ok (.iconst 0, 1) := by decide +kernel
theorem dX4_tellLaw_10 : decode cX4_tellLaw 10 = .ok (.ireturn, 1) := by decide +kernel
theorem dX4_tellLaw_11 : decode cX4_tellLaw 11 = .ok (.aload_n 0, 1) := by decide +kernel
theorem dX4_tellLaw_12 : decode cX4_tellLaw 12 = .ok (.getfield 21, 3) := by decide +kernel
theorem dX4_tellLaw_15 : decode cX4_tellLaw 15 = .ok (.getfield 110, 3) := by decide +kernel
theorem dX4_tellLaw_18 : decode cX4_tellLaw 18 = .ok (.astore_n 2, 1) := by decide +kernel
theorem dX4_tellLaw_19 : decode cX4_tellLaw 19 = .ok (.aload_n 2, 1) := by decide +kernel
theorem dX4_tellLaw_20 : decode cX4_tellLaw 20 = .ok (.iload_n 1, 1) := by decide +kernel
theorem dX4_tellLaw_21 : decode cX4_tellLaw 21 = .ok (.invokevirtual 114, 3) := by decide +kernel
theorem dX4_tellLaw_24 : decode cX4_tellLaw 24 = .ok (.iconst 0, 1) := by decide +kernel
theorem dX4_tellLaw_25 : decode cX4_tellLaw 25 = .ok (.istore_n 3, 1) := by decide +kernel
theorem dX4_tellLaw_26 : decode cX4_tellLaw 26 = .ok (.iload_n 3, 1) := by decide +kernel
theorem dX4_tellLaw_27 : decode cX4_tellLaw 27 = .ok (.iconst 4, 1) := by decide +kernel
theorem dX4_tellLaw_28 : decode cX4_tellLaw 28 = .ok (.if_icmp .gt 127, 3) := by decide +kernel
theorem dX4_tellLaw_31 : decode cX4_tellLaw 31 = .ok (.aload_n 0, 1) := by decide +kernel
theorem dX4_tellLaw_32 : decode cX4_tellLaw 32 = .ok (.getfield 12, 3) := by decide +kernel
theorem dX4_tellLaw_35 : decode cX4_tellLaw 35 = .ok (.getfield 46, 3) := by decide +kernel
theorem dX4_tellLaw_38 : decode cX4_tellLaw 38 = .ok (.aload_n 0, 1) := by decide +kernel
theorem dX4_tellLaw_39 : decode cX4_tellLaw 39 = .ok (.getfield 36, 3) := by decide +kernel
theorem dX4_tellLaw_42 : decode cX4_tellLaw 42 = .ok (.iaload, 1) := by decide +kernel
theorem dX4_tellLaw_43 : decode cX4_tellLaw 43 = .ok (.bipush 9, 2) := by decide +kernel
theorem dX4_tellLaw_45 : decode cX4_tellLaw 45 = .ok (.if_icmp .ne 110, 3) := by decide +kernel
theorem dX4_tellLaw_48 : decode cX4_tellLaw 48 = .ok (.iload_n 3, 1) := by decide +kernel
theorem dX4_tellLaw_49 : decode cX4_tellLaw 49 = .ok (.iconst 4, 1) := by decide +kernel
theorem dX4_tellLaw_50 : decode cX4_tellLaw 50 = .ok (.if_icmp .ne 9, 3) := by decide +kernel
theorem dX4_tellLaw_53 : decode cX4_tellLaw 53 = .ok (.aload_n 0, 1) := by decide +kernel
theorem dX4_tellLaw_54 : decode cX4_tellLaw 54 = .ok (.iconst 2, 1) := by decide +kernel
theorem dX4_tellLaw_55 : decode cX4_tellLaw 55 = .ok (.invokevirtual 67, 3) := by decide +kernel
theorem dX4_tellLaw_58 : decode cX4_tellLaw 58 = .ok (.ireturn, 1) := by decide +kernel
theorem dX4_tellLaw_59 : decode cX4_tellLaw 59 = .ok (.aload_n 0, 1) := by decide +kernel
theorem dX4_tellLaw_60 : decode cX4_tellLaw 60 = .ok (.bipush 9, 2) := by decide +kernel
theorem dX4_tellLaw_62 : decode cX4_tellLaw 62 = .ok (.invokevirtual 57, 3) := by decide +kernel
theorem dX4_tellLaw_65 : decode cX4_tellLaw 65 = .ok (.ifCond .eq 37, 3) := by decide +kernel
theorem dX4_tellLaw_68 : decode cX4_tellLaw 68 = .ok (.aload_n 0, 1) := by decide +kernel
theorem dX4_tellLaw_69 : decode cX4_tellLaw 69 = .ok (.iconst 0, 1) := by decide +kernel
theorem dX4_tellLaw_70 : decode cX4_tellLaw 70 = .ok (.invokevirtual 119, 3) := by decide +kernel
theorem dX4_tellLaw_73 : decode cX4_tellLaw 73 = .ok (.ifCond .eq 29, 3) := by decide +kernel
theorem dX4_tellLaw_76 : decode cX4_tellLaw 76 = .ok (.aload_n 0, 1) := by decide +kernel
theorem dX4_tellLaw_77 : decode cX4_tellLaw 77 = .ok (.bipush 60, 2) := by decide +kernel
theorem dX4_tellLaw_79 : decode cX4_tellLaw 79 = .ok (.invokevirtual 57, 3) := by decide +kernel
theorem dX4_tellLaw_82 : decode cX4_tellLaw 82 = .ok (.ifCond .eq 20, 3) := by decide +kernel
theorem dX4_tellLaw_85 : decode cX4_tellLaw 85 = .ok (.aload_n 0, 1) := by decide +kernel
theorem dX4_tellLaw_86 : decode cX4_tellLaw 86 = .ok (.iconst 0, 1) := by decide +kernel
theorem dX4_tellLaw_87 : decode cX4_tellLaw 87 = .ok (.invokevirtual 119, 3) := by decide +kernel
theorem dX4_tellLaw_90 : decode cX4_tellLaw 90 = .ok (.ifCond .eq 12, 3) := by decide +kernel
theorem dX4_tellLaw_93 : decode cX4_tellLaw 93 = .ok (.aload_n 0, 1) := by decide +kernel
theorem dX4_tellLaw_94 : decode cX4_tellLaw 94 = .ok (.bipush 10, 2) := by decide +kernel
theorem dX4_tellLaw_96 : decode cX4_tellLaw 96 = .ok (.invokevirtual 57, 3) := by decide +kernel
theorem dX4_tellLaw_99 : decode cX4_tellLaw 99 = .ok (.ifCond .ne 5, 3) := by decide +kernel
theorem dX4_tellLaw_102 : decode cX4_tellLaw 102 = .ok (.iconst 0, 1) := by decide +kernel
theorem dX4_tellLaw_103 : decode cX4_tellLaw 103 = .ok (.ireturn, 1) := by decide +kernel
theorem dX4_tellLaw_104 : decode cX4_tellLaw 104 = .ok (.aload_n 2, 1) := by decide +kernel
theorem dX4_tellLaw_105 : decode cX4_tellLaw 105 = .ok (.getfield 122, 3) := by decide +kernel
theorem dX4_tellLaw_108 : decode cX4_tellLaw 108 = .ok (.istore 4, 2) := by decide +kernel
theorem dX4_tellLaw_110 : decode cX4_tellLaw 110 = .ok (.aload_n 2, 1) := by decide +kernel
theorem dX4_tellLaw_111 : decode cX4_tellLaw 111 = .ok (.bipush 14, 2) := by decide +kernel
theorem dX4_tellLaw_113 : decode cX4_tellLaw 113 = .ok (.iconst 0, 1) := by decide +kernel
theorem dX4_tellLaw_114 : decode cX4_tellLaw 114 = .ok (.invokevirtual 125, 3) := by decide +kernel
theorem dX4_tellLaw_117 : decode cX4_tellLaw 117 = .ok (.aload_n 0, 1) := by decide +kernel
theorem dX4_tellLaw_118 : decode cX4_tellLaw 118 = .ok (.iconst 0, 1) := by decide +kernel
theorem dX4_tellLaw_119 : decode cX4_tellLaw 119 = .ok (.invokevirtual 119, 3) := by decide +kernel
theorem dX4_tellLaw_122 : decode cX4_tellLaw 122 = .ok (.ifCond .eq 12, 3) := by decide +kernel
theorem dX4_tellLaw_125 : decode cX4_tellLaw 125 = .ok (.aload_n 0, 1) := by decide +kernel
theorem dX4_tellLaw_126 : decode cX4_tellLaw 126 = .ok (.bipush 11, 2) := by decide +kernel
theorem dX4_tellLaw_128 : decode cX4_tellLaw 128 = .ok (.invokevirtual 57, 3) := by decide +kernel
theorem dX4_tellLaw_131 : decode cX4_tellLaw 131 = .ok (.ifCond .ne 5, 3) := by decide +kernel
theorem dX4_tellLaw_134 : decode cX4_tellLaw 134 = .ok (.iconst 0, 1) := by decide +kernel
theorem dX4_tellLaw_135 : decode cX4_tellLaw 135 = .ok (.ireturn, 1) := by decide +kernel
theorem dX4_tellLaw_136 : decode cX4_tellLaw 136 = .ok (.aload_n 2, 1) := by decide +kernel
theorem dX4_tellLaw_137 : decode cX4_tellLaw 137 = .ok (.bipush 15, 2) := by decide +kernel
theorem dX4_tellLaw_139 : decode cX4_tellLaw 139 = .ok (.iconst 0, 1) := by decide +kernel
theorem dX4_tellLaw_140 : decode cX4_tellLaw 140 = .ok (.invokevirtual 125, 3) := by decide +kernel
theorem dX4_tellLaw_143 : decode cX4_tellLaw 143 = .ok (.aload_n 2, 1) := by decide +kernel
theorem dX4_tellLaw_144 : decode cX4_tellLaw 144 = .ok (.iload 4, 2) := by decide +kernel
theorem dX4_tellLaw_146 : decode cX4_tellLaw 146 = .ok (.invokevirtual 129, 3) := by decide +kernel
theorem dX4_tellLaw_149 : decode cX4_tellLaw 149 = .ok (.iinc 3 1, 3) := by decide +kernel
theorem dX4_tellLaw_152 : decode cX4_tellLaw 152 = .ok (.goto (-126), 3) := by decide +kernel
theorem dX4_tellLaw_155 : decode cX4_tellLaw 155 = .ok (.aload_n 0, 1) := by decide +kernel
theorem dX4_tellLaw_156 : decode cX4_tellLaw 156 = .ok (.iconst 0, 1) := by decide +kernel
theorem dX4_tellLaw_157 : decode cX4_tellLaw 157 = .ok (.invokevirtual 119, 3) := by decide +kernel
theorem dX4_tellLaw_160 : decode cX4_tellLaw 160 = .ok (.ifCond .ne 5, 3) := by decide +kernel
theorem dX4_tellLaw_163 : decode cX4_tellLaw 163 = .ok (.iconst 0, 1) := by decide +kernel
theorem dX4_tellLaw_164 : decode cX4_tellLaw 164 = .ok (.ireturn, 1) := by decide +kernel
theorem dX4_tellLaw_165 : decode cX4_tellLaw 165 = .ok (.aload_n 2, 1) := by decide +kernel
theorem dX4_tellLaw_166 : decode cX4_tellLaw 166 = .ok (.bipush 15, 2) := by decide +kernel
theorem dX4_tellLaw_168 : decode cX4_tellLaw 168 = .ok (.iconst 0, 1) := by decide +kernel
theorem dX4_tellLaw_169 : decode cX4_tellLaw 169 = .ok (.invokevirtual 125, 3) := by decide +kernel
theorem dX4_tellLaw_172 : decode cX4_tellLaw 172 = .ok (.aload_n 0, 1) := by decide +kernel
theorem dX4_tellLaw_173 : decode cX4_tellLaw 173 = .ok (.bipush 59, 2) := by decide +kernel
theorem dX4_tellLaw_175 : decode cX4_tellLaw 175 = .ok (.invokevirtual 57, 3) := by decide +kernel
theorem dX4_tellLaw_178 : decode cX4_tellLaw 178 = .ok (.ireturn, 1) := by decide +kernel
theorem dX4_tellNumber_0 : decode cX4_tellNumber 0 = .ok (.aload_n 0, 1) := by decide +kernel
theorem dX4_tellNumber_1 : decode cX4_tellNumber 1 = .ok (.iconst 5, 1) := by decide +kernel
theorem dX4_tellNumber_2 : decode cX4_tellNumber 2 = .ok (.iload_n 1, 1) := by decide +kernel
theorem dX4_tellNumber_3 : decode cX4_tellNumber 3 = .ok (.iadd, 1) := by decide +kernel
theorem dX4_tellNumber_4 : decode cX4_tellNumber 4 = .ok (.iconst 5, 1) := by decide +kernel
theorem dX4_tellNumber_5 : decode cX4_tellNumber 5 = .ok (.isub, 1) := by decide +kernel
theorem dX4_tellNumber_6 : decode cX4_tellNumber 6 = .ok (.invokevirtual 84, 3) := by decide +kernel
theorem dX4_tellNumber_9 : decode cX4_tellNumber 9 = .ok (.istore_n 2, 1) := by decide +kernel
theorem dX4_tellNumber_10 : decode cX4_tellNumber 10 = .ok (.aload_n 0, 1) := by decide +kernel
theorem dX4_tellNumber_11 : decode cX4_tellNumber 11 = .ok (.bipush 22, 2) := by decide +kernel
theorem dX4_tellNumber_13 : decode cX4_tellNumber 13 = .ok (.invokevirtual 57, 3) := by decide +kernel
theorem dX4_tellNumber_16 : decode cX4_tellNumber 16 = .ok (.ifCond .ne 5, 3) := by decide +kernel
theorem dX4_tellNumber_19 : decode cX4_tellNumber 19 = .ok (.iconst 0, 1) := by decide +kernel
theorem dX4_tellNumber_20 : decode cX4_tellNumber 20 = .ok (.ireturn, 1) := by decide +kernel
theorem dX4_tellNumber_21 : decode cX4_tellNumber 21 = .ok (.iload_n 1, 1) := by decide +kernel
theorem dX4_tellNumber_22 : decode cX4_tellNumber 22 = .ok (.iconst 5, 1) := by decide +kernel
theorem dX4_tellNumber_23 : decode cX4_tellNumber 23 = .ok (.isub, 1) := by decide +kernel
theorem dX4_tellNumber_24 : decode cX4_tellNumber 24 = .ok (.tableswitch 61 0 2 #[28, 39, 50], 28) := by decide +kernel
theorem dX4_tellNumber_52 : decode cX4_tellNumber 52 = .ok (.aload_n 0, 1) := by decide +kernel
theorem dX4_tellNumber_53 : decode cX4_tellNumber 53 = .ok (.getfield 21, 3) := by decide +kernel
theorem dX4_tellNumber_56 : decode cX4_tellNumber 56 = .ok (.iload_n 2, 1) := by decide +kernel
theorem dX4_tellNumber_57 : decode cX4_tellNumber 57 = .ok (.putfield 92, 3) := by decide +kernel
theorem dX4_tellNumber_60 : decode cX4_tellNumber 60 = .ok (.goto 33, 3) := by decide +kernel
theorem dX4_tellNumber_63 : decode cX4_tellNumber 63 = .ok (.aload_n 0, 1) := by decide +kernel
theorem dX4_tellNumber_64 : decode cX4_tellNumber 64 = .ok (.getfield 21, 3) := by decide +kernel
theorem dX4_tellNumber_67 : decode cX4_tellNumber 67 = .ok (.iload_n 2, 1) := by decide +kernel
theorem dX4_tellNumber_68 : decode cX4_tellNumber 68 = .ok (.putfield 95, 3) := by decide +kernel
theorem dX4_tellNumber_71 : decode cX4_tellNumber 71 = .ok (.goto 22, 3) := by decide +kernel
theorem dX4_tellNumber_74 : decode cX4_tellNumber 74 = .ok (.aload_n 0, 1) := by decide +kernel
theorem dX4_tellNumber_75 : decode cX4_tellNumber 75 = .ok (.getfield 21, 3) := by decide +kernel
theorem dX4_tellNumber_78 : decode cX4_tellNumber 78 = .ok (.iload_n 2, 1) := by decide +kernel
theorem dX4_tellNumber_79 : decode cX4_tellNumber 79 = .ok (.putfield 98, 3) := by decide +kernel
theorem dX4_tellNumber_82 : decode cX4_tellNumber 82 = .ok (.goto 11, 3) := by decide +kernel
theorem dX4_tellNumber_85 : decode cX4_tellNumber 85 = .ok (.aload_n 0, 1) := by decide +kernel
theorem dX4_tellNumber_86 : decode cX4_tellNumber 86 = .ok (.getfield 21, 3) := by decide +kernel
theorem dX4_tellNumber_89 : decode cX4_tellNumber 89 = .ok (.iload_n 2, 1) := by decide +kernel
theorem dX4_tellNumber_90 : decode cX4_tellNumber 90 = .ok (.putfield 101, 3) := by decide +kernel
theorem dX4_tellNumber_93 : decode cX4_tellNumber 93 = .ok (.aload_n 0, 1) := by decide +kernel
theorem dX4_tellNumber_94 : decode cX4_tellNumber 94 = .ok (.bipush 59, 2) := by decide +kernel
theorem dX4_tellNumber_96 : decode cX4_tellNumber 96 = .ok (.invokevirtual 57, 3) := by decide +kernel
theorem dX4_tellNumber_99 : decode cX4_tellNumber 99 = .ok (.ireturn, 1) := by decide +kernel
theorem dX4_tellOne_0 : decode cX4_tellOne 0 = .ok (.aload_n 0, 1) := by decide +kernel
theorem dX4_tellOne_1 : decode cX4_tellOne 1 = .ok (.getfield 12, 3) := by decide +kernel
theorem dX4_tellOne_4 : decode cX4_tellOne 4 = .ok (.getfield 46, 3) := by decide +kernel
theorem dX4_tellOne_7 : decode cX4_tellOne 7 = .ok (.aload_n 0, 1) := by decide +kernel
theorem dX4_tellOne_8 : decode cX4_tellOne 8 = .ok (.getfield 36, 3) := by decide +kernel
theorem dX4_tellOne_11 : decode cX4_tellOne 11 = .ok (.iaload, 1) := by decide +kernel
theorem dX4_tellOne_12 : decode cX4_tellOne 12 = .ok (.istore_n 1, 1) := by decide +kernel
theorem dX4_tellOne_13 : decode cX4_tellOne 13 = .ok (.iload_n 1, 1) := by decide +kernel
theorem dX4_tellOne_14 : decode cX4_tellOne 14 = .ok (.ifCond .ne 8, 3) := by decide +kernel
theorem dX4_tellOne_17 : decode cX4_tellOne 17 = .ok (.aload_n 0, 1) := by decide +kernel
theorem dX4_tellOne_18 : decode cX4_tellOne 18 = .ok (.invokevirtual 54, 3) := by decide +kernel
theorem dX4_tellOne_21 : decode cX4_tellOne 21 = .ok (.ireturn, 1) := by decide +kernel
theorem dX4_tellOne_22 : decode cX4_tellOne 22 = .ok (.iload_n 1, 1) := by decide +kernel
theorem dX4_tellOne_23 : decode cX4_tellOne 23 = .ok (.iconst 1, 1) := by decide +kernel
theorem dX4_tellOne_24 : decode cX4_tellOne 24 = .ok (.if_icmp .lt 32, 3) := by decide +kernel
theorem dX4_tellOne_27 : decode cX4_tellOne 27 = .ok (.iload_n 1, 1) := by decide +kernel
theorem dX4_tellOne_28 : decode cX4_tellOne 28 = .ok (.iconst 4, 1) := by decide +kernel
theorem dX4_tellOne_29 : decode cX4_tellOne 29 = .ok (.if_icmp .gt 27, 3) := by decide +kernel
theorem dX4_tellOne_32 : decode cX4_tellOne 32 = .ok (.aload_n 0, 1) := by decide +kernel
theorem dX4_tellOne_33 : decode cX4_tellOne 33 = .ok (.iload_n 1, 1) := by decide +kernel
theorem dX4_tellOne_34 : decode cX4_tellOne 34 = .ok (.invokevirtual 57, 3) := by decide +kernel
theorem dX4_tellOne_37 : decode cX4_tellOne 37 = .ok (.ifCond .eq 17, 3) := by decide +kernel
theorem dX4_tellOne_40 : decode cX4_tellOne 40 = .ok (.aload_n 0, 1) := by decide +kernel
theorem dX4_tellOne_41 : decode cX4_tellOne 41 = .ok (.iload_n 1, 1) := by decide +kernel
theorem dX4_tellOne_42 : decode cX4_tellOne 42 = .ok (.iconst 1, 1) := by decide +kernel
theorem dX4_tellOne_43 : decode cX4_tellOne 43 = .ok (.isub, 1) := by decide +kernel
theorem dX4_tellOne_44 : decode cX4_tellOne 44 = .ok (.invokevirtual 61, 3) := by decide +kernel
theorem dX4_tellOne_47 : decode cX4_tellOne 47 = .ok (.ifCond .eq 7, 3) := by decide +kernel
theorem dX4_tellOne_50 : decode cX4_tellOne 50 = .ok (.iconst 1, 1) := by decide +kernel
theorem dX4_tellOne_51 : decode cX4_tellOne 51 = .ok (.goto 4, 3) := by decide +kernel
theorem dX4_tellOne_54 : decode cX4_tellOne 54 = .ok (.iconst 0, 1) := by decide +kernel
theorem dX4_tellOne_55 : decode cX4_tellOne 55 = .ok (.ireturn, 1) := by decide +kernel
theorem dX4_tellOne_56 : decode cX4_tellOne 56 = .ok (.iload_n 1, 1) := by decide +kernel
theorem dX4_tellOne_57 : decode cX4_tellOne 57 = .ok (.iconst 5, 1) := by decide +kernel
theorem dX4_tellOne_58 : decode cX4_tellOne 58 = .ok (.if_icmp .lt 31, 3) := by decide +kernel
theorem dX4_tellOne_61 : decode cX4_tellOne 61 = .ok (.iload_n 1, 1) := by decide +kernel
theorem dX4_tellOne_62 : decode cX4_tellOne 62 = .ok (.bipush 8, 2) := by decide +kernel
theorem dX4_tellOne_64 : decode cX4_tellOne 64 = .ok (.if_icmp .gt 25, 3) := by decide +kernel
theorem dX4_tellOne_67 : decode cX4_tellOne 67 = .ok (.aload_n 0, 1) := by decide +kernel
theorem dX4_tellOne_68 : decode cX4_tellOne 68 = .ok (.iload_n 1, 1) := by decide +kernel
theorem dX4_tellOne_69 : decode cX4_tellOne 69 = .ok (.invokevirtual 57, 3) := by decide +kernel
theorem dX4_tellOne_72 : decode cX4_tellOne 72 = .ok (.ifCond .eq 15, 3) := by decide +kernel
theorem dX4_tellOne_75 : decode cX4_tellOne 75 = .ok (.aload_n 0, 1) := by decide +kernel
theorem dX4_tellOne_76 : decode cX4_tellOne 76 = .ok (.iload_n 1, 1) := by decide +kernel
theorem dX4_tellOne_77 : decode cX4_tellOne 77 = .ok (.invokevirtual 64, 3) := by decide +kernel
theorem dX4_tellOne_80 : decode cX4_tellOne 80 = .ok (.ifCond .eq 7, 3) := by decide +kernel
theorem dX4_tellOne_83 : decode cX4_tellOne 83 = .ok (.iconst 1, 1) := by decide +kernel
theorem dX4_tellOne_84 : decode cX4_tellOne 84 = .ok (.goto 4, 3) := by decide +kernel
theorem dX4_tellOne_87 : decode cX4_tellOne 87 = .ok (.iconst 0, 1) := by decide +kernel
theorem dX4_tellOne_88 : decode cX4_tellOne 88 = .ok (.ireturn, 1) := by decide +kernel
theorem dX4_tellOne_89 : decode cX4_tellOne 89 = .ok (.aload_n 0, 1) := by decide +kernel
theorem dX4_tellOne_90 : decode cX4_tellOne 90 = .ok (.iconst 1, 1) := by decide +kernel
theorem dX4_tellOne_91 : decode cX4_tellOne 91 = .ok (.invokevirtual 67, 3) := by decide +kernel
theorem dX4_tellOne_94 : decode cX4_tellOne 94 = .ok (.ireturn, 1) := by decide +kernel
theorem dX4_readText_0 : decode cX4_readText 0 = .ok (.aload_n 0, 1) := by decide +kernel
theorem dX4_readText_1 : decode cX4_readText 1 = .ok (.getfield 12, 3) := by decide +kernel
theorem dX4_readText_4 : decode cX4_readText 4 = .ok (.aload_n 1, 1) := by decide +kernel
theorem dX4_readText_5 : decode cX4_readText 5 = .ok (.iload_n 2, 1) := by decide +kernel
theorem dX4_readText_6 : decode cX4_readText 6 = .ok (.invokevirtual 29, 3) := by decide +kernel
theorem dX4_readText_9 : decode cX4_readText 9 = .ok (.aload_n 0, 1) := by decide +kernel
theorem dX4_readText_10 : decode cX4_readText 10 = .ok (.getfield 21, 3) := by decide +kernel
theorem dX4_readText_13 : decode cX4_readText 13 = .ok (.invokevirtual 33, 3) := by decide +kernel
theorem dX4_readText_16 : decode cX4_readText 16 = .ok (.aload_n 0, 1) := by decide +kernel
theorem dX4_readText_17 : decode cX4_readText 17 = .ok (.iconst 0, 1) := by decide +kernel
theorem dX4_readText_18 : decode cX4_readText 18 = .ok (.putfield 36, 3) := by decide +kernel
theorem dX4_readText_21 : decode cX4_readText 21 = .ok (.aload_n 0, 1) := by decide +kernel
theorem dX4_readText_22 : decode cX4_readText 22 = .ok (.iconst 0, 1) := by decide +kernel
theorem dX4_readText_23 : decode cX4_readText 23 = .ok (.putfield 40, 3) := by decide +kernel
theorem dX4_readText_26 : decode cX4_readText 26 = .ok (.aload_n 0, 1) := by decide +kernel
theorem dX4_readText_27 : decode cX4_readText 27 = .ok (.iconst (-1), 1) := by decide +kernel
theorem dX4_readText_28 : decode cX4_readText 28 = .ok (.putfield 43, 3) := by decide +kernel
theorem dX4_readText_31 : decode cX4_readText 31 = .ok (.iconst 1, 1) := by decide +kernel
theorem dX4_readText_32 : decode cX4_readText 32 = .ok (.istore_n 3, 1) := by decide +kernel
theorem dX4_readText_33 : decode cX4_readText 33 = .ok (.iconst 0, 1) := by decide +kernel
theorem dX4_readText_34 : decode cX4_readText 34 = .ok (.istore 4, 2) := by decide +kernel
theorem dX4_readText_36 : decode cX4_readText 36 = .ok (.iload 4, 2) := by decide +kernel
theorem dX4_readText_38 : decode cX4_readText 38 = .ok (.sipush 400, 3) := by decide +kernel
theorem dX4_readText_41 : decode cX4_readText 41 = .ok (.if_icmp .gt 43, 3) := by decide +kernel
theorem dX4_readText_44 : decode cX4_readText 44 = .ok (.iload_n 3, 1) := by decide +kernel
theorem dX4_readText_45 : decode cX4_readText 45 = .ok (.ifCond .eq 39, 3) := by decide +kernel
theorem dX4_readText_48 : decode cX4_readText 48 = .ok (.aload_n 0, 1) := by decide +kernel
theorem dX4_readText_49 : decode cX4_readText 49 = .ok (.getfield 12, 3) := by decide +kernel
theorem dX4_readText_52 : decode cX4_readText 52 = .ok (.getfield 46, 3) := by decide +kernel
theorem dX4_readText_55 : decode cX4_readText 55 = .ok (.aload_n 0, 1) := by decide +kernel
theorem dX4_readText_56 : decode cX4_readText 56 = .ok (.getfield 36, 3) := by decide +kernel
theorem dX4_readText_59 : decode cX4_readText 59 = .ok (.iaload, 1) := by decide +kernel
theorem dX4_readText_60 : decode cX4_readText 60 = .ok (.bipush 23, 2) := by decide +kernel
theorem dX4_readText_62 : decode cX4_readText 62 = .ok (.if_icmp .eq 14, 3) := by decide +kernel
theorem dX4_readText_65 : decode cX4_readText 65 = .ok (.aload_n 0, 1) := by decide +kernel
theorem dX4_readText_66 : decode cX4_readText 66 = .ok (.invokevirtual 50, 3) := by decide +kernel
theorem dX4_readText_69 : decode cX4_readText 69 = .ok (.ifCond .eq 7, 3) := by decide +kernel
theorem dX4_readText_72 : decode cX4_readText 72 = .ok (.iconst 1, 1) := by decide +kernel
theorem dX4_readText_73 : decode cX4_readText 73 = .ok (.goto 4, 3) := by decide +kernel
theorem dX4_readText_76 : decode cX4_readText 76 = .ok (.iconst 0, 1) := by decide +kernel
theorem dX4_readText_77 : decode cX4_readText 77 = .ok (.istore_n 3, 1) := by decide +kernel
theorem dX4_readText_78 : decode cX4_readText 78 = .ok (.iinc 4 1, 3) := by decide +kernel
theorem dX4_readText_81 : decode cX4_readText 81 = .ok (.goto (-45), 3) := by decide +kernel
theorem dX4_readText_84 : decode cX4_readText 84 = .ok (.aload_n 0, 1) := by decide +kernel
theorem dX4_readText_85 : decode cX4_readText 85 = .ok (.getfield 40, 3) := by decide +kernel
theorem dX4_readText_88 : decode cX4_readText 88 = .ok (.ireturn, 1) := by decide +kernel
section WK5
variable {p : Program} {l : Launch} {e : Env} {s : State} {m : MethodId} {args : Array Value} {below : List Frame} {meth : Method} {c : Code} {ω : WW}

set_option maxHeartbeats 4000000 in
set_option maxRecDepth 100000 in
theorem wX4_unit_b {D : Nat} (hD : 10 ≤ D) (hW : FWC ω) (C : Cx ω p s m args c cX4_unit 3 RX4) (hr : meth.sig.returnType = some .boolean) (hk : meth.locks = false) {rr : Int32} {μo : Mem} {go : Int32 → Mem → Option (Int32 × Mem)} (hgo : ∀ (x1g : Int32) (μ1 : Mem) (rg : Int32) (μ2 : Mem), go x1g μ1 = some (rg, μ2) → Con l yX4_sum cX4_sum 4 (some .boolean) D ω [.ref (wB ω + 3), .int x1g] μ1 (some (.int rg)) μ2) {x1 : Int32} {μ : Mem} {H : Heap} {locs : List Loc} {ls : Array Slot} (hH : Hd ω μ H) (hS : FS ω s H locs) (hl : lv_has ls 3 [(0, .ref (wB ω + 3)), (1, .int x1)]) (h : fX4_unit_b go x1 μ = some (rr, μo)) : W p l e (rmd (D + 1)) s m args below meth c H locs 0 0 (MQ below (QR ω (some (.int rr)) μo) args s 0 0 (wA ω)) (F0 m 0 ls []) := by
  have hx := C.1
  have hb := C.2.1
  unfold fX4_unit_b at h
  refine lv_aload_n hx hb dX4_unit_0 rfl (lv_at hl 0 rfl) ?_
  refine g_293 (i := 4) C hH (jC_3 hW) rfl dX4_unit_1 ?_
  refine g_191 (i := 6) C hH (jC_4 hW) rfl dX4_unit_4 ?_
  refine lv_aload_n hx hb dX4_unit_7 rfl (lv_at hl 0 rfl) ?_
  refine g_297 C hH (jC_3 hW) dX4_unit_8 ?_
  obtain ⟨b1, h⟩ := gd_e h
  refine h_iald C hH (jC_6 hW).1 (jC_6 hW).2.1 b1 dX4_unit_11 ?_
  obtain ⟨y2, e3, h⟩ := bd_e h
  refine h_topi e3 ?_
  refine lv_istore_n (lv' := [(2, .int y2), (0, .ref (wB ω + 3)), (1, .int x1)]) hx hb dX4_unit_12 rfl hl (by decide) rfl (fun ls hl => ?_)
  refine lv_iload_n hx hb dX4_unit_13 rfl (lv_at hl 0 rfl) ?_
  refine lv_bipush (v := 40) hx hb dX4_unit_14 (by decide) ?_
  refine lv_icmp_ne (tgt := 65) hx hb dX4_unit_16 (by decide) (fun hc => ?_) (fun hc => ?_)
  · have h := ite_f hc h
    refine lv_iload_n hx hb dX4_unit_65 rfl (lv_at hl 0 rfl) ?_
    refine lv_bipush (v := 22) hx hb dX4_unit_66 (by decide) ?_
    refine lv_icmp_ne (tgt := 99) hx hb dX4_unit_68 (by decide) (fun hc => ?_) (fun hc => ?_)
    · have h := ite_f hc h
      refine lv_iload_n hx hb dX4_unit_99 rfl (lv_at hl 0 rfl) ?_
      refine lv_bipush (v := 12) hx hb dX4_unit_100 (by decide) ?_
      refine lv_icmp_lt (tgt := 129) hx hb dX4_unit_102 (by decide) (fun hc => ?_) (fun hc => ?_)
      · have h := ite_t hc h
        refine lv_aload_n hx hb dX4_unit_129 rfl (lv_at hl 1 rfl) ?_
        refine lv_iconst (v := 1) hx hb dX4_unit_130 (by decide) ?_
        obtain ⟨r6, μ5, e4, h⟩ := b2_e h
        refine cVi (as := [.int 1]) (rest := []) (c_X4_refuse hW e4) C hl.1 hH hS rfl (jC_3 hW) rfl wd_5 wd_651 mw_X4_refuse wd_649 rfl (rm_ok (by omega) (by decide)) (Nat.le_of_ble_eq_true rfl) ⟨Nat.zero_le _, Nat.zero_le _⟩ (by decide) dX4_unit_131 (fun H locs hH hS => ?_)
        exact h_zret (y := r6 &&& 1) C hr hk hH hS rfl (by cases h; rfl) dX4_unit_134
      · have h := ite_f hc h
        refine lv_iload_n hx hb dX4_unit_105 rfl (lv_at hl 0 rfl) ?_
        refine lv_bipush (v := 20) hx hb dX4_unit_106 (by decide) ?_
        refine lv_icmp_gt (tgt := 129) hx hb dX4_unit_108 (by decide) (fun hc => ?_) (fun hc => ?_)
        · have h := ite_t hc h
          refine lv_aload_n hx hb dX4_unit_129 rfl (lv_at hl 1 rfl) ?_
          refine lv_iconst (v := 1) hx hb dX4_unit_130 (by decide) ?_
          obtain ⟨r9, μ8, e7, h⟩ := b2_e h
          refine cVi (as := [.int 1]) (rest := []) (c_X4_refuse hW e7) C hl.1 hH hS rfl (jC_3 hW) rfl wd_5 wd_651 mw_X4_refuse wd_649 rfl (rm_ok (by omega) (by decide)) (Nat.le_of_ble_eq_true rfl) ⟨Nat.zero_le _, Nat.zero_le _⟩ (by decide) dX4_unit_131 (fun H locs hH hS => ?_)
          exact h_zret (y := r9 &&& 1) C hr hk hH hS rfl (by cases h; rfl) dX4_unit_134
        · have h := ite_f hc h
          refine lv_aload_n hx hb dX4_unit_111 rfl (lv_at hl 1 rfl) ?_
          refine g_294 (i := 9) C hH (jC_3 hW) rfl dX4_unit_112 ?_
          refine g_259 (i := 11) C hH (jC_9 hW) rfl dX4_unit_115 ?_
          refine lv_iload_n hx hb dX4_unit_118 rfl (lv_at hl 0 rfl) ?_
          refine lv_bipush (v := 12) hx hb dX4_unit_119 (by decide) ?_
          refine lv_isub hx hb dX4_unit_121 ?_
          refine lv_iconst (v := 0) hx hb dX4_unit_122 (by decide) ?_
          obtain ⟨μ11, e10, h⟩ := b1_e h
          refine cVv (as := [.int (y2 - 12), .int 0]) (rest := []) (c_X1_append (lC_11 hW) e10) C hl.1 hH hS rfl (jC_11 hW) rfl wd_233 wd_232 mw_X1_append wd_694 rfl (rm_ok (by omega) (by decide)) (Nat.le_of_ble_eq_true rfl) ⟨Nat.zero_le _, Nat.zero_le _⟩ (by decide) dX4_unit_123 (fun H locs hH hS => ?_)
          refine lv_goto (tgt := 135) hx hb dX4_unit_126 (by decide) ?_
          refine lv_aload_n hx hb dX4_unit_135 rfl (lv_at hl 1 rfl) ?_
          refine lv_iload_n hx hb dX4_unit_136 rfl (lv_at hl 0 rfl) ?_
          obtain ⟨r14, μ13, e12, h⟩ := b2_e h
          refine cVi (as := [.int y2]) (rest := []) (c_X4_take hW e12) C hl.1 hH hS rfl (jC_3 hW) rfl wd_6 wd_655 mw_X4_take wd_653 rfl (rm_ok (by omega) (by decide)) (Nat.le_of_ble_eq_true rfl) ⟨Nat.zero_le _, Nat.zero_le _⟩ (by decide) dX4_unit_137 (fun H locs hH hS => ?_)
          exact h_zret (y := r14 &&& 1) C hr hk hH hS rfl (by cases h; rfl) dX4_unit_140
    · have h := ite_t hc h
      refine lv_aload_n hx hb dX4_unit_71 rfl (lv_at hl 1 rfl) ?_
      refine g_294 (i := 9) C hH (jC_3 hW) rfl dX4_unit_72 ?_
      refine g_259 (i := 11) C hH (jC_9 hW) rfl dX4_unit_75 ?_
      refine lv_bipush (v := 9) hx hb dX4_unit_78 (by decide) ?_
      refine lv_aload_n hx hb dX4_unit_80 rfl (lv_at hl 1 rfl) ?_
      refine g_293 (i := 4) C hH (jC_3 hW) rfl dX4_unit_81 ?_
      refine g_193 (i := 7) C hH (jC_4 hW) rfl dX4_unit_84 ?_
      refine lv_aload_n hx hb dX4_unit_87 rfl (lv_at hl 1 rfl) ?_
      refine g_297 C hH (jC_3 hW) dX4_unit_88 ?_
      obtain ⟨b15, h⟩ := gd_e h
      refine h_lald C hH (jC_7 hW).1 (jC_7 hW).2.1 b15 dX4_unit_91 ?_
      refine lv_l2i (v := (μ.2 7 ((μ.1 3 2).toNatClampNeg)).toInt32) hx hb dX4_unit_92 rfl ?_
      obtain ⟨μ17, e16, h⟩ := b1_e h
      refine cVv (as := [.int 9, .int ((μ.2 7 ((μ.1 3 2).toNatClampNeg)).toInt32)]) (rest := []) (c_X1_append (lC_11 hW) e16) C hl.1 hH hS rfl (jC_11 hW) rfl wd_233 wd_232 mw_X1_append wd_694 rfl (rm_ok (by omega) (by decide)) (Nat.le_of_ble_eq_true rfl) ⟨Nat.zero_le _, Nat.zero_le _⟩ (by decide) dX4_unit_93 (fun H locs hH hS => ?_)
      refine lv_goto (tgt := 135) hx hb dX4_unit_96 (by decide) ?_
      refine lv_aload_n hx hb dX4_unit_135 rfl (lv_at hl 1 rfl) ?_
      refine lv_iload_n hx hb dX4_unit_136 rfl (lv_at hl 0 rfl) ?_
      obtain ⟨r20, μ19, e18, h⟩ := b2_e h
      refine cVi (as := [.int y2]) (rest := []) (c_X4_take hW e18) C hl.1 hH hS rfl (jC_3 hW) rfl wd_6 wd_655 mw_X4_take wd_653 rfl (rm_ok (by omega) (by decide)) (Nat.le_of_ble_eq_true rfl) ⟨Nat.zero_le _, Nat.zero_le _⟩ (by decide) dX4_unit_137 (fun H locs hH hS => ?_)
      exact h_zret (y := r20 &&& 1) C hr hk hH hS rfl (by cases h; rfl) dX4_unit_140
  · have h := ite_t hc h
    refine lv_iload_n hx hb dX4_unit_19 rfl (lv_at hl 2 rfl) ?_
    refine lv_bipush (v := 6) hx hb dX4_unit_20 (by decide) ?_
    refine lv_icmp_lt (tgt := 31) hx hb dX4_unit_22 (by decide) (fun hc => ?_) (fun hc => ?_)
    · have h := ite_t hc h
      refine lv_aload_n hx hb dX4_unit_31 rfl (lv_at hl 1 rfl) ?_
      refine lv_bipush (v := 40) hx hb dX4_unit_32 (by decide) ?_
      obtain ⟨r23, μ22, e21, h⟩ := b2_e h
      refine cVi (as := [.int 40]) (rest := []) (c_X4_take hW e21) C hl.1 hH hS rfl (jC_3 hW) rfl wd_6 wd_655 mw_X4_take wd_653 rfl (rm_ok (by omega) (by decide)) (Nat.le_of_ble_eq_true rfl) ⟨Nat.zero_le _, Nat.zero_le _⟩ (by decide) dX4_unit_34 (fun H locs hH hS => ?_)
      refine lv_if_eq (tgt := 63) hx hb dX4_unit_37 (by decide) (fun hc => ?_) (fun hc => ?_)
      · have h := ite_t hc h
        refine lv_iconst (v := 0) hx hb dX4_unit_63 (by decide) ?_
        exact h_zret (y := 0) C hr hk hH hS rfl (by cases h; rfl) dX4_unit_64
      · have h := ite_f hc h
        refine lv_aload_n hx hb dX4_unit_40 rfl (lv_at hl 1 rfl) ?_
        refine lv_iload_n hx hb dX4_unit_41 rfl (lv_at hl 2 rfl) ?_
        refine lv_iconst (v := 1) hx hb dX4_unit_42 (by decide) ?_
        refine lv_iadd hx hb dX4_unit_43 ?_
        obtain ⟨r26, μ25, e24, h⟩ := b2_e h
        refine cVi (as := [.int (x1 + 1)]) (rest := []) (hgo _ _ _ _ e24) C hl.1 hH hS rfl (jC_3 hW) rfl wd_11 wd_684 mw_X4_sum wd_682 rfl (rm_ok (by omega) (by decide)) (Nat.le_of_ble_eq_true rfl) ⟨Nat.zero_le _, Nat.zero_le _⟩ (by decide) dX4_unit_44 (fun H locs hH hS => ?_)
        refine lv_if_eq (tgt := 63) hx hb dX4_unit_47 (by decide) (fun hc => ?_) (fun hc => ?_)
        · have h := ite_t hc h
          refine lv_iconst (v := 0) hx hb dX4_unit_63 (by decide) ?_
          exact h_zret (y := 0) C hr hk hH hS rfl (by cases h; rfl) dX4_unit_64
        · have h := ite_f hc h
          refine lv_aload_n hx hb dX4_unit_50 rfl (lv_at hl 1 rfl) ?_
          refine lv_bipush (v := 41) hx hb dX4_unit_51 (by decide) ?_
          obtain ⟨r29, μ28, e27, h⟩ := b2_e h
          refine cVi (as := [.int 41]) (rest := []) (c_X4_take hW e27) C hl.1 hH hS rfl (jC_3 hW) rfl wd_6 wd_655 mw_X4_take wd_653 rfl (rm_ok (by omega) (by decide)) (Nat.le_of_ble_eq_true rfl) ⟨Nat.zero_le _, Nat.zero_le _⟩ (by decide) dX4_unit_53 (fun H locs hH hS => ?_)
          refine lv_if_eq (tgt := 63) hx hb dX4_unit_56 (by decide) (fun hc => ?_) (fun hc => ?_)
          · have h := ite_t hc h
            refine lv_iconst (v := 0) hx hb dX4_unit_63 (by decide) ?_
            exact h_zret (y := 0) C hr hk hH hS rfl (by cases h; rfl) dX4_unit_64
          · have h := ite_f hc h
            refine lv_iconst (v := 1) hx hb dX4_unit_59 (by decide) ?_
            refine lv_goto (tgt := 64) hx hb dX4_unit_60 (by decide) ?_
            exact h_zret (y := 1) C hr hk hH hS rfl (by cases h; rfl) dX4_unit_64
    · have h := ite_f hc h
      refine lv_aload_n hx hb dX4_unit_25 rfl (lv_at hl 1 rfl) ?_
      refine lv_iconst (v := 2) hx hb dX4_unit_26 (by decide) ?_
      obtain ⟨r32, μ31, e30, h⟩ := b2_e h
      refine cVi (as := [.int 2]) (rest := []) (c_X4_refuse hW e30) C hl.1 hH hS rfl (jC_3 hW) rfl wd_5 wd_651 mw_X4_refuse wd_649 rfl (rm_ok (by omega) (by decide)) (Nat.le_of_ble_eq_true rfl) ⟨Nat.zero_le _, Nat.zero_le _⟩ (by decide) dX4_unit_27 (fun H locs hH hS => ?_)
      exact h_zret (y := r32 &&& 1) C hr hk hH hS rfl (by cases h; rfl) dX4_unit_30
theorem c_X4_unit_b {l : Launch} {ω : WW} {D : Nat} (hD : 10 ≤ D) {go : Int32 → Mem → Option (Int32 × Mem)} (hgo : ∀ (x1g : Int32) (μ1 : Mem) (rg : Int32) (μ2 : Mem), go x1g μ1 = some (rg, μ2) → Con l yX4_sum cX4_sum 4 (some .boolean) D ω [.ref (wB ω + 3), .int x1g] μ1 (some (.int rg)) μ2) {x1 : Int32} (hW : FWC ω) {μ : Mem} {rr : Int32} {μo : Mem} (h : fX4_unit_b go x1 μ = some (rr, μo)) : Con l yX4_unit cX4_unit 3 (some .boolean) (D + 1) ω [.ref (wB ω + 3), .int x1] μ (some (.int rr)) μo :=
  con_of (by decide) (Nat.le_of_ble_eq_true rfl) (fun p e s m args below meth c ls C hr hk hl hH hS => wX4_unit_b hD hW C hr hk hgo hH hS (lv_sub hl [0, 1] rfl) h)
set_option maxHeartbeats 4000000 in
set_option maxRecDepth 100000 in
theorem wX4_product_b46 {D : Nat} (hD : 10 ≤ D) (hW : FWC ω) (C : Cx ω p s m args c cX4_product 4 RX4) (hr : meth.sig.returnType = some .boolean) (hk : meth.locks = false) {rr : Int32} {μo : Mem} {go : Int32 → Mem → Option (Int32 × Mem)} (hgo : ∀ (x1g : Int32) (μ1 : Mem) (rg : Int32) (μ2 : Mem), go x1g μ1 = some (rg, μ2) → Con l yX4_sum cX4_sum 4 (some .boolean) D ω [.ref (wB ω + 3), .int x1g] μ1 (some (.int rg)) μ2) {x1 : Int32} {x2 : Int32} {x3 : Int32} {rec : Int32 → Mem → Option (Int32 × Mem)} (hrec : ∀ (z2 : Int32) (ν : Mem) (H : Heap) (locs : List Loc) (ls : Array Slot), Hd ω ν H → FS ω s H locs → lv_has ls 4 [(0, .ref (wB ω + 3)), (1, .int x1), (2, .int z2)] → rec z2 ν = some (rr, μo) → W p l e (rmd (D + 2)) s m args below meth c H locs 0 0 (MQ below (QR ω (some (.int rr)) μo) args s 0 0 (wA ω)) (F0 m 12 ls [])) {μ : Mem} {H : Heap} {locs : List Loc} {ls : Array Slot} (hH : Hd ω μ H) (hS : FS ω s H locs) (hl : lv_has ls 4 [(0, .ref (wB ω + 3)), (1, .int x1), (2, .int x2), (3, .int x3)]) (h : fX4_product_b46 go rec x1 x2 x3 μ = some (rr, μo)) : W p l e (rmd (D + 2)) s m args below meth c H locs 0 0 (MQ below (QR ω (some (.int rr)) μo) args s 0 0 (wA ω)) (F0 m 46 ls []) := by
  have hx := C.1
  have hb := C.2.1
  unfold fX4_product_b46 at h
  refine lv_aload_n hx hb dX4_product_46 rfl (lv_at hl 0 rfl) ?_
  refine lv_iload_n hx hb dX4_product_47 rfl (lv_at hl 3 rfl) ?_
  obtain ⟨r9, μ8, e7, h⟩ := b2_e h
  refine cVi (as := [.int x3]) (rest := []) (c_X4_take hW e7) C hl.1 hH hS rfl (jC_3 hW) rfl wd_6 wd_655 mw_X4_take wd_653 rfl (rm_ok (by omega) (by decide)) (Nat.le_of_ble_eq_true rfl) ⟨Nat.zero_le _, Nat.zero_le _⟩ (by decide) dX4_product_48 (fun H locs hH hS => ?_)
  refine lv_if_eq (tgt := 62) hx hb dX4_product_51 (by decide) (fun hc => ?_) (fun hc => ?_)
  · have h := ite_t hc h
    refine lv_iconst (v := 0) hx hb dX4_product_62 (by decide) ?_
    exact h_zret (y := 0) C hr hk hH hS rfl (by cases h; rfl) dX4_product_63
  · have h := ite_f hc h
    refine lv_aload_n hx hb dX4_product_54 rfl (lv_at hl 0 rfl) ?_
    refine lv_iload_n hx hb dX4_product_55 rfl (lv_at hl 1 rfl) ?_
    obtain ⟨r12, μ11, e10, h⟩ := b2_e h
    refine cVi (as := [.int x1]) (rest := []) (c_X4_unit_b hD hgo hW e10) C hl.1 hH hS rfl (jC_3 hW) rfl wd_13 wd_692 mw_X4_unit wd_690 rfl (rm_ok (by omega) (by decide)) (Nat.le_of_ble_eq_true rfl) ⟨Nat.zero_le _, Nat.zero_le _⟩ (by decide) dX4_product_56 (fun H locs hH hS => ?_)
    refine lv_if_ne (tgt := 64) hx hb dX4_product_59 (by decide) (fun hc => ?_) (fun hc => ?_)
    · have h := ite_f hc h
      refine lv_aload_n hx hb dX4_product_64 rfl (lv_at hl 0 rfl) ?_
      refine g_294 (i := 9) C hH (jC_3 hW) rfl dX4_product_65 ?_
      refine g_259 (i := 11) C hH (jC_9 hW) rfl dX4_product_68 ?_
      refine lv_iload_n hx hb dX4_product_71 rfl (lv_at hl 3 rfl) ?_
      refine lv_bipush (v := 42) hx hb dX4_product_72 (by decide) ?_
      refine lv_icmp_ne (tgt := 82) hx hb dX4_product_74 (by decide) (fun hc => ?_) (fun hc => ?_)
      · have h := ite_f hc h
        refine lv_bipush (v := 13) hx hb dX4_product_82 (by decide) ?_
        refine lv_iconst (v := 0) hx hb dX4_product_84 (by decide) ?_
        obtain ⟨μ14, e13, h⟩ := b1_e h
        refine cVv (as := [.int 13, .int 0]) (rest := []) (c_X1_append (lC_11 hW) e13) C hl.1 hH hS rfl (jC_11 hW) rfl wd_233 wd_232 mw_X1_append wd_694 rfl (rm_ok (by omega) (by decide)) (Nat.le_of_ble_eq_true rfl) ⟨Nat.zero_le _, Nat.zero_le _⟩ (by decide) dX4_product_85 (fun H locs hH hS => ?_)
        refine lv_iinc (v := x2 + 1) (lv' := [(2, .int (x2 + 1)), (0, .ref (wB ω + 3)), (1, .int x1), (3, .int x3)]) hx hb dX4_product_88 hl (k := 2) rfl rfl (by decide) rfl (fun ls hl => ?_)
        refine lv_goto (tgt := 12) hx hb dX4_product_91 (by decide) ?_
        exact hrec _ _ H locs ls hH hS (lv_sub hl [1, 2, 0] rfl) h
      · have h := ite_t hc h
        refine lv_bipush (v := 12) hx hb dX4_product_77 (by decide) ?_
        refine lv_goto (tgt := 84) hx hb dX4_product_79 (by decide) ?_
        refine lv_iconst (v := 0) hx hb dX4_product_84 (by decide) ?_
        obtain ⟨μ16, e15, h⟩ := b1_e h
        refine cVv (as := [.int 12, .int 0]) (rest := []) (c_X1_append (lC_11 hW) e15) C hl.1 hH hS rfl (jC_11 hW) rfl wd_233 wd_232 mw_X1_append wd_694 rfl (rm_ok (by omega) (by decide)) (Nat.le_of_ble_eq_true rfl) ⟨Nat.zero_le _, Nat.zero_le _⟩ (by decide) dX4_product_85 (fun H locs hH hS => ?_)
        refine lv_iinc (v := x2 + 1) (lv' := [(2, .int (x2 + 1)), (0, .ref (wB ω + 3)), (1, .int x1), (3, .int x3)]) hx hb dX4_product_88 hl (k := 2) rfl rfl (by decide) rfl (fun ls hl => ?_)
        refine lv_goto (tgt := 12) hx hb dX4_product_91 (by decide) ?_
        exact hrec _ _ H locs ls hH hS (lv_sub hl [1, 2, 0] rfl) h
    · have h := ite_t hc h
      refine lv_iconst (v := 0) hx hb dX4_product_62 (by decide) ?_
      exact h_zret (y := 0) C hr hk hH hS rfl (by cases h; rfl) dX4_product_63
set_option maxHeartbeats 4000000 in
set_option maxRecDepth 100000 in
theorem wX4_product_s12 {D : Nat} (hD : 10 ≤ D) (hW : FWC ω) (C : Cx ω p s m args c cX4_product 4 RX4) (hr : meth.sig.returnType = some .boolean) (hk : meth.locks = false) {rr : Int32} {μo : Mem} {go : Int32 → Mem → Option (Int32 × Mem)} (hgo : ∀ (x1g : Int32) (μ1 : Mem) (rg : Int32) (μ2 : Mem), go x1g μ1 = some (rg, μ2) → Con l yX4_sum cX4_sum 4 (some .boolean) D ω [.ref (wB ω + 3), .int x1g] μ1 (some (.int rg)) μ2) {x1 : Int32} {x2 : Int32} {rec : Int32 → Mem → Option (Int32 × Mem)} (hrec : ∀ (z2 : Int32) (ν : Mem) (H : Heap) (locs : List Loc) (ls : Array Slot), Hd ω ν H → FS ω s H locs → lv_has ls 4 [(0, .ref (wB ω + 3)), (1, .int x1), (2, .int z2)] → rec z2 ν = some (rr, μo) → W p l e (rmd (D + 2)) s m args below meth c H locs 0 0 (MQ below (QR ω (some (.int rr)) μo) args s 0 0 (wA ω)) (F0 m 12 ls [])) {μ : Mem} {H : Heap} {locs : List Loc} {ls : Array Slot} (hH : Hd ω μ H) (hS : FS ω s H locs) (hl : lv_has ls 4 [(0, .ref (wB ω + 3)), (1, .int x1), (2, .int x2)]) (h : fX4_product_s12 go rec x1 x2 μ = some (rr, μo)) : W p l e (rmd (D + 2)) s m args below meth c H locs 0 0 (MQ below (QR ω (some (.int rr)) μo) args s 0 0 (wA ω)) (F0 m 12 ls []) := by
  have hx := C.1
  have hb := C.2.1
  unfold fX4_product_s12 at h
  refine lv_iload_n hx hb dX4_product_12 rfl (lv_at hl 2 rfl) ?_
  refine lv_sipush (v := 400) hx hb dX4_product_13 (by decide) ?_
  refine lv_icmp_gt (tgt := 94) hx hb dX4_product_16 (by decide) (fun hc => ?_) (fun hc => ?_)
  · have h := ite_t hc h
    refine lv_iconst (v := 0) hx hb dX4_product_94 (by decide) ?_
    exact h_zret (y := 0) C hr hk hH hS rfl (by cases h; rfl) dX4_product_95
  · have h := ite_f hc h
    refine lv_aload_n hx hb dX4_product_19 rfl (lv_at hl 0 rfl) ?_
    refine g_293 (i := 4) C hH (jC_3 hW) rfl dX4_product_20 ?_
    refine g_191 (i := 6) C hH (jC_4 hW) rfl dX4_product_23 ?_
    refine lv_aload_n hx hb dX4_product_26 rfl (lv_at hl 0 rfl) ?_
    refine g_297 C hH (jC_3 hW) dX4_product_27 ?_
    obtain ⟨b4, h⟩ := gd_e h
    refine h_iald C hH (jC_6 hW).1 (jC_6 hW).2.1 b4 dX4_product_30 ?_
    obtain ⟨y5, e6, h⟩ := bd_e h
    refine h_topi e6 ?_
    refine lv_istore_n (lv' := [(3, .int y5), (0, .ref (wB ω + 3)), (1, .int x1), (2, .int x2)]) hx hb dX4_product_31 rfl hl (by decide) rfl (fun ls hl => ?_)
    refine lv_iload_n hx hb dX4_product_32 rfl (lv_at hl 0 rfl) ?_
    refine lv_bipush (v := 42) hx hb dX4_product_33 (by decide) ?_
    refine lv_icmp_eq (tgt := 46) hx hb dX4_product_35 (by decide) (fun hc => ?_) (fun hc => ?_)
    · have h := ite_t hc h
      exact wX4_product_b46 hD hW C hr hk hgo hrec hH hS (lv_sub hl [1, 2, 3, 0] rfl) h
    · have h := ite_f hc h
      refine lv_iload_n hx hb dX4_product_38 rfl (lv_at hl 0 rfl) ?_
      refine lv_bipush (v := 47) hx hb dX4_product_39 (by decide) ?_
      refine lv_icmp_eq (tgt := 46) hx hb dX4_product_41 (by decide) (fun hc => ?_) (fun hc => ?_)
      · have h := ite_t hc h
        exact wX4_product_b46 hD hW C hr hk hgo hrec hH hS (lv_sub hl [1, 2, 3, 0] rfl) h
      · have h := ite_f hc h
        refine lv_iconst (v := 1) hx hb dX4_product_44 (by decide) ?_
        exact h_zret (y := 1) C hr hk hH hS rfl (by cases h; rfl) dX4_product_45
theorem wX4_product_l12 {D : Nat} (hD : 10 ≤ D) (hW : FWC ω) (C : Cx ω p s m args c cX4_product 4 RX4) (hr : meth.sig.returnType = some .boolean) (hk : meth.locks = false) {rr : Int32} {μo : Mem} {go : Int32 → Mem → Option (Int32 × Mem)} (hgo : ∀ (x1g : Int32) (μ1 : Mem) (rg : Int32) (μ2 : Mem), go x1g μ1 = some (rg, μ2) → Con l yX4_sum cX4_sum 4 (some .boolean) D ω [.ref (wB ω + 3), .int x1g] μ1 (some (.int rg)) μ2) {x1 : Int32} : ∀ (n : Nat) (x2 : Int32) (μ : Mem) (H : Heap) (locs : List Loc) (ls : Array Slot), Hd ω μ H → FS ω s H locs → lv_has ls 4 [(0, .ref (wB ω + 3)), (1, .int x1), (2, .int x2)] → fX4_product_l12 go x1 n x2 μ = some (rr, μo) → W p l e (rmd (D + 2)) s m args below meth c H locs 0 0 (MQ below (QR ω (some (.int rr)) μo) args s 0 0 (wA ω)) (F0 m 12 ls []) := by
  intro n
  induction n with
  | zero => intro x2 μ H locs ls hH hS hl h; cases h
  | succ n ih => intro x2 μ H locs ls hH hS hl h; exact wX4_product_s12 hD hW C hr hk hgo ih hH hS hl h
set_option maxHeartbeats 4000000 in
set_option maxRecDepth 100000 in
theorem wX4_product_b {D : Nat} (hD : 10 ≤ D) (hW : FWC ω) (C : Cx ω p s m args c cX4_product 4 RX4) (hr : meth.sig.returnType = some .boolean) (hk : meth.locks = false) {rr : Int32} {μo : Mem} {go : Int32 → Mem → Option (Int32 × Mem)} (hgo : ∀ (x1g : Int32) (μ1 : Mem) (rg : Int32) (μ2 : Mem), go x1g μ1 = some (rg, μ2) → Con l yX4_sum cX4_sum 4 (some .boolean) D ω [.ref (wB ω + 3), .int x1g] μ1 (some (.int rg)) μ2) {x1 : Int32} {μ : Mem} {H : Heap} {locs : List Loc} {ls : Array Slot} (hH : Hd ω μ H) (hS : FS ω s H locs) (hl : lv_has ls 4 [(0, .ref (wB ω + 3)), (1, .int x1)]) (h : fX4_product_b go x1 μ = some (rr, μo)) : W p l e (rmd (D + 2)) s m args below meth c H locs 0 0 (MQ below (QR ω (some (.int rr)) μo) args s 0 0 (wA ω)) (F0 m 0 ls []) := by
  have hx := C.1
  have hb := C.2.1
  unfold fX4_product_b at h
  refine lv_aload_n hx hb dX4_product_0 rfl (lv_at hl 0 rfl) ?_
  refine lv_iload_n hx hb dX4_product_1 rfl (lv_at hl 1 rfl) ?_
  obtain ⟨r3, μ2, e1, h⟩ := b2_e h
  refine cVi (as := [.int x1]) (rest := []) (c_X4_unit_b hD hgo hW e1) C hl.1 hH hS rfl (jC_3 hW) rfl wd_13 wd_692 mw_X4_unit wd_690 rfl (rm_ok (by omega) (by decide)) (Nat.le_of_ble_eq_true rfl) ⟨Nat.zero_le _, Nat.zero_le _⟩ (by decide) dX4_product_2 (fun H locs hH hS => ?_)
  refine lv_if_ne (tgt := 10) hx hb dX4_product_5 (by decide) (fun hc => ?_) (fun hc => ?_)
  · have h := ite_f hc h
    refine lv_iconst (v := 0) hx hb dX4_product_10 (by decide) ?_
    refine lv_istore_n (lv' := [(2, .int 0), (0, .ref (wB ω + 3)), (1, .int x1)]) hx hb dX4_product_11 rfl hl (by decide) rfl (fun ls hl => ?_)
    exact wX4_product_l12 hD hW C hr hk hgo FU _ _ H locs ls hH hS (lv_sub hl [1, 2, 0] rfl) h
  · have h := ite_t hc h
    refine lv_iconst (v := 0) hx hb dX4_product_8 (by decide) ?_
    exact h_zret (y := 0) C hr hk hH hS rfl (by cases h; rfl) dX4_product_9
theorem c_X4_product_b {l : Launch} {ω : WW} {D : Nat} (hD : 10 ≤ D) {go : Int32 → Mem → Option (Int32 × Mem)} (hgo : ∀ (x1g : Int32) (μ1 : Mem) (rg : Int32) (μ2 : Mem), go x1g μ1 = some (rg, μ2) → Con l yX4_sum cX4_sum 4 (some .boolean) D ω [.ref (wB ω + 3), .int x1g] μ1 (some (.int rg)) μ2) {x1 : Int32} (hW : FWC ω) {μ : Mem} {rr : Int32} {μo : Mem} (h : fX4_product_b go x1 μ = some (rr, μo)) : Con l yX4_product cX4_product 4 (some .boolean) (D + 2) ω [.ref (wB ω + 3), .int x1] μ (some (.int rr)) μo :=
  con_of (by decide) (Nat.le_of_ble_eq_true rfl) (fun p e s m args below meth c ls C hr hk hl hH hS => wX4_product_b hD hW C hr hk hgo hH hS (lv_sub hl [0, 1] rfl) h)
set_option maxHeartbeats 4000000 in
set_option maxRecDepth 100000 in
theorem wX4_sum_b46 {D : Nat} (hD : 10 ≤ D) (hW : FWC ω) (C : Cx ω p s m args c cX4_sum 4 RX4) (hr : meth.sig.returnType = some .boolean) (hk : meth.locks = false) {rr : Int32} {μo : Mem} {go : Int32 → Mem → Option (Int32 × Mem)} (hgo : ∀ (x1g : Int32) (μ1 : Mem) (rg : Int32) (μ2 : Mem), go x1g μ1 = some (rg, μ2) → Con l yX4_sum cX4_sum 4 (some .boolean) D ω [.ref (wB ω + 3), .int x1g] μ1 (some (.int rg)) μ2) {x1 : Int32} {x2 : Int32} {x3 : Int32} {rec : Int32 → Mem → Option (Int32 × Mem)} (hrec : ∀ (z2 : Int32) (ν : Mem) (H : Heap) (locs : List Loc) (ls : Array Slot), Hd ω ν H → FS ω s H locs → lv_has ls 4 [(0, .ref (wB ω + 3)), (1, .int x1), (2, .int z2)] → rec z2 ν = some (rr, μo) → W p l e (rmd (D + 3)) s m args below meth c H locs 0 0 (MQ below (QR ω (some (.int rr)) μo) args s 0 0 (wA ω)) (F0 m 12 ls [])) {μ : Mem} {H : Heap} {locs : List Loc} {ls : Array Slot} (hH : Hd ω μ H) (hS : FS ω s H locs) (hl : lv_has ls 4 [(0, .ref (wB ω + 3)), (1, .int x1), (2, .int x2), (3, .int x3)]) (h : fX4_sum_b46 go rec x1 x2 x3 μ = some (rr, μo)) : W p l e (rmd (D + 3)) s m args below meth c H locs 0 0 (MQ below (QR ω (some (.int rr)) μo) args s 0 0 (wA ω)) (F0 m 46 ls []) := by
  have hx := C.1
  have hb := C.2.1
  unfold fX4_sum_b46 at h
  refine lv_aload_n hx hb dX4_sum_46 rfl (lv_at hl 0 rfl) ?_
  refine lv_iload_n hx hb dX4_sum_47 rfl (lv_at hl 3 rfl) ?_
  obtain ⟨r9, μ8, e7, h⟩ := b2_e h
  refine cVi (as := [.int x3]) (rest := []) (c_X4_take hW e7) C hl.1 hH hS rfl (jC_3 hW) rfl wd_6 wd_655 mw_X4_take wd_653 rfl (rm_ok (by omega) (by decide)) (Nat.le_of_ble_eq_true rfl) ⟨Nat.zero_le _, Nat.zero_le _⟩ (by decide) dX4_sum_48 (fun H locs hH hS => ?_)
  refine lv_if_eq (tgt := 62) hx hb dX4_sum_51 (by decide) (fun hc => ?_) (fun hc => ?_)
  · have h := ite_t hc h
    refine lv_iconst (v := 0) hx hb dX4_sum_62 (by decide) ?_
    exact h_zret (y := 0) C hr hk hH hS rfl (by cases h; rfl) dX4_sum_63
  · have h := ite_f hc h
    refine lv_aload_n hx hb dX4_sum_54 rfl (lv_at hl 0 rfl) ?_
    refine lv_iload_n hx hb dX4_sum_55 rfl (lv_at hl 1 rfl) ?_
    obtain ⟨r12, μ11, e10, h⟩ := b2_e h
    refine cVi (as := [.int x1]) (rest := []) (c_X4_product_b hD hgo hW e10) C hl.1 hH hS rfl (jC_3 hW) rfl wd_12 wd_688 mw_X4_product wd_686 rfl (rm_ok (by omega) (by decide)) (Nat.le_of_ble_eq_true rfl) ⟨Nat.zero_le _, Nat.zero_le _⟩ (by decide) dX4_sum_56 (fun H locs hH hS => ?_)
    refine lv_if_ne (tgt := 64) hx hb dX4_sum_59 (by decide) (fun hc => ?_) (fun hc => ?_)
    · have h := ite_f hc h
      refine lv_aload_n hx hb dX4_sum_64 rfl (lv_at hl 0 rfl) ?_
      refine g_294 (i := 9) C hH (jC_3 hW) rfl dX4_sum_65 ?_
      refine g_259 (i := 11) C hH (jC_9 hW) rfl dX4_sum_68 ?_
      refine lv_iload_n hx hb dX4_sum_71 rfl (lv_at hl 3 rfl) ?_
      refine lv_bipush (v := 43) hx hb dX4_sum_72 (by decide) ?_
      refine lv_icmp_ne (tgt := 82) hx hb dX4_sum_74 (by decide) (fun hc => ?_) (fun hc => ?_)
      · have h := ite_f hc h
        refine lv_bipush (v := 11) hx hb dX4_sum_82 (by decide) ?_
        refine lv_iconst (v := 0) hx hb dX4_sum_84 (by decide) ?_
        obtain ⟨μ14, e13, h⟩ := b1_e h
        refine cVv (as := [.int 11, .int 0]) (rest := []) (c_X1_append (lC_11 hW) e13) C hl.1 hH hS rfl (jC_11 hW) rfl wd_233 wd_232 mw_X1_append wd_694 rfl (rm_ok (by omega) (by decide)) (Nat.le_of_ble_eq_true rfl) ⟨Nat.zero_le _, Nat.zero_le _⟩ (by decide) dX4_sum_85 (fun H locs hH hS => ?_)
        refine lv_iinc (v := x2 + 1) (lv' := [(2, .int (x2 + 1)), (0, .ref (wB ω + 3)), (1, .int x1), (3, .int x3)]) hx hb dX4_sum_88 hl (k := 2) rfl rfl (by decide) rfl (fun ls hl => ?_)
        refine lv_goto (tgt := 12) hx hb dX4_sum_91 (by decide) ?_
        exact hrec _ _ H locs ls hH hS (lv_sub hl [1, 2, 0] rfl) h
      · have h := ite_t hc h
        refine lv_bipush (v := 10) hx hb dX4_sum_77 (by decide) ?_
        refine lv_goto (tgt := 84) hx hb dX4_sum_79 (by decide) ?_
        refine lv_iconst (v := 0) hx hb dX4_sum_84 (by decide) ?_
        obtain ⟨μ16, e15, h⟩ := b1_e h
        refine cVv (as := [.int 10, .int 0]) (rest := []) (c_X1_append (lC_11 hW) e15) C hl.1 hH hS rfl (jC_11 hW) rfl wd_233 wd_232 mw_X1_append wd_694 rfl (rm_ok (by omega) (by decide)) (Nat.le_of_ble_eq_true rfl) ⟨Nat.zero_le _, Nat.zero_le _⟩ (by decide) dX4_sum_85 (fun H locs hH hS => ?_)
        refine lv_iinc (v := x2 + 1) (lv' := [(2, .int (x2 + 1)), (0, .ref (wB ω + 3)), (1, .int x1), (3, .int x3)]) hx hb dX4_sum_88 hl (k := 2) rfl rfl (by decide) rfl (fun ls hl => ?_)
        refine lv_goto (tgt := 12) hx hb dX4_sum_91 (by decide) ?_
        exact hrec _ _ H locs ls hH hS (lv_sub hl [1, 2, 0] rfl) h
    · have h := ite_t hc h
      refine lv_iconst (v := 0) hx hb dX4_sum_62 (by decide) ?_
      exact h_zret (y := 0) C hr hk hH hS rfl (by cases h; rfl) dX4_sum_63
set_option maxHeartbeats 4000000 in
set_option maxRecDepth 100000 in
theorem wX4_sum_s12 {D : Nat} (hD : 10 ≤ D) (hW : FWC ω) (C : Cx ω p s m args c cX4_sum 4 RX4) (hr : meth.sig.returnType = some .boolean) (hk : meth.locks = false) {rr : Int32} {μo : Mem} {go : Int32 → Mem → Option (Int32 × Mem)} (hgo : ∀ (x1g : Int32) (μ1 : Mem) (rg : Int32) (μ2 : Mem), go x1g μ1 = some (rg, μ2) → Con l yX4_sum cX4_sum 4 (some .boolean) D ω [.ref (wB ω + 3), .int x1g] μ1 (some (.int rg)) μ2) {x1 : Int32} {x2 : Int32} {rec : Int32 → Mem → Option (Int32 × Mem)} (hrec : ∀ (z2 : Int32) (ν : Mem) (H : Heap) (locs : List Loc) (ls : Array Slot), Hd ω ν H → FS ω s H locs → lv_has ls 4 [(0, .ref (wB ω + 3)), (1, .int x1), (2, .int z2)] → rec z2 ν = some (rr, μo) → W p l e (rmd (D + 3)) s m args below meth c H locs 0 0 (MQ below (QR ω (some (.int rr)) μo) args s 0 0 (wA ω)) (F0 m 12 ls [])) {μ : Mem} {H : Heap} {locs : List Loc} {ls : Array Slot} (hH : Hd ω μ H) (hS : FS ω s H locs) (hl : lv_has ls 4 [(0, .ref (wB ω + 3)), (1, .int x1), (2, .int x2)]) (h : fX4_sum_s12 go rec x1 x2 μ = some (rr, μo)) : W p l e (rmd (D + 3)) s m args below meth c H locs 0 0 (MQ below (QR ω (some (.int rr)) μo) args s 0 0 (wA ω)) (F0 m 12 ls []) := by
  have hx := C.1
  have hb := C.2.1
  unfold fX4_sum_s12 at h
  refine lv_iload_n hx hb dX4_sum_12 rfl (lv_at hl 2 rfl) ?_
  refine lv_sipush (v := 400) hx hb dX4_sum_13 (by decide) ?_
  refine lv_icmp_gt (tgt := 94) hx hb dX4_sum_16 (by decide) (fun hc => ?_) (fun hc => ?_)
  · have h := ite_t hc h
    refine lv_iconst (v := 0) hx hb dX4_sum_94 (by decide) ?_
    exact h_zret (y := 0) C hr hk hH hS rfl (by cases h; rfl) dX4_sum_95
  · have h := ite_f hc h
    refine lv_aload_n hx hb dX4_sum_19 rfl (lv_at hl 0 rfl) ?_
    refine g_293 (i := 4) C hH (jC_3 hW) rfl dX4_sum_20 ?_
    refine g_191 (i := 6) C hH (jC_4 hW) rfl dX4_sum_23 ?_
    refine lv_aload_n hx hb dX4_sum_26 rfl (lv_at hl 0 rfl) ?_
    refine g_297 C hH (jC_3 hW) dX4_sum_27 ?_
    obtain ⟨b4, h⟩ := gd_e h
    refine h_iald C hH (jC_6 hW).1 (jC_6 hW).2.1 b4 dX4_sum_30 ?_
    obtain ⟨y5, e6, h⟩ := bd_e h
    refine h_topi e6 ?_
    refine lv_istore_n (lv' := [(3, .int y5), (0, .ref (wB ω + 3)), (1, .int x1), (2, .int x2)]) hx hb dX4_sum_31 rfl hl (by decide) rfl (fun ls hl => ?_)
    refine lv_iload_n hx hb dX4_sum_32 rfl (lv_at hl 0 rfl) ?_
    refine lv_bipush (v := 43) hx hb dX4_sum_33 (by decide) ?_
    refine lv_icmp_eq (tgt := 46) hx hb dX4_sum_35 (by decide) (fun hc => ?_) (fun hc => ?_)
    · have h := ite_t hc h
      exact wX4_sum_b46 hD hW C hr hk hgo hrec hH hS (lv_sub hl [1, 2, 3, 0] rfl) h
    · have h := ite_f hc h
      refine lv_iload_n hx hb dX4_sum_38 rfl (lv_at hl 0 rfl) ?_
      refine lv_bipush (v := 45) hx hb dX4_sum_39 (by decide) ?_
      refine lv_icmp_eq (tgt := 46) hx hb dX4_sum_41 (by decide) (fun hc => ?_) (fun hc => ?_)
      · have h := ite_t hc h
        exact wX4_sum_b46 hD hW C hr hk hgo hrec hH hS (lv_sub hl [1, 2, 3, 0] rfl) h
      · have h := ite_f hc h
        refine lv_iconst (v := 1) hx hb dX4_sum_44 (by decide) ?_
        exact h_zret (y := 1) C hr hk hH hS rfl (by cases h; rfl) dX4_sum_45
theorem wX4_sum_l12 {D : Nat} (hD : 10 ≤ D) (hW : FWC ω) (C : Cx ω p s m args c cX4_sum 4 RX4) (hr : meth.sig.returnType = some .boolean) (hk : meth.locks = false) {rr : Int32} {μo : Mem} {go : Int32 → Mem → Option (Int32 × Mem)} (hgo : ∀ (x1g : Int32) (μ1 : Mem) (rg : Int32) (μ2 : Mem), go x1g μ1 = some (rg, μ2) → Con l yX4_sum cX4_sum 4 (some .boolean) D ω [.ref (wB ω + 3), .int x1g] μ1 (some (.int rg)) μ2) {x1 : Int32} : ∀ (n : Nat) (x2 : Int32) (μ : Mem) (H : Heap) (locs : List Loc) (ls : Array Slot), Hd ω μ H → FS ω s H locs → lv_has ls 4 [(0, .ref (wB ω + 3)), (1, .int x1), (2, .int x2)] → fX4_sum_l12 go x1 n x2 μ = some (rr, μo) → W p l e (rmd (D + 3)) s m args below meth c H locs 0 0 (MQ below (QR ω (some (.int rr)) μo) args s 0 0 (wA ω)) (F0 m 12 ls []) := by
  intro n
  induction n with
  | zero => intro x2 μ H locs ls hH hS hl h; cases h
  | succ n ih => intro x2 μ H locs ls hH hS hl h; exact wX4_sum_s12 hD hW C hr hk hgo ih hH hS hl h
set_option maxHeartbeats 4000000 in
set_option maxRecDepth 100000 in
theorem wX4_sum_b {D : Nat} (hD : 10 ≤ D) (hW : FWC ω) (C : Cx ω p s m args c cX4_sum 4 RX4) (hr : meth.sig.returnType = some .boolean) (hk : meth.locks = false) {rr : Int32} {μo : Mem} {go : Int32 → Mem → Option (Int32 × Mem)} (hgo : ∀ (x1g : Int32) (μ1 : Mem) (rg : Int32) (μ2 : Mem), go x1g μ1 = some (rg, μ2) → Con l yX4_sum cX4_sum 4 (some .boolean) D ω [.ref (wB ω + 3), .int x1g] μ1 (some (.int rg)) μ2) {x1 : Int32} {μ : Mem} {H : Heap} {locs : List Loc} {ls : Array Slot} (hH : Hd ω μ H) (hS : FS ω s H locs) (hl : lv_has ls 4 [(0, .ref (wB ω + 3)), (1, .int x1)]) (h : fX4_sum_b go x1 μ = some (rr, μo)) : W p l e (rmd (D + 3)) s m args below meth c H locs 0 0 (MQ below (QR ω (some (.int rr)) μo) args s 0 0 (wA ω)) (F0 m 0 ls []) := by
  have hx := C.1
  have hb := C.2.1
  unfold fX4_sum_b at h
  refine lv_aload_n hx hb dX4_sum_0 rfl (lv_at hl 0 rfl) ?_
  refine lv_iload_n hx hb dX4_sum_1 rfl (lv_at hl 1 rfl) ?_
  obtain ⟨r3, μ2, e1, h⟩ := b2_e h
  refine cVi (as := [.int x1]) (rest := []) (c_X4_product_b hD hgo hW e1) C hl.1 hH hS rfl (jC_3 hW) rfl wd_12 wd_688 mw_X4_product wd_686 rfl (rm_ok (by omega) (by decide)) (Nat.le_of_ble_eq_true rfl) ⟨Nat.zero_le _, Nat.zero_le _⟩ (by decide) dX4_sum_2 (fun H locs hH hS => ?_)
  refine lv_if_ne (tgt := 10) hx hb dX4_sum_5 (by decide) (fun hc => ?_) (fun hc => ?_)
  · have h := ite_f hc h
    refine lv_iconst (v := 0) hx hb dX4_sum_10 (by decide) ?_
    refine lv_istore_n (lv' := [(2, .int 0), (0, .ref (wB ω + 3)), (1, .int x1)]) hx hb dX4_sum_11 rfl hl (by decide) rfl (fun ls hl => ?_)
    exact wX4_sum_l12 hD hW C hr hk hgo FU _ _ H locs ls hH hS (lv_sub hl [1, 2, 0] rfl) h
  · have h := ite_t hc h
    refine lv_iconst (v := 0) hx hb dX4_sum_8 (by decide) ?_
    exact h_zret (y := 0) C hr hk hH hS rfl (by cases h; rfl) dX4_sum_9
theorem c_X4_sum_b {l : Launch} {ω : WW} {D : Nat} (hD : 10 ≤ D) {go : Int32 → Mem → Option (Int32 × Mem)} (hgo : ∀ (x1g : Int32) (μ1 : Mem) (rg : Int32) (μ2 : Mem), go x1g μ1 = some (rg, μ2) → Con l yX4_sum cX4_sum 4 (some .boolean) D ω [.ref (wB ω + 3), .int x1g] μ1 (some (.int rg)) μ2) {x1 : Int32} (hW : FWC ω) {μ : Mem} {rr : Int32} {μo : Mem} (h : fX4_sum_b go x1 μ = some (rr, μo)) : Con l yX4_sum cX4_sum 4 (some .boolean) (D + 3) ω [.ref (wB ω + 3), .int x1] μ (some (.int rr)) μo :=
  con_of (by decide) (Nat.le_of_ble_eq_true rfl) (fun p e s m args below meth c ls C hr hk hl hH hS => wX4_sum_b hD hW C hr hk hgo hH hS (lv_sub hl [0, 1] rfl) h)
theorem c_X4_sum_n {l : Launch} {ω : WW} (hW : FWC ω) : ∀ (n : Nat) (x1 : Int32) (μ : Mem) (rr : Int32) (μo : Mem), fX4_sum n x1 μ = some (rr, μo) → Con l yX4_sum cX4_sum 4 (some .boolean) (10 + 3 * n) ω [.ref (wB ω + 3), .int x1] μ (some (.int rr)) μo := by
  intro n
  induction n with
  | zero => intro x1 μ rr μo h; cases h
  | succ n ih => intro x1 μ rr μo h; exact c_X4_sum_b (D := 10 + 3 * n) (by omega) ih hW h
set_option maxHeartbeats 4000000 in
set_option maxRecDepth 100000 in
theorem wX4_isToldAlready_s2 (hW : FWC ω) (C : Cx ω p s m args c cX4_isToldAlready 4 RX4) (hr : meth.sig.returnType = some .boolean) (hk : meth.locks = false) {rr : Int32} {μ : Mem} {x1 : Int64} {x3 : Int32} {rec : Int32 → Option Int32} (hrec : ∀ (z3 : Int32) (H : Heap) (locs : List Loc) (ls : Array Slot), Hd ω μ H → FS ω s H locs → lv_has ls 4 [(0, .ref (wB ω + 3)), (1, .long x1), (3, .int z3)] → rec z3 = some rr → W p l e (rmd 1) s m args below meth c H locs 0 0 (MQ below (QR ω (some (.int rr)) μ) args s 0 0 (wA ω)) (F0 m 2 ls [])) {H : Heap} {locs : List Loc} {ls : Array Slot} (hH : Hd ω μ H) (hS : FS ω s H locs) (hl : lv_has ls 4 [(0, .ref (wB ω + 3)), (1, .long x1), (3, .int x3)]) (h : fX4_isToldAlready_s2 rec x1 x3 μ = some rr) : W p l e (rmd 1) s m args below meth c H locs 0 0 (MQ below (QR ω (some (.int rr)) μ) args s 0 0 (wA ω)) (F0 m 2 ls []) := by
  have hx := C.1
  have hb := C.2.1
  unfold fX4_isToldAlready_s2 at h
  refine lv_iload_n hx hb dX4_isToldAlready_2 rfl (lv_at hl 2 rfl) ?_
  refine lv_aload_n hx hb dX4_isToldAlready_3 rfl (lv_at hl 0 rfl) ?_
  refine g_294 (i := 9) C hH (jC_3 hW) rfl dX4_isToldAlready_4 ?_
  refine g_264 C hH (jC_9 hW) dX4_isToldAlready_7 ?_
  refine lv_icmp_ge (tgt := 38) hx hb dX4_isToldAlready_10 (by decide) (fun hc => ?_) (fun hc => ?_)
  · have h := ite_t hc h
    refine lv_iconst (v := 0) hx hb dX4_isToldAlready_38 (by decide) ?_
    exact h_zret (y := 0) C hr hk hH hS rfl (by cases h; rfl) dX4_isToldAlready_39
  · have h := ite_f hc h
    refine lv_iload_n hx hb dX4_isToldAlready_13 rfl (lv_at hl 2 rfl) ?_
    refine lv_bipush (v := 6) hx hb dX4_isToldAlready_14 (by decide) ?_
    refine lv_icmp_ge (tgt := 38) hx hb dX4_isToldAlready_16 (by decide) (fun hc => ?_) (fun hc => ?_)
    · have h := ite_t hc h
      refine lv_iconst (v := 0) hx hb dX4_isToldAlready_38 (by decide) ?_
      exact h_zret (y := 0) C hr hk hH hS rfl (by cases h; rfl) dX4_isToldAlready_39
    · have h := ite_f hc h
      refine lv_aload_n hx hb dX4_isToldAlready_19 rfl (lv_at hl 0 rfl) ?_
      refine g_296 (i := 16) C hH (jC_3 hW) rfl dX4_isToldAlready_20 ?_
      refine lv_iload_n hx hb dX4_isToldAlready_23 rfl (lv_at hl 2 rfl) ?_
      obtain ⟨b1, h⟩ := gd_e h
      refine h_lald C hH (jC_16 hW).1 (jC_16 hW).2.1 b1 dX4_isToldAlready_24 ?_
      refine lv_lload_n hx hb dX4_isToldAlready_25 rfl (lv_at hl 1 rfl) ?_
      refine W.lcmp hx hb dX4_isToldAlready_26 ?_
      refine lv_if_ne (tgt := 32) hx hb dX4_isToldAlready_27 (by decide) (fun hc => ?_) (fun hc => ?_)
      · have h := ite_f hc h
        refine lv_iinc (v := x3 + 1) (lv' := [(3, .int (x3 + 1)), (0, .ref (wB ω + 3)), (1, .long x1)]) hx hb dX4_isToldAlready_32 hl (k := 2) rfl rfl (by decide) rfl (fun ls hl => ?_)
        refine lv_goto (tgt := 2) hx hb dX4_isToldAlready_35 (by decide) ?_
        exact hrec _ H locs ls hH hS (lv_sub hl [1, 2, 0] rfl) h
      · have h := ite_t hc h
        refine lv_iconst (v := 1) hx hb dX4_isToldAlready_30 (by decide) ?_
        exact h_zret (y := 1) C hr hk hH hS rfl (by cases h; rfl) dX4_isToldAlready_31
theorem wX4_isToldAlready_l2 (hW : FWC ω) (C : Cx ω p s m args c cX4_isToldAlready 4 RX4) (hr : meth.sig.returnType = some .boolean) (hk : meth.locks = false) {rr : Int32} {μ : Mem} {x1 : Int64} : ∀ (n : Nat) (x3 : Int32) (H : Heap) (locs : List Loc) (ls : Array Slot), Hd ω μ H → FS ω s H locs → lv_has ls 4 [(0, .ref (wB ω + 3)), (1, .long x1), (3, .int x3)] → fX4_isToldAlready_l2 x1 μ n x3 = some rr → W p l e (rmd 1) s m args below meth c H locs 0 0 (MQ below (QR ω (some (.int rr)) μ) args s 0 0 (wA ω)) (F0 m 2 ls []) := by
  intro n
  induction n with
  | zero => intro x3 H locs ls hH hS hl h; cases h
  | succ n ih => intro x3 H locs ls hH hS hl h; exact wX4_isToldAlready_s2 hW C hr hk ih hH hS hl h
set_option maxHeartbeats 4000000 in
set_option maxRecDepth 100000 in
theorem wX4_isToldAlready_e (hW : FWC ω) (C : Cx ω p s m args c cX4_isToldAlready 4 RX4) (hr : meth.sig.returnType = some .boolean) (hk : meth.locks = false) {rr : Int32} {μ : Mem} {x1 : Int64} {H : Heap} {locs : List Loc} {ls : Array Slot} (hH : Hd ω μ H) (hS : FS ω s H locs) (hl : lv_has ls 4 [(0, .ref (wB ω + 3)), (1, .long x1)]) (h : fX4_isToldAlready x1 μ = some rr) : W p l e (rmd 1) s m args below meth c H locs 0 0 (MQ below (QR ω (some (.int rr)) μ) args s 0 0 (wA ω)) (F0 m 0 ls []) := by
  have hx := C.1
  have hb := C.2.1
  unfold fX4_isToldAlready at h
  refine lv_iconst (v := 0) hx hb dX4_isToldAlready_0 (by decide) ?_
  refine lv_istore_n (lv' := [(3, .int 0), (0, .ref (wB ω + 3)), (1, .long x1)]) hx hb dX4_isToldAlready_1 rfl hl (by decide) rfl (fun ls hl => ?_)
  exact wX4_isToldAlready_l2 hW C hr hk FU _ H locs ls hH hS (lv_sub hl [1, 2, 0] rfl) h
theorem c_X4_isToldAlready {l : Launch} {ω : WW} {x1 : Int64} (hW : FWC ω) {μ : Mem} {rr : Int32} (h : fX4_isToldAlready x1 μ = some rr) : Con l yX4_isToldAlready cX4_isToldAlready 4 (some .boolean) 1 ω [.ref (wB ω + 3), .long x1] μ (some (.int rr)) μ :=
  con_of (by decide) (Nat.le_of_ble_eq_true rfl) (fun p e s m args below meth c ls C hr hk hl hH hS => wX4_isToldAlready_e hW C hr hk hH hS (lv_sub hl [0, 1] rfl) h)
set_option maxHeartbeats 4000000 in
set_option maxRecDepth 100000 in
theorem wX4_note_e (hW : FWC ω) (C : Cx ω p s m args c cX4_note 2 RX4) (hr : meth.sig.returnType = none) (hk : meth.locks = false) {μo : Mem} {x1 : Int32} {μ : Mem} {H : Heap} {locs : List Loc} {ls : Array Slot} (hH : Hd ω μ H) (hS : FS ω s H locs) (hl : lv_has ls 2 [(0, .ref (wB ω + 3)), (1, .int x1)]) (h : fX4_note x1 μ = some μo) : W p l e (rmd 1) s m args below meth c H locs 0 0 (MQ below (QR ω none μo) args s 0 0 (wA ω)) (F0 m 0 ls []) := by
  have hx := C.1
  have hb := C.2.1
  unfold fX4_note at h
  refine lv_aload_n hx hb dX4_note_0 rfl (lv_at hl 0 rfl) ?_
  refine g_298 C hH (jC_3 hW) dX4_note_1 ?_
  refine lv_if_ne (tgt := 28) hx hb dX4_note_4 (by decide) (fun hc => ?_) (fun hc => ?_)
  · have h := ite_f hc h
    exact h_vret C hr hk hH hS (by cases h; rfl) dX4_note_28
  · have h := ite_t hc h
    refine lv_aload_n hx hb dX4_note_7 rfl (lv_at hl 0 rfl) ?_
    refine lv_iload_n hx hb dX4_note_8 rfl (lv_at hl 1 rfl) ?_
    obtain ⟨μ1, e2, h⟩ := bd_e h
    refine p_298 C hH hS (jC_3 hW) dX4_note_9 (fun H locs hH hS => ?_)
    have hH := Hd.to e2 hH
    refine lv_aload_n hx hb dX4_note_12 rfl (lv_at hl 0 rfl) ?_
    refine lv_aload_n hx hb dX4_note_13 rfl (lv_at hl 0 rfl) ?_
    refine g_293 (i := 4) C hH (jC_3 hW) rfl dX4_note_14 ?_
    refine g_195 (i := 8) C hH (jC_4 hW) rfl dX4_note_17 ?_
    refine lv_aload_n hx hb dX4_note_20 rfl (lv_at hl 0 rfl) ?_
    refine g_297 C hH (jC_3 hW) dX4_note_21 ?_
    obtain ⟨b3, h⟩ := gd_e h
    refine h_iald C hH (jC_8 hW).1 (jC_8 hW).2.1 b3 dX4_note_24 ?_
    obtain ⟨μ4, e5, h⟩ := bd_e h
    refine p_299 C hH hS (jC_3 hW) dX4_note_25 (fun H locs hH hS => ?_)
    have hH := Hd.to e5 hH
    exact h_vret C hr hk hH hS (by cases h; rfl) dX4_note_28
theorem c_X4_note {l : Launch} {ω : WW} {x1 : Int32} (hW : FWC ω) {μ : Mem} {μo : Mem} (h : fX4_note x1 μ = some μo) : Con l yX4_note cX4_note 2 none 1 ω [.ref (wB ω + 3), .int x1] μ none μo :=
  con_of (by decide) (Nat.le_of_ble_eq_true rfl) (fun p e s m args below meth c ls C hr hk hl hH hS => wX4_note_e hW C hr hk hH hS (lv_sub hl [0, 1] rfl) h)
set_option maxHeartbeats 4000000 in
set_option maxRecDepth 100000 in
theorem wX4_numberHere_b49 (hW : FWC ω) (C : Cx ω p s m args c cX4_numberHere 4 RX4) (hr : meth.sig.returnType = some .int) (hk : meth.locks = false) {rr : Int32} {μo : Mem} {x2 : Int32} {k0 : Int32} {μ : Mem} {H : Heap} {locs : List Loc} {ls : Array Slot} (hH : Hd ω μ H) (hS : FS ω s H locs) (hl : lv_has ls 4 [(0, .ref (wB ω + 3)), (2, .int x2)]) (h : fX4_numberHere_b49 x2 k0 μ = some (rr, μo)) : W p l e (rmd 2) s m args below meth c H locs 0 0 (MQ below (QR ω (some (.int rr)) μo) args s 0 0 (wA ω)) (F0 m 49 ls [.int k0]) := by
  obtain ⟨X, hE0⟩ := hW.2.2
  have hE := hE0 s C.2.2.2.2.2.2.1
  have hx := C.1
  have hb := C.2.1
  unfold fX4_numberHere_b49 at h
  refine lv_istore_n (lv' := [(3, .int k0), (0, .ref (wB ω + 3)), (2, .int x2)]) hx hb dX4_numberHere_49 rfl hl (by decide) rfl (fun ls hl => ?_)
  refine lv_aload_n hx hb dX4_numberHere_50 rfl (lv_at hl 1 rfl) ?_
  refine g_293 (i := 4) C hH (jC_3 hW) rfl dX4_numberHere_51 ?_
  refine g_191 (i := 6) C hH (jC_4 hW) rfl dX4_numberHere_54 ?_
  refine lv_aload_n hx hb dX4_numberHere_57 rfl (lv_at hl 1 rfl) ?_
  refine g_297 C hH (jC_3 hW) dX4_numberHere_58 ?_
  obtain ⟨b4, h⟩ := gd_e h
  refine h_iald C hH (jC_6 hW).1 (jC_6 hW).2.1 b4 dX4_numberHere_61 ?_
  refine lv_bipush (v := 22) hx hb dX4_numberHere_62 (by decide) ?_
  refine lv_icmp_ne (tgt := 76) hx hb dX4_numberHere_64 (by decide) (fun hc => ?_) (fun hc => ?_)
  · have h := ite_f hc h
    refine lv_iload_n hx hb dX4_numberHere_76 rfl (lv_at hl 2 rfl) ?_
    exact h_iret C hr hk hH hS rfl (by cases h; rfl) dX4_numberHere_77
  · have h := ite_t hc h
    refine lv_iload_n hx hb dX4_numberHere_67 rfl (lv_at hl 0 rfl) ?_
    refine lv_if_ne (tgt := 76) hx hb dX4_numberHere_68 (by decide) (fun hc => ?_) (fun hc => ?_)
    · have h := ite_f hc h
      refine lv_iload_n hx hb dX4_numberHere_76 rfl (lv_at hl 2 rfl) ?_
      exact h_iret C hr hk hH hS rfl (by cases h; rfl) dX4_numberHere_77
    · have h := ite_t hc h
      refine lv_aload_n hx hb dX4_numberHere_71 rfl (lv_at hl 1 rfl) ?_
      refine lv_iconst (v := 5) hx hb dX4_numberHere_72 (by decide) ?_
      obtain ⟨μ6, e5, h⟩ := b1_e h
      refine cVv (as := [.int 5]) (rest := []) (c_X4_note hW e5) C hl.1 hH hS rfl (jC_3 hW) rfl wd_8 wd_663 mw_X4_note wd_661 rfl (rm_ok (by decide) (by decide)) (Nat.le_of_ble_eq_true rfl) ⟨Nat.zero_le _, Nat.zero_le _⟩ (by decide) dX4_numberHere_73 (fun H locs hH hS => ?_)
      refine lv_iload_n hx hb dX4_numberHere_76 rfl (lv_at hl 2 rfl) ?_
      exact h_iret C hr hk hH hS rfl (by cases h; rfl) dX4_numberHere_77
set_option maxHeartbeats 4000000 in
set_option maxRecDepth 100000 in
theorem wX4_numberHere_b48 (hW : FWC ω) (C : Cx ω p s m args c cX4_numberHere 4 RX4) (hr : meth.sig.returnType = some .int) (hk : meth.locks = false) {rr : Int32} {μo : Mem} {x2 : Int32} {μ : Mem} {H : Heap} {locs : List Loc} {ls : Array Slot} (hH : Hd ω μ H) (hS : FS ω s H locs) (hl : lv_has ls 4 [(0, .ref (wB ω + 3)), (2, .int x2)]) (h : fX4_numberHere_b48 x2 μ = some (rr, μo)) : W p l e (rmd 2) s m args below meth c H locs 0 0 (MQ below (QR ω (some (.int rr)) μo) args s 0 0 (wA ω)) (F0 m 48 ls []) := by
  obtain ⟨X, hE0⟩ := hW.2.2
  have hE := hE0 s C.2.2.2.2.2.2.1
  have hx := C.1
  have hb := C.2.1
  unfold fX4_numberHere_b48 at h
  refine lv_iconst (v := 0) hx hb dX4_numberHere_48 (by decide) ?_
  exact wX4_numberHere_b49 hW C hr hk hH hS hl h
set_option maxHeartbeats 4000000 in
set_option maxRecDepth 100000 in
theorem wX4_numberHere_e (hW : FWC ω) (C : Cx ω p s m args c cX4_numberHere 4 RX4) (hr : meth.sig.returnType = some .int) (hk : meth.locks = false) {rr : Int32} {μo : Mem} {x1 : Int32} {μ : Mem} {H : Heap} {locs : List Loc} {ls : Array Slot} (hH : Hd ω μ H) (hS : FS ω s H locs) (hl : lv_has ls 4 [(0, .ref (wB ω + 3)), (1, .int x1)]) (h : fX4_numberHere x1 μ = some (rr, μo)) : W p l e (rmd 2) s m args below meth c H locs 0 0 (MQ below (QR ω (some (.int rr)) μo) args s 0 0 (wA ω)) (F0 m 0 ls []) := by
  obtain ⟨X, hE0⟩ := hW.2.2
  have hE := hE0 s C.2.2.2.2.2.2.1
  have hx := C.1
  have hb := C.2.1
  unfold fX4_numberHere at h
  refine lv_aload_n hx hb dX4_numberHere_0 rfl (lv_at hl 0 rfl) ?_
  refine g_293 (i := 4) C hH (jC_3 hW) rfl dX4_numberHere_1 ?_
  refine g_193 (i := 7) C hH (jC_4 hW) rfl dX4_numberHere_4 ?_
  refine lv_aload_n hx hb dX4_numberHere_7 rfl (lv_at hl 0 rfl) ?_
  refine g_297 C hH (jC_3 hW) dX4_numberHere_8 ?_
  obtain ⟨b1, h⟩ := gd_e h
  refine h_lald C hH (jC_7 hW).1 (jC_7 hW).2.1 b1 dX4_numberHere_11 ?_
  refine lv_l2i (v := (μ.2 7 ((μ.1 3 2).toNatClampNeg)).toInt32) hx hb dX4_numberHere_12 rfl ?_
  obtain ⟨y2, e3, h⟩ := bd_e h
  refine h_topi e3 ?_
  refine lv_istore_n (lv' := [(2, .int y2), (0, .ref (wB ω + 3)), (1, .int x1)]) hx hb dX4_numberHere_13 rfl hl (by decide) rfl (fun ls hl => ?_)
  refine lv_iload_n hx hb dX4_numberHere_14 rfl (lv_at hl 2 rfl) ?_
  refine lv_if_lt (tgt := 48) hx hb dX4_numberHere_15 (by decide) (fun hc => ?_) (fun hc => ?_)
  · have h := ite_t hc h
    exact wX4_numberHere_b48 hW C hr hk hH hS (lv_sub hl [1, 0] rfl) h
  · have h := ite_f hc h
    refine lv_iload_n hx hb dX4_numberHere_18 rfl (lv_at hl 2 rfl) ?_
    refine h_xMOST hE C hS dX4_numberHere_19 ?_
    refine h_xlen_xMOST hE C hS dX4_numberHere_22 ?_
    refine lv_icmp_ge (tgt := 48) hx hb dX4_numberHere_23 (by decide) (fun hc => ?_) (fun hc => ?_)
    · have h := ite_t hc h
      exact wX4_numberHere_b48 hW C hr hk hH hS (lv_sub hl [1, 0] rfl) h
    · have h := ite_f hc h
      refine lv_iload_n hx hb dX4_numberHere_26 rfl (lv_at hl 0 rfl) ?_
      refine h_xLEAST hE C hS dX4_numberHere_27 ?_
      refine lv_iload_n hx hb dX4_numberHere_30 rfl (lv_at hl 2 rfl) ?_
      obtain ⟨b7, h⟩ := gd_e h
      refine h_xald_xLEAST hE C hS b7 dX4_numberHere_31 ?_
      refine lv_icmp_lt (tgt := 48) hx hb dX4_numberHere_32 (by decide) (fun hc => ?_) (fun hc => ?_)
      · have h := ite_t hc h
        exact wX4_numberHere_b48 hW C hr hk hH hS (lv_sub hl [1, 0] rfl) h
      · have h := ite_f hc h
        refine lv_iload_n hx hb dX4_numberHere_35 rfl (lv_at hl 0 rfl) ?_
        refine h_xMOST hE C hS dX4_numberHere_36 ?_
        refine lv_iload_n hx hb dX4_numberHere_39 rfl (lv_at hl 2 rfl) ?_
        obtain ⟨b8, h⟩ := gd_e h
        refine h_xald_xMOST hE C hS b8 dX4_numberHere_40 ?_
        refine lv_icmp_gt (tgt := 48) hx hb dX4_numberHere_41 (by decide) (fun hc => ?_) (fun hc => ?_)
        · have h := ite_t hc h
          exact wX4_numberHere_b48 hW C hr hk hH hS (lv_sub hl [1, 0] rfl) h
        · have h := ite_f hc h
          refine lv_iconst (v := 1) hx hb dX4_numberHere_44 (by decide) ?_
          refine lv_goto (tgt := 49) hx hb dX4_numberHere_45 (by decide) ?_
          exact wX4_numberHere_b49 hW C hr hk hH hS (lv_sub hl [1, 0] rfl) h
theorem c_X4_numberHere {l : Launch} {ω : WW} {x1 : Int32} (hW : FWC ω) {μ : Mem} {rr : Int32} {μo : Mem} (h : fX4_numberHere x1 μ = some (rr, μo)) : Con l yX4_numberHere cX4_numberHere 4 (some .int) 2 ω [.ref (wB ω + 3), .int x1] μ (some (.int rr)) μo :=
  con_of (by decide) (Nat.le_of_ble_eq_true rfl) (fun p e s m args below meth c ls C hr hk hl hH hS => wX4_numberHere_e hW C hr hk hH hS (lv_sub hl [0, 1] rfl) h)
set_option maxHeartbeats 4000000 in
set_option maxRecDepth 100000 in
theorem wX3_setNumber_e {q : Nat} (hq : IsQ ω q) (C : Cx ω p s m args c cX3_setNumber 5 RX3) (hr : meth.sig.returnType = none) (hk : meth.locks = false) {μo : Mem} {x1 : Int32} {x2 : Int32} {x3 : Int32} {μ : Mem} {H : Heap} {locs : List Loc} {ls : Array Slot} (hH : Hd ω μ H) (hS : FS ω s H locs) (hl : lv_has ls 5 [(0, .ref (wB ω + q)), (1, .int x1), (2, .int x2), (3, .int x3)]) (h : fX3_setNumber q x1 x2 x3 μ = some μo) : W p l e (rmd 1) s m args below meth c H locs 0 0 (MQ below (QR ω none μo) args s 0 0 (wA ω)) (F0 m 0 ls []) := by
  have hx := C.1
  have hb := C.2.1
  unfold fX3_setNumber at h
  refine lv_iload_n hx hb dX3_setNumber_0 rfl (lv_at hl 1 rfl) ?_
  refine lv_iconst (v := 5) hx hb dX3_setNumber_1 (by decide) ?_
  refine lv_imul hx hb dX3_setNumber_2 ?_
  refine lv_iload_n hx hb dX3_setNumber_3 rfl (lv_at hl 2 rfl) ?_
  refine lv_iadd hx hb dX3_setNumber_4 ?_
  obtain ⟨y1, e2, h⟩ := bd_e h
  refine h_topi e2 ?_
  refine lv_istore (lv' := [(4, .int y1), (0, .ref (wB ω + q)), (1, .int x1), (2, .int x2), (3, .int x3)]) hx hb dX3_setNumber_5 hl (by decide) rfl (fun ls hl => ?_)
  refine lv_iload hx hb dX3_setNumber_7 (lv_at hl 0 rfl) ?_
  refine lv_if_lt (tgt := 30) hx hb dX3_setNumber_9 (by decide) (fun hc => ?_) (fun hc => ?_)
  · have h := ite_t hc h
    exact h_vret C hr hk hH hS (by cases h; rfl) dX3_setNumber_30
  · have h := ite_f hc h
    refine lv_iload hx hb dX3_setNumber_12 (lv_at hl 0 rfl) ?_
    refine lv_aload_n hx hb dX3_setNumber_14 rfl (lv_at hl 1 rfl) ?_
    refine g_257 (i := q + 1) C hH hq.1 rfl dX3_setNumber_15 ?_
    refine h_alen (v := 30) C hH hq.2.1.1 hq.2.1.2.1 (by decide) (by decide) (by decide) dX3_setNumber_18 ?_
    refine lv_icmp_ge (tgt := 30) hx hb dX3_setNumber_19 (by decide) (fun hc => ?_) (fun hc => ?_)
    · have h := ite_t hc h
      exact h_vret C hr hk hH hS (by cases h; rfl) dX3_setNumber_30
    · have h := ite_f hc h
      refine lv_aload_n hx hb dX3_setNumber_22 rfl (lv_at hl 1 rfl) ?_
      refine g_257 (i := q + 1) C hH hq.1 rfl dX3_setNumber_23 ?_
      refine lv_iload hx hb dX3_setNumber_26 (lv_at hl 0 rfl) ?_
      refine lv_iload_n hx hb dX3_setNumber_28 rfl (lv_at hl 4 rfl) ?_
      obtain ⟨b3, h⟩ := gd_e h
      obtain ⟨μ4, e5, h⟩ := bd_e h
      refine h_iast C hH hS hq.2.1.1 hq.2.1.2.1 b3 dX3_setNumber_29 (fun H locs hH hS => ?_)
      have hH := Hd.to e5 hH
      exact h_vret C hr hk hH hS (by cases h; rfl) dX3_setNumber_30
theorem c_X3_setNumber {l : Launch} {ω : WW} {q : Nat} {x1 : Int32} {x2 : Int32} {x3 : Int32} (hq : IsQ ω q) {μ : Mem} {μo : Mem} (h : fX3_setNumber q x1 x2 x3 μ = some μo) : Con l yX3_setNumber cX3_setNumber 5 none 1 ω [.ref (wB ω + q), .int x1, .int x2, .int x3] μ none μo :=
  con_of (by decide) (Nat.le_of_ble_eq_true rfl) (fun p e s m args below meth c ls C hr hk hl hH hS => wX3_setNumber_e hq C hr hk hH hS (lv_sub hl [0, 1, 2, 3] rfl) h)
set_option maxHeartbeats 4000000 in
set_option maxRecDepth 100000 in
theorem wX4_tellHouse_s102 (hW : FWC ω) (C : Cx ω p s m args c cX4_tellHouse 3 RX4) (hr : meth.sig.returnType = some .boolean) (hk : meth.locks = false) {rr : Int32} {μo : Mem} {x1 : Int32} {x2 : Int32} {rec : Int32 → Mem → Option (Int32 × Mem)} (hrec : ∀ (z2 : Int32) (ν : Mem) (H : Heap) (locs : List Loc) (ls : Array Slot), Hd ω ν H → FS ω s H locs → lv_has ls 3 [(0, .ref (wB ω + 3)), (1, .int x1), (2, .int z2)] → rec z2 ν = some (rr, μo) → W p l e (rmd 3) s m args below meth c H locs 0 0 (MQ below (QR ω (some (.int rr)) μo) args s 0 0 (wA ω)) (F0 m 102 ls [])) {K : Mem → Option (Int32 × Mem)} (hK : ∀ (ν : Mem) (H : Heap) (locs : List Loc) (ls : Array Slot), Hd ω ν H → FS ω s H locs → lv_has ls 3 [(0, .ref (wB ω + 3))] → K ν = some (rr, μo) → W p l e (rmd 3) s m args below meth c H locs 0 0 (MQ below (QR ω (some (.int rr)) μo) args s 0 0 (wA ω)) (F0 m 138 ls [])) {μ : Mem} {H : Heap} {locs : List Loc} {ls : Array Slot} (hH : Hd ω μ H) (hS : FS ω s H locs) (hl : lv_has ls 3 [(0, .ref (wB ω + 3)), (1, .int x1), (2, .int x2)]) (h : fX4_tellHouse_s102 rec K x1 x2 μ = some (rr, μo)) : W p l e (rmd 3) s m args below meth c H locs 0 0 (MQ below (QR ω (some (.int rr)) μo) args s 0 0 (wA ω)) (F0 m 102 ls []) := by
  have hx := C.1
  have hb := C.2.1
  unfold fX4_tellHouse_s102 at h
  refine lv_iload_n hx hb dX4_tellHouse_102 rfl (lv_at hl 2 rfl) ?_
  refine lv_iconst (v := 5) hx hb dX4_tellHouse_103 (by decide) ?_
  refine lv_icmp_ge (tgt := 138) hx hb dX4_tellHouse_104 (by decide) (fun hc => ?_) (fun hc => ?_)
  · have h := ite_t hc h
    exact hK _ H locs ls hH hS (lv_sub hl [0] rfl) h
  · have h := ite_f hc h
    refine lv_aload_n hx hb dX4_tellHouse_107 rfl (lv_at hl 0 rfl) ?_
    refine g_294 (i := 9) C hH (jC_3 hW) rfl dX4_tellHouse_108 ?_
    refine lv_iload_n hx hb dX4_tellHouse_111 rfl (lv_at hl 1 rfl) ?_
    refine lv_iload_n hx hb dX4_tellHouse_112 rfl (lv_at hl 2 rfl) ?_
    refine lv_aload_n hx hb dX4_tellHouse_113 rfl (lv_at hl 0 rfl) ?_
    refine lv_iload_n hx hb dX4_tellHouse_114 rfl (lv_at hl 2 rfl) ?_
    obtain ⟨r16, μ15, e14, h⟩ := b2_e h
    refine cVi (as := [.int x2]) (rest := [.int x2, .int x1, .ref (wB ω + 9)]) (c_X4_numberHere hW e14) C hl.1 hH hS rfl (jC_3 hW) rfl wd_9 wd_667 mw_X4_numberHere wd_665 rfl (rm_ok (by decide) (by decide)) (Nat.le_of_ble_eq_true rfl) ⟨Nat.zero_le _, Nat.zero_le _⟩ (by decide) dX4_tellHouse_115 (fun H locs hH hS => ?_)
    obtain ⟨μ18, e17, h⟩ := b1_e h
    refine cVv (as := [.int x1, .int x2, .int r16]) (rest := []) (c_X3_setNumber (qC_9 hW) e17) C hl.1 hH hS rfl (jC_9 hW) rfl wd_675 wd_674 mw_X3_setNumber wd_673 rfl (rm_ok (by decide) (by decide)) (Nat.le_of_ble_eq_true rfl) ⟨Nat.zero_le _, Nat.zero_le _⟩ (by decide) dX4_tellHouse_118 (fun H locs hH hS => ?_)
    refine lv_aload_n hx hb dX4_tellHouse_121 rfl (lv_at hl 0 rfl) ?_
    refine lv_bipush (v := 22) hx hb dX4_tellHouse_122 (by decide) ?_
    obtain ⟨r21, μ20, e19, h⟩ := b2_e h
    refine cVi (as := [.int 22]) (rest := []) (c_X4_take hW e19) C hl.1 hH hS rfl (jC_3 hW) rfl wd_6 wd_655 mw_X4_take wd_653 rfl (rm_ok (by decide) (by decide)) (Nat.le_of_ble_eq_true rfl) ⟨Nat.zero_le _, Nat.zero_le _⟩ (by decide) dX4_tellHouse_124 (fun H locs hH hS => ?_)
    refine lv_if_ne (tgt := 132) hx hb dX4_tellHouse_127 (by decide) (fun hc => ?_) (fun hc => ?_)
    · have h := ite_f hc h
      refine lv_iinc (v := x2 + 1) (lv' := [(2, .int (x2 + 1)), (0, .ref (wB ω + 3)), (1, .int x1)]) hx hb dX4_tellHouse_132 hl (k := 2) rfl rfl (by decide) rfl (fun ls hl => ?_)
      refine lv_goto (tgt := 102) hx hb dX4_tellHouse_135 (by decide) ?_
      exact hrec _ _ H locs ls hH hS (lv_sub hl [1, 2, 0] rfl) h
    · have h := ite_t hc h
      refine lv_iconst (v := 0) hx hb dX4_tellHouse_130 (by decide) ?_
      exact h_zret (y := 0) C hr hk hH hS rfl (by cases h; rfl) dX4_tellHouse_131
theorem wX4_tellHouse_l102 (hW : FWC ω) (C : Cx ω p s m args c cX4_tellHouse 3 RX4) (hr : meth.sig.returnType = some .boolean) (hk : meth.locks = false) {rr : Int32} {μo : Mem} {x1 : Int32} {K : Mem → Option (Int32 × Mem)} (hK : ∀ (ν : Mem) (H : Heap) (locs : List Loc) (ls : Array Slot), Hd ω ν H → FS ω s H locs → lv_has ls 3 [(0, .ref (wB ω + 3))] → K ν = some (rr, μo) → W p l e (rmd 3) s m args below meth c H locs 0 0 (MQ below (QR ω (some (.int rr)) μo) args s 0 0 (wA ω)) (F0 m 138 ls [])) : ∀ (n : Nat) (x2 : Int32) (μ : Mem) (H : Heap) (locs : List Loc) (ls : Array Slot), Hd ω μ H → FS ω s H locs → lv_has ls 3 [(0, .ref (wB ω + 3)), (1, .int x1), (2, .int x2)] → fX4_tellHouse_l102 K x1 n x2 μ = some (rr, μo) → W p l e (rmd 3) s m args below meth c H locs 0 0 (MQ below (QR ω (some (.int rr)) μo) args s 0 0 (wA ω)) (F0 m 102 ls []) := by
  intro n
  induction n with
  | zero => intro x2 μ H locs ls hH hS hl h; cases h
  | succ n ih => intro x2 μ H locs ls hH hS hl h; exact wX4_tellHouse_s102 hW C hr hk ih hK hH hS hl h
set_option maxHeartbeats 4000000 in
set_option maxRecDepth 100000 in
theorem wX4_tellHouse_b89 (hW : FWC ω) (C : Cx ω p s m args c cX4_tellHouse 3 RX4) (hr : meth.sig.returnType = some .boolean) (hk : meth.locks = false) {rr : Int32} {μo : Mem} {x1 : Int32} {μ : Mem} {H : Heap} {locs : List Loc} {ls : Array Slot} (hH : Hd ω μ H) (hS : FS ω s H locs) (hl : lv_has ls 3 [(0, .ref (wB ω + 3)), (1, .int x1)]) (h : fX4_tellHouse_b89 x1 μ = some (rr, μo)) : W p l e (rmd 3) s m args below meth c H locs 0 0 (MQ below (QR ω (some (.int rr)) μo) args s 0 0 (wA ω)) (F0 m 89 ls []) := by
  have hx := C.1
  have hb := C.2.1
  unfold fX4_tellHouse_b89 at h
  refine lv_aload_n hx hb dX4_tellHouse_89 rfl (lv_at hl 0 rfl) ?_
  refine lv_bipush (v := 21) hx hb dX4_tellHouse_90 (by decide) ?_
  obtain ⟨r13, μ12, e11, h⟩ := b2_e h
  refine cVi (as := [.int 21]) (rest := []) (c_X4_take hW e11) C hl.1 hH hS rfl (jC_3 hW) rfl wd_6 wd_655 mw_X4_take wd_653 rfl (rm_ok (by decide) (by decide)) (Nat.le_of_ble_eq_true rfl) ⟨Nat.zero_le _, Nat.zero_le _⟩ (by decide) dX4_tellHouse_92 (fun H locs hH hS => ?_)
  refine lv_if_ne (tgt := 100) hx hb dX4_tellHouse_95 (by decide) (fun hc => ?_) (fun hc => ?_)
  · have h := ite_f hc h
    refine lv_iconst (v := 0) hx hb dX4_tellHouse_100 (by decide) ?_
    refine lv_istore_n (lv' := [(2, .int 0), (0, .ref (wB ω + 3)), (1, .int x1)]) hx hb dX4_tellHouse_101 rfl hl (by decide) rfl (fun ls hl => ?_)
    refine wX4_tellHouse_l102 hW C hr hk (fun μ22 H locs ls hH hS hl h => ?_) FU _ _ H locs ls hH hS (lv_sub hl [1, 2, 0] rfl) h
    refine lv_aload_n hx hb dX4_tellHouse_138 rfl (lv_at hl 0 rfl) ?_
    refine g_294 (i := 9) C hH (jC_3 hW) rfl dX4_tellHouse_139 ?_
    refine lv_dup hx hb dX4_tellHouse_142 rfl ?_
    refine g_264 C hH (jC_9 hW) dX4_tellHouse_143 ?_
    refine lv_iconst (v := 1) hx hb dX4_tellHouse_146 (by decide) ?_
    refine lv_iadd hx hb dX4_tellHouse_147 ?_
    obtain ⟨μ23, e24, h⟩ := bd_e h
    refine p_264 C hH hS (jC_9 hW) dX4_tellHouse_148 (fun H locs hH hS => ?_)
    have hH := Hd.to e24 hH
    refine lv_aload_n hx hb dX4_tellHouse_151 rfl (lv_at hl 0 rfl) ?_
    refine lv_bipush (v := 59) hx hb dX4_tellHouse_152 (by decide) ?_
    obtain ⟨r27, μ26, e25, h⟩ := b2_e h
    refine cVi (as := [.int 59]) (rest := []) (c_X4_take hW e25) C hl.1 hH hS rfl (jC_3 hW) rfl wd_6 wd_655 mw_X4_take wd_653 rfl (rm_ok (by decide) (by decide)) (Nat.le_of_ble_eq_true rfl) ⟨Nat.zero_le _, Nat.zero_le _⟩ (by decide) dX4_tellHouse_154 (fun H locs hH hS => ?_)
    exact h_zret (y := r27 &&& 1) C hr hk hH hS rfl (by cases h; rfl) dX4_tellHouse_157
  · have h := ite_t hc h
    refine lv_iconst (v := 0) hx hb dX4_tellHouse_98 (by decide) ?_
    exact h_zret (y := 0) C hr hk hH hS rfl (by cases h; rfl) dX4_tellHouse_99
set_option maxHeartbeats 4000000 in
set_option maxRecDepth 100000 in
theorem wX4_tellHouse_e (hW : FWC ω) (C : Cx ω p s m args c cX4_tellHouse 3 RX4) (hr : meth.sig.returnType = some .boolean) (hk : meth.locks = false) {rr : Int32} {μo : Mem} {μ : Mem} {H : Heap} {locs : List Loc} {ls : Array Slot} (hH : Hd ω μ H) (hS : FS ω s H locs) (hl : lv_has ls 3 [(0, .ref (wB ω + 3))]) (h : fX4_tellHouse μ = some (rr, μo)) : W p l e (rmd 3) s m args below meth c H locs 0 0 (MQ below (QR ω (some (.int rr)) μo) args s 0 0 (wA ω)) (F0 m 0 ls []) := by
  have hx := C.1
  have hb := C.2.1
  unfold fX4_tellHouse at h
  refine lv_aload_n hx hb dX4_tellHouse_0 rfl (lv_at hl 0 rfl) ?_
  refine g_294 (i := 9) C hH (jC_3 hW) rfl dX4_tellHouse_1 ?_
  refine g_264 C hH (jC_9 hW) dX4_tellHouse_4 ?_
  obtain ⟨y1, e2, h⟩ := bd_e h
  refine h_topi e2 ?_
  refine lv_istore_n (lv' := [(1, .int y1), (0, .ref (wB ω + 3))]) hx hb dX4_tellHouse_7 rfl hl (by decide) rfl (fun ls hl => ?_)
  refine lv_iload_n hx hb dX4_tellHouse_8 rfl (lv_at hl 0 rfl) ?_
  refine lv_bipush (v := 6) hx hb dX4_tellHouse_9 (by decide) ?_
  refine lv_icmp_lt (tgt := 20) hx hb dX4_tellHouse_11 (by decide) (fun hc => ?_) (fun hc => ?_)
  · have h := ite_t hc h
    refine lv_aload_n hx hb dX4_tellHouse_20 rfl (lv_at hl 1 rfl) ?_
    refine lv_iconst (v := 0) hx hb dX4_tellHouse_21 (by decide) ?_
    obtain ⟨r5, μ4, e3, h⟩ := b2_e h
    refine cVi (as := [.int 0]) (rest := []) (c_X4_take hW e3) C hl.1 hH hS rfl (jC_3 hW) rfl wd_6 wd_655 mw_X4_take wd_653 rfl (rm_ok (by decide) (by decide)) (Nat.le_of_ble_eq_true rfl) ⟨Nat.zero_le _, Nat.zero_le _⟩ (by decide) dX4_tellHouse_22 (fun H locs hH hS => ?_)
    refine lv_if_ne (tgt := 30) hx hb dX4_tellHouse_25 (by decide) (fun hc => ?_) (fun hc => ?_)
    · have h := ite_f hc h
      refine lv_aload_n hx hb dX4_tellHouse_30 rfl (lv_at hl 1 rfl) ?_
      refine g_296 (i := 16) C hH (jC_3 hW) rfl dX4_tellHouse_31 ?_
      refine lv_iload_n hx hb dX4_tellHouse_34 rfl (lv_at hl 0 rfl) ?_
      refine lv_aload_n hx hb dX4_tellHouse_35 rfl (lv_at hl 1 rfl) ?_
      refine g_293 (i := 4) C hH (jC_3 hW) rfl dX4_tellHouse_36 ?_
      refine g_193 (i := 7) C hH (jC_4 hW) rfl dX4_tellHouse_39 ?_
      refine lv_aload_n hx hb dX4_tellHouse_42 rfl (lv_at hl 1 rfl) ?_
      refine g_297 C hH (jC_3 hW) dX4_tellHouse_43 ?_
      obtain ⟨b6, h⟩ := gd_e h
      refine h_lald C hH (jC_7 hW).1 (jC_7 hW).2.1 b6 dX4_tellHouse_46 ?_
      obtain ⟨b7, h⟩ := gd_e h
      obtain ⟨μ8, e9, h⟩ := bd_e h
      refine h_last C hH hS (jC_16 hW).1 (jC_16 hW).2.1 b7 dX4_tellHouse_47 (fun H locs hH hS => ?_)
      have hH := Hd.to e9 hH
      refine lv_aload_n hx hb dX4_tellHouse_48 rfl (lv_at hl 1 rfl) ?_
      refine g_293 (i := 4) C hH (jC_3 hW) rfl dX4_tellHouse_49 ?_
      refine g_191 (i := 6) C hH (jC_4 hW) rfl dX4_tellHouse_52 ?_
      refine lv_aload_n hx hb dX4_tellHouse_55 rfl (lv_at hl 1 rfl) ?_
      refine g_297 C hH (jC_3 hW) dX4_tellHouse_56 ?_
      obtain ⟨b10, h⟩ := gd_e h
      refine h_iald C hH (jC_6 hW).1 (jC_6 hW).2.1 b10 dX4_tellHouse_59 ?_
      refine lv_bipush (v := 21) hx hb dX4_tellHouse_60 (by decide) ?_
      refine lv_icmp_ne (tgt := 89) hx hb dX4_tellHouse_62 (by decide) (fun hc => ?_) (fun hc => ?_)
      · have h := ite_f hc h
        exact wX4_tellHouse_b89 hW C hr hk hH hS (lv_sub hl [1, 0] rfl) h
      · have h := ite_t hc h
        refine lv_aload_n hx hb dX4_tellHouse_65 rfl (lv_at hl 1 rfl) ?_
        refine lv_aload_n hx hb dX4_tellHouse_66 rfl (lv_at hl 1 rfl) ?_
        refine g_293 (i := 4) C hH (jC_3 hW) rfl dX4_tellHouse_67 ?_
        refine g_193 (i := 7) C hH (jC_4 hW) rfl dX4_tellHouse_70 ?_
        refine lv_aload_n hx hb dX4_tellHouse_73 rfl (lv_at hl 1 rfl) ?_
        refine g_297 C hH (jC_3 hW) dX4_tellHouse_74 ?_
        obtain ⟨b28, h⟩ := gd_e h
        refine h_lald C hH (jC_7 hW).1 (jC_7 hW).2.1 b28 dX4_tellHouse_77 ?_
        obtain ⟨r30, e29, h⟩ := b1_e h
        refine cVi (as := [.long (μ8.2 7 ((μ8.1 3 2).toNatClampNeg))]) (rest := []) (c_X4_isToldAlready hW e29) C hl.1 hH hS rfl (jC_3 hW) rfl wd_7 wd_659 mw_X4_isToldAlready wd_657 rfl (rm_ok (by decide) (by decide)) (Nat.le_of_ble_eq_true rfl) ⟨Nat.zero_le _, Nat.zero_le _⟩ (by decide) dX4_tellHouse_78 (fun H locs hH hS => ?_)
        refine lv_if_eq (tgt := 89) hx hb dX4_tellHouse_81 (by decide) (fun hc => ?_) (fun hc => ?_)
        · have h := ite_t hc h
          exact wX4_tellHouse_b89 hW C hr hk hH hS (lv_sub hl [1, 0] rfl) h
        · have h := ite_f hc h
          refine lv_aload_n hx hb dX4_tellHouse_84 rfl (lv_at hl 1 rfl) ?_
          refine lv_iconst (v := 3) hx hb dX4_tellHouse_85 (by decide) ?_
          obtain ⟨μ32, e31, h⟩ := b1_e h
          refine cVv (as := [.int 3]) (rest := []) (c_X4_note hW e31) C hl.1 hH hS rfl (jC_3 hW) rfl wd_8 wd_663 mw_X4_note wd_661 rfl (rm_ok (by decide) (by decide)) (Nat.le_of_ble_eq_true rfl) ⟨Nat.zero_le _, Nat.zero_le _⟩ (by decide) dX4_tellHouse_86 (fun H locs hH hS => ?_)
          exact wX4_tellHouse_b89 hW C hr hk hH hS (lv_sub hl [1, 0] rfl) h
    · have h := ite_t hc h
      refine lv_iconst (v := 0) hx hb dX4_tellHouse_28 (by decide) ?_
      exact h_zret (y := 0) C hr hk hH hS rfl (by cases h; rfl) dX4_tellHouse_29
  · have h := ite_f hc h
    refine lv_aload_n hx hb dX4_tellHouse_14 rfl (lv_at hl 1 rfl) ?_
    refine lv_iconst (v := 2) hx hb dX4_tellHouse_15 (by decide) ?_
    obtain ⟨r35, μ34, e33, h⟩ := b2_e h
    refine cVi (as := [.int 2]) (rest := []) (c_X4_refuse hW e33) C hl.1 hH hS rfl (jC_3 hW) rfl wd_5 wd_651 mw_X4_refuse wd_649 rfl (rm_ok (by decide) (by decide)) (Nat.le_of_ble_eq_true rfl) ⟨Nat.zero_le _, Nat.zero_le _⟩ (by decide) dX4_tellHouse_16 (fun H locs hH hS => ?_)
    exact h_zret (y := r35 &&& 1) C hr hk hH hS rfl (by cases h; rfl) dX4_tellHouse_19
theorem c_X4_tellHouse {l : Launch} {ω : WW} (hW : FWC ω) {μ : Mem} {rr : Int32} {μo : Mem} (h : fX4_tellHouse μ = some (rr, μo)) : Con l yX4_tellHouse cX4_tellHouse 3 (some .boolean) 3 ω [.ref (wB ω + 3)] μ (some (.int rr)) μo :=
  con_of (by decide) (Nat.le_of_ble_eq_true rfl) (fun p e s m args below meth c ls C hr hk hl hH hS => wX4_tellHouse_e hW C hr hk hH hS (lv_sub hl [0] rfl) h)
set_option maxHeartbeats 4000000 in
set_option maxRecDepth 100000 in
theorem wX1_aimHere_e {q : Nat} (hq : IsL ω q) (C : Cx ω p s m args c cX1_aimHere 2 RX1) (hr : meth.sig.returnType = none) (hk : meth.locks = false) {μo : Mem} {x1 : Int32} {μ : Mem} {H : Heap} {locs : List Loc} {ls : Array Slot} (hH : Hd ω μ H) (hS : FS ω s H locs) (hl : lv_has ls 2 [(0, .ref (wB ω + q)), (1, .int x1)]) (h : fX1_aimHere q x1 μ = some μo) : W p l e (rmd 1) s m args below meth c H locs 0 0 (MQ below (QR ω none μo) args s 0 0 (wA ω)) (F0 m 0 ls []) := by
  have hx := C.1
  have hb := C.2.1
  unfold fX1_aimHere at h
  refine lv_iload_n hx hb dX1_aimHere_0 rfl (lv_at hl 1 rfl) ?_
  refine lv_if_lt (tgt := 22) hx hb dX1_aimHere_1 (by decide) (fun hc => ?_) (fun hc => ?_)
  · have h := ite_t hc h
    exact h_vret C hr hk hH hS (by cases h; rfl) dX1_aimHere_22
  · have h := ite_f hc h
    refine lv_iload_n hx hb dX1_aimHere_4 rfl (lv_at hl 1 rfl) ?_
    refine lv_aload_n hx hb dX1_aimHere_5 rfl (lv_at hl 0 rfl) ?_
    refine g_239 C hH hq.1 dX1_aimHere_6 ?_
    refine lv_icmp_ge (tgt := 22) hx hb dX1_aimHere_9 (by decide) (fun hc => ?_) (fun hc => ?_)
    · have h := ite_t hc h
      exact h_vret C hr hk hH hS (by cases h; rfl) dX1_aimHere_22
    · have h := ite_f hc h
      refine lv_aload_n hx hb dX1_aimHere_12 rfl (lv_at hl 0 rfl) ?_
      refine g_236 (i := q + 2) C hH hq.1 rfl dX1_aimHere_13 ?_
      refine lv_iload_n hx hb dX1_aimHere_16 rfl (lv_at hl 1 rfl) ?_
      refine lv_aload_n hx hb dX1_aimHere_17 rfl (lv_at hl 0 rfl) ?_
      refine g_239 C hH hq.1 dX1_aimHere_18 ?_
      obtain ⟨b1, h⟩ := gd_e h
      obtain ⟨μ2, e3, h⟩ := bd_e h
      refine h_iast C hH hS hq.2.2.1.1 hq.2.2.1.2.1 b1 dX1_aimHere_21 (fun H locs hH hS => ?_)
      have hH := Hd.to e3 hH
      exact h_vret C hr hk hH hS (by cases h; rfl) dX1_aimHere_22
theorem c_X1_aimHere {l : Launch} {ω : WW} {q : Nat} {x1 : Int32} (hq : IsL ω q) {μ : Mem} {μo : Mem} (h : fX1_aimHere q x1 μ = some μo) : Con l yX1_aimHere cX1_aimHere 2 none 1 ω [.ref (wB ω + q), .int x1] μ none μo :=
  con_of (by decide) (Nat.le_of_ble_eq_true rfl) (fun p e s m args below meth c ls C hr hk hl hH hS => wX1_aimHere_e hq C hr hk hH hS (lv_sub hl [0, 1] rfl) h)
set_option maxHeartbeats 4000000 in
set_option maxRecDepth 100000 in
theorem wX4_tellLaw_s26 (hW : FWC ω) (C : Cx ω p s m args c cX4_tellLaw 5 RX4) (hr : meth.sig.returnType = some .boolean) (hk : meth.locks = false) {rr : Int32} {μo : Mem} {x3 : Int32} {rec : Int32 → Mem → Option (Int32 × Mem)} (hrec : ∀ (z3 : Int32) (ν : Mem) (H : Heap) (locs : List Loc) (ls : Array Slot), Hd ω ν H → FS ω s H locs → lv_has ls 5 [(0, .ref (wB ω + 3)), (2, .ref (wB ω + 11)), (3, .int z3)] → rec z3 ν = some (rr, μo) → W p l e (rmd 35) s m args below meth c H locs 0 0 (MQ below (QR ω (some (.int rr)) μo) args s 0 0 (wA ω)) (F0 m 26 ls [])) {K : Mem → Option (Int32 × Mem)} (hK : ∀ (ν : Mem) (H : Heap) (locs : List Loc) (ls : Array Slot), Hd ω ν H → FS ω s H locs → lv_has ls 5 [(0, .ref (wB ω + 3)), (2, .ref (wB ω + 11))] → K ν = some (rr, μo) → W p l e (rmd 35) s m args below meth c H locs 0 0 (MQ below (QR ω (some (.int rr)) μo) args s 0 0 (wA ω)) (F0 m 155 ls [])) {μ : Mem} {H : Heap} {locs : List Loc} {ls : Array Slot} (hH : Hd ω μ H) (hS : FS ω s H locs) (hl : lv_has ls 5 [(0, .ref (wB ω + 3)), (2, .ref (wB ω + 11)), (3, .int x3)]) (h : fX4_tellLaw_s26 rec K x3 μ = some (rr, μo)) : W p l e (rmd 35) s m args below meth c H locs 0 0 (MQ below (QR ω (some (.int rr)) μo) args s 0 0 (wA ω)) (F0 m 26 ls []) := by
  have hx := C.1
  have hb := C.2.1
  unfold fX4_tellLaw_s26 at h
  refine lv_iload_n hx hb dX4_tellLaw_26 rfl (lv_at hl 2 rfl) ?_
  refine lv_iconst (v := 4) hx hb dX4_tellLaw_27 (by decide) ?_
  refine lv_icmp_gt (tgt := 155) hx hb dX4_tellLaw_28 (by decide) (fun hc => ?_) (fun hc => ?_)
  · have h := ite_t hc h
    exact hK _ H locs ls hH hS (lv_sub hl [0, 1] rfl) h
  · have h := ite_f hc h
    refine lv_aload_n hx hb dX4_tellLaw_31 rfl (lv_at hl 0 rfl) ?_
    refine g_293 (i := 4) C hH (jC_3 hW) rfl dX4_tellLaw_32 ?_
    refine g_191 (i := 6) C hH (jC_4 hW) rfl dX4_tellLaw_35 ?_
    refine lv_aload_n hx hb dX4_tellLaw_38 rfl (lv_at hl 0 rfl) ?_
    refine g_297 C hH (jC_3 hW) dX4_tellLaw_39 ?_
    obtain ⟨b6, h⟩ := gd_e h
    refine h_iald C hH (jC_6 hW).1 (jC_6 hW).2.1 b6 dX4_tellLaw_42 ?_
    refine lv_bipush (v := 9) hx hb dX4_tellLaw_43 (by decide) ?_
    refine lv_icmp_ne (tgt := 155) hx hb dX4_tellLaw_45 (by decide) (fun hc => ?_) (fun hc => ?_)
    · have h := ite_f hc h
      exact hK _ H locs ls hH hS (lv_sub hl [0, 1] rfl) h
    · have h := ite_t hc h
      refine lv_iload_n hx hb dX4_tellLaw_48 rfl (lv_at hl 2 rfl) ?_
      refine lv_iconst (v := 4) hx hb dX4_tellLaw_49 (by decide) ?_
      refine lv_icmp_ne (tgt := 59) hx hb dX4_tellLaw_50 (by decide) (fun hc => ?_) (fun hc => ?_)
      · have h := ite_f hc h
        refine lv_aload_n hx hb dX4_tellLaw_59 rfl (lv_at hl 0 rfl) ?_
        refine lv_bipush (v := 9) hx hb dX4_tellLaw_60 (by decide) ?_
        obtain ⟨r9, μ8, e7, h⟩ := b2_e h
        refine cVi (as := [.int 9]) (rest := []) (c_X4_take hW e7) C hl.1 hH hS rfl (jC_3 hW) rfl wd_6 wd_655 mw_X4_take wd_653 rfl (rm_ok (by decide) (by decide)) (Nat.le_of_ble_eq_true rfl) ⟨Nat.zero_le _, Nat.zero_le _⟩ (by decide) dX4_tellLaw_62 (fun H locs hH hS => ?_)
        refine lv_if_eq (tgt := 102) hx hb dX4_tellLaw_65 (by decide) (fun hc => ?_) (fun hc => ?_)
        · have h := ite_t hc h
          refine lv_iconst (v := 0) hx hb dX4_tellLaw_102 (by decide) ?_
          exact h_zret (y := 0) C hr hk hH hS rfl (by cases h; rfl) dX4_tellLaw_103
        · have h := ite_f hc h
          refine lv_aload_n hx hb dX4_tellLaw_68 rfl (lv_at hl 0 rfl) ?_
          refine lv_iconst (v := 0) hx hb dX4_tellLaw_69 (by decide) ?_
          obtain ⟨r12, μ11, e10, h⟩ := b2_e h
          refine cVi (as := [.int 0]) (rest := []) (c_X4_sum_n hW 8 _ _ _ _ e10) C hl.1 hH hS rfl (jC_3 hW) rfl wd_11 wd_684 mw_X4_sum wd_682 rfl (rm_ok (by decide) (by decide)) (Nat.le_of_ble_eq_true rfl) ⟨Nat.zero_le _, Nat.zero_le _⟩ (by decide) dX4_tellLaw_70 (fun H locs hH hS => ?_)
          refine lv_if_eq (tgt := 102) hx hb dX4_tellLaw_73 (by decide) (fun hc => ?_) (fun hc => ?_)
          · have h := ite_t hc h
            refine lv_iconst (v := 0) hx hb dX4_tellLaw_102 (by decide) ?_
            exact h_zret (y := 0) C hr hk hH hS rfl (by cases h; rfl) dX4_tellLaw_103
          · have h := ite_f hc h
            refine lv_aload_n hx hb dX4_tellLaw_76 rfl (lv_at hl 0 rfl) ?_
            refine lv_bipush (v := 60) hx hb dX4_tellLaw_77 (by decide) ?_
            obtain ⟨r15, μ14, e13, h⟩ := b2_e h
            refine cVi (as := [.int 60]) (rest := []) (c_X4_take hW e13) C hl.1 hH hS rfl (jC_3 hW) rfl wd_6 wd_655 mw_X4_take wd_653 rfl (rm_ok (by decide) (by decide)) (Nat.le_of_ble_eq_true rfl) ⟨Nat.zero_le _, Nat.zero_le _⟩ (by decide) dX4_tellLaw_79 (fun H locs hH hS => ?_)
            refine lv_if_eq (tgt := 102) hx hb dX4_tellLaw_82 (by decide) (fun hc => ?_) (fun hc => ?_)
            · have h := ite_t hc h
              refine lv_iconst (v := 0) hx hb dX4_tellLaw_102 (by decide) ?_
              exact h_zret (y := 0) C hr hk hH hS rfl (by cases h; rfl) dX4_tellLaw_103
            · have h := ite_f hc h
              refine lv_aload_n hx hb dX4_tellLaw_85 rfl (lv_at hl 0 rfl) ?_
              refine lv_iconst (v := 0) hx hb dX4_tellLaw_86 (by decide) ?_
              obtain ⟨r18, μ17, e16, h⟩ := b2_e h
              refine cVi (as := [.int 0]) (rest := []) (c_X4_sum_n hW 8 _ _ _ _ e16) C hl.1 hH hS rfl (jC_3 hW) rfl wd_11 wd_684 mw_X4_sum wd_682 rfl (rm_ok (by decide) (by decide)) (Nat.le_of_ble_eq_true rfl) ⟨Nat.zero_le _, Nat.zero_le _⟩ (by decide) dX4_tellLaw_87 (fun H locs hH hS => ?_)
              refine lv_if_eq (tgt := 102) hx hb dX4_tellLaw_90 (by decide) (fun hc => ?_) (fun hc => ?_)
              · have h := ite_t hc h
                refine lv_iconst (v := 0) hx hb dX4_tellLaw_102 (by decide) ?_
                exact h_zret (y := 0) C hr hk hH hS rfl (by cases h; rfl) dX4_tellLaw_103
              · have h := ite_f hc h
                refine lv_aload_n hx hb dX4_tellLaw_93 rfl (lv_at hl 0 rfl) ?_
                refine lv_bipush (v := 10) hx hb dX4_tellLaw_94 (by decide) ?_
                obtain ⟨r21, μ20, e19, h⟩ := b2_e h
                refine cVi (as := [.int 10]) (rest := []) (c_X4_take hW e19) C hl.1 hH hS rfl (jC_3 hW) rfl wd_6 wd_655 mw_X4_take wd_653 rfl (rm_ok (by decide) (by decide)) (Nat.le_of_ble_eq_true rfl) ⟨Nat.zero_le _, Nat.zero_le _⟩ (by decide) dX4_tellLaw_96 (fun H locs hH hS => ?_)
                refine lv_if_ne (tgt := 104) hx hb dX4_tellLaw_99 (by decide) (fun hc => ?_) (fun hc => ?_)
                · have h := ite_f hc h
                  refine lv_aload_n hx hb dX4_tellLaw_104 rfl (lv_at hl 1 rfl) ?_
                  refine g_240 C hH (jC_11 hW) dX4_tellLaw_105 ?_
                  obtain ⟨y22, e23, h⟩ := bd_e h
                  refine h_topi e23 ?_
                  refine lv_istore (lv' := [(4, .int y22), (0, .ref (wB ω + 3)), (2, .ref (wB ω + 11)), (3, .int x3)]) hx hb dX4_tellLaw_108 hl (by decide) rfl (fun ls hl => ?_)
                  refine lv_aload_n hx hb dX4_tellLaw_110 rfl (lv_at hl 2 rfl) ?_
                  refine lv_bipush (v := 14) hx hb dX4_tellLaw_111 (by decide) ?_
                  refine lv_iconst (v := 0) hx hb dX4_tellLaw_113 (by decide) ?_
                  obtain ⟨μ25, e24, h⟩ := b1_e h
                  refine cVv (as := [.int 14, .int 0]) (rest := []) (c_X1_append (lC_11 hW) e24) C hl.1 hH hS rfl (jC_11 hW) rfl wd_233 wd_232 mw_X1_append wd_694 rfl (rm_ok (by decide) (by decide)) (Nat.le_of_ble_eq_true rfl) ⟨Nat.zero_le _, Nat.zero_le _⟩ (by decide) dX4_tellLaw_114 (fun H locs hH hS => ?_)
                  refine lv_aload_n hx hb dX4_tellLaw_117 rfl (lv_at hl 1 rfl) ?_
                  refine lv_iconst (v := 0) hx hb dX4_tellLaw_118 (by decide) ?_
                  obtain ⟨r28, μ27, e26, h⟩ := b2_e h
                  refine cVi (as := [.int 0]) (rest := []) (c_X4_sum_n hW 8 _ _ _ _ e26) C hl.1 hH hS rfl (jC_3 hW) rfl wd_11 wd_684 mw_X4_sum wd_682 rfl (rm_ok (by decide) (by decide)) (Nat.le_of_ble_eq_true rfl) ⟨Nat.zero_le _, Nat.zero_le _⟩ (by decide) dX4_tellLaw_119 (fun H locs hH hS => ?_)
                  refine lv_if_eq (tgt := 134) hx hb dX4_tellLaw_122 (by decide) (fun hc => ?_) (fun hc => ?_)
                  · have h := ite_t hc h
                    refine lv_iconst (v := 0) hx hb dX4_tellLaw_134 (by decide) ?_
                    exact h_zret (y := 0) C hr hk hH hS rfl (by cases h; rfl) dX4_tellLaw_135
                  · have h := ite_f hc h
                    refine lv_aload_n hx hb dX4_tellLaw_125 rfl (lv_at hl 1 rfl) ?_
                    refine lv_bipush (v := 11) hx hb dX4_tellLaw_126 (by decide) ?_
                    obtain ⟨r31, μ30, e29, h⟩ := b2_e h
                    refine cVi (as := [.int 11]) (rest := []) (c_X4_take hW e29) C hl.1 hH hS rfl (jC_3 hW) rfl wd_6 wd_655 mw_X4_take wd_653 rfl (rm_ok (by decide) (by decide)) (Nat.le_of_ble_eq_true rfl) ⟨Nat.zero_le _, Nat.zero_le _⟩ (by decide) dX4_tellLaw_128 (fun H locs hH hS => ?_)
                    refine lv_if_ne (tgt := 136) hx hb dX4_tellLaw_131 (by decide) (fun hc => ?_) (fun hc => ?_)
                    · have h := ite_f hc h
                      refine lv_aload_n hx hb dX4_tellLaw_136 rfl (lv_at hl 2 rfl) ?_
                      refine lv_bipush (v := 15) hx hb dX4_tellLaw_137 (by decide) ?_
                      refine lv_iconst (v := 0) hx hb dX4_tellLaw_139 (by decide) ?_
                      obtain ⟨μ33, e32, h⟩ := b1_e h
                      refine cVv (as := [.int 15, .int 0]) (rest := []) (c_X1_append (lC_11 hW) e32) C hl.1 hH hS rfl (jC_11 hW) rfl wd_233 wd_232 mw_X1_append wd_694 rfl (rm_ok (by decide) (by decide)) (Nat.le_of_ble_eq_true rfl) ⟨Nat.zero_le _, Nat.zero_le _⟩ (by decide) dX4_tellLaw_140 (fun H locs hH hS => ?_)
                      refine lv_aload_n hx hb dX4_tellLaw_143 rfl (lv_at hl 2 rfl) ?_
                      refine lv_iload hx hb dX4_tellLaw_144 (lv_at hl 0 rfl) ?_
                      obtain ⟨μ35, e34, h⟩ := b1_e h
                      refine cVv (as := [.int y22]) (rest := []) (c_X1_aimHere (lC_11 hW) e34) C hl.1 hH hS rfl (jC_11 hW) rfl wd_697 wd_696 mw_X1_aimHere wd_695 rfl (rm_ok (by decide) (by decide)) (Nat.le_of_ble_eq_true rfl) ⟨Nat.zero_le _, Nat.zero_le _⟩ (by decide) dX4_tellLaw_146 (fun H locs hH hS => ?_)
                      refine lv_iinc (v := x3 + 1) (lv' := [(3, .int (x3 + 1)), (4, .int y22), (0, .ref (wB ω + 3)), (2, .ref (wB ω + 11))]) hx hb dX4_tellLaw_149 hl (k := 3) rfl rfl (by decide) rfl (fun ls hl => ?_)
                      refine lv_goto (tgt := 26) hx hb dX4_tellLaw_152 (by decide) ?_
                      exact hrec _ _ H locs ls hH hS (lv_sub hl [2, 3, 0] rfl) h
                    · have h := ite_t hc h
                      refine lv_iconst (v := 0) hx hb dX4_tellLaw_134 (by decide) ?_
                      exact h_zret (y := 0) C hr hk hH hS rfl (by cases h; rfl) dX4_tellLaw_135
                · have h := ite_t hc h
                  refine lv_iconst (v := 0) hx hb dX4_tellLaw_102 (by decide) ?_
                  exact h_zret (y := 0) C hr hk hH hS rfl (by cases h; rfl) dX4_tellLaw_103
      · have h := ite_t hc h
        refine lv_aload_n hx hb dX4_tellLaw_53 rfl (lv_at hl 0 rfl) ?_
        refine lv_iconst (v := 2) hx hb dX4_tellLaw_54 (by decide) ?_
        obtain ⟨r38, μ37, e36, h⟩ := b2_e h
        refine cVi (as := [.int 2]) (rest := []) (c_X4_refuse hW e36) C hl.1 hH hS rfl (jC_3 hW) rfl wd_5 wd_651 mw_X4_refuse wd_649 rfl (rm_ok (by decide) (by decide)) (Nat.le_of_ble_eq_true rfl) ⟨Nat.zero_le _, Nat.zero_le _⟩ (by decide) dX4_tellLaw_55 (fun H locs hH hS => ?_)
        exact h_zret (y := r38 &&& 1) C hr hk hH hS rfl (by cases h; rfl) dX4_tellLaw_58
theorem wX4_tellLaw_l26 (hW : FWC ω) (C : Cx ω p s m args c cX4_tellLaw 5 RX4) (hr : meth.sig.returnType = some .boolean) (hk : meth.locks = false) {rr : Int32} {μo : Mem} {K : Mem → Option (Int32 × Mem)} (hK : ∀ (ν : Mem) (H : Heap) (locs : List Loc) (ls : Array Slot), Hd ω ν H → FS ω s H locs → lv_has ls 5 [(0, .ref (wB ω + 3)), (2, .ref (wB ω + 11))] → K ν = some (rr, μo) → W p l e (rmd 35) s m args below meth c H locs 0 0 (MQ below (QR ω (some (.int rr)) μo) args s 0 0 (wA ω)) (F0 m 155 ls [])) : ∀ (n : Nat) (x3 : Int32) (μ : Mem) (H : Heap) (locs : List Loc) (ls : Array Slot), Hd ω μ H → FS ω s H locs → lv_has ls 5 [(0, .ref (wB ω + 3)), (2, .ref (wB ω + 11)), (3, .int x3)] → fX4_tellLaw_l26 K n x3 μ = some (rr, μo) → W p l e (rmd 35) s m args below meth c H locs 0 0 (MQ below (QR ω (some (.int rr)) μo) args s 0 0 (wA ω)) (F0 m 26 ls []) := by
  intro n
  induction n with
  | zero => intro x3 μ H locs ls hH hS hl h; cases h
  | succ n ih => intro x3 μ H locs ls hH hS hl h; exact wX4_tellLaw_s26 hW C hr hk ih hK hH hS hl h
set_option maxHeartbeats 4000000 in
set_option maxRecDepth 100000 in
theorem wX4_tellLaw_b155 (hW : FWC ω) (C : Cx ω p s m args c cX4_tellLaw 5 RX4) (hr : meth.sig.returnType = some .boolean) (hk : meth.locks = false) {rr : Int32} {μo : Mem} {μ : Mem} {H : Heap} {locs : List Loc} {ls : Array Slot} (hH : Hd ω μ H) (hS : FS ω s H locs) (hl : lv_has ls 5 [(0, .ref (wB ω + 3)), (2, .ref (wB ω + 11))]) (h : fX4_tellLaw_b155 μ = some (rr, μo)) : W p l e (rmd 35) s m args below meth c H locs 0 0 (MQ below (QR ω (some (.int rr)) μo) args s 0 0 (wA ω)) (F0 m 155 ls []) := by
  have hx := C.1
  have hb := C.2.1
  unfold fX4_tellLaw_b155 at h
  refine lv_aload_n hx hb dX4_tellLaw_155 rfl (lv_at hl 0 rfl) ?_
  refine lv_iconst (v := 0) hx hb dX4_tellLaw_156 (by decide) ?_
  obtain ⟨r42, μ41, e40, h⟩ := b2_e h
  refine cVi (as := [.int 0]) (rest := []) (c_X4_sum_n hW 8 _ _ _ _ e40) C hl.1 hH hS rfl (jC_3 hW) rfl wd_11 wd_684 mw_X4_sum wd_682 rfl (rm_ok (by decide) (by decide)) (Nat.le_of_ble_eq_true rfl) ⟨Nat.zero_le _, Nat.zero_le _⟩ (by decide) dX4_tellLaw_157 (fun H locs hH hS => ?_)
  refine lv_if_ne (tgt := 165) hx hb dX4_tellLaw_160 (by decide) (fun hc => ?_) (fun hc => ?_)
  · have h := ite_f hc h
    refine lv_aload_n hx hb dX4_tellLaw_165 rfl (lv_at hl 1 rfl) ?_
    refine lv_bipush (v := 15) hx hb dX4_tellLaw_166 (by decide) ?_
    refine lv_iconst (v := 0) hx hb dX4_tellLaw_168 (by decide) ?_
    obtain ⟨μ44, e43, h⟩ := b1_e h
    refine cVv (as := [.int 15, .int 0]) (rest := []) (c_X1_append (lC_11 hW) e43) C hl.1 hH hS rfl (jC_11 hW) rfl wd_233 wd_232 mw_X1_append wd_694 rfl (rm_ok (by decide) (by decide)) (Nat.le_of_ble_eq_true rfl) ⟨Nat.zero_le _, Nat.zero_le _⟩ (by decide) dX4_tellLaw_169 (fun H locs hH hS => ?_)
    refine lv_aload_n hx hb dX4_tellLaw_172 rfl (lv_at hl 0 rfl) ?_
    refine lv_bipush (v := 59) hx hb dX4_tellLaw_173 (by decide) ?_
    obtain ⟨r47, μ46, e45, h⟩ := b2_e h
    refine cVi (as := [.int 59]) (rest := []) (c_X4_take hW e45) C hl.1 hH hS rfl (jC_3 hW) rfl wd_6 wd_655 mw_X4_take wd_653 rfl (rm_ok (by decide) (by decide)) (Nat.le_of_ble_eq_true rfl) ⟨Nat.zero_le _, Nat.zero_le _⟩ (by decide) dX4_tellLaw_175 (fun H locs hH hS => ?_)
    exact h_zret (y := r47 &&& 1) C hr hk hH hS rfl (by cases h; rfl) dX4_tellLaw_178
  · have h := ite_t hc h
    refine lv_iconst (v := 0) hx hb dX4_tellLaw_163 (by decide) ?_
    exact h_zret (y := 0) C hr hk hH hS rfl (by cases h; rfl) dX4_tellLaw_164
set_option maxHeartbeats 4000000 in
set_option maxRecDepth 100000 in
theorem wX4_tellLaw_e (hW : FWC ω) (C : Cx ω p s m args c cX4_tellLaw 5 RX4) (hr : meth.sig.returnType = some .boolean) (hk : meth.locks = false) {rr : Int32} {μo : Mem} {x1 : Int32} {μ : Mem} {H : Heap} {locs : List Loc} {ls : Array Slot} (hH : Hd ω μ H) (hS : FS ω s H locs) (hl : lv_has ls 5 [(0, .ref (wB ω + 3)), (1, .int x1)]) (h : fX4_tellLaw x1 μ = some (rr, μo)) : W p l e (rmd 35) s m args below meth c H locs 0 0 (MQ below (QR ω (some (.int rr)) μo) args s 0 0 (wA ω)) (F0 m 0 ls []) := by
  have hx := C.1
  have hb := C.2.1
  unfold fX4_tellLaw at h
  refine lv_aload_n hx hb dX4_tellLaw_0 rfl (lv_at hl 0 rfl) ?_
  refine lv_bipush (v := 61) hx hb dX4_tellLaw_1 (by decide) ?_
  obtain ⟨r3, μ2, e1, h⟩ := b2_e h
  refine cVi (as := [.int 61]) (rest := []) (c_X4_take hW e1) C hl.1 hH hS rfl (jC_3 hW) rfl wd_6 wd_655 mw_X4_take wd_653 rfl (rm_ok (by decide) (by decide)) (Nat.le_of_ble_eq_true rfl) ⟨Nat.zero_le _, Nat.zero_le _⟩ (by decide) dX4_tellLaw_3 (fun H locs hH hS => ?_)
  refine lv_if_ne (tgt := 11) hx hb dX4_tellLaw_6 (by decide) (fun hc => ?_) (fun hc => ?_)
  · have h := ite_f hc h
    refine lv_aload_n hx hb dX4_tellLaw_11 rfl (lv_at hl 0 rfl) ?_
    refine g_294 (i := 9) C hH (jC_3 hW) rfl dX4_tellLaw_12 ?_
    refine g_259 (i := 11) C hH (jC_9 hW) rfl dX4_tellLaw_15 ?_
    refine lv_astore_n (lv' := [(2, .ref (wB ω + 11)), (0, .ref (wB ω + 3)), (1, .int x1)]) hx hb dX4_tellLaw_18 rfl hl (by decide) rfl (fun ls hl => ?_)
    refine lv_aload_n hx hb dX4_tellLaw_19 rfl (lv_at hl 0 rfl) ?_
    refine lv_iload_n hx hb dX4_tellLaw_20 rfl (lv_at hl 2 rfl) ?_
    obtain ⟨μ5, e4, h⟩ := b1_e h
    refine cVv (as := [.int x1]) (rest := []) (c_X1_begin (lC_11 hW) e4) C hl.1 hH hS rfl (jC_11 hW) rfl wd_229 wd_228 mw_X1_begin wd_681 rfl (rm_ok (by decide) (by decide)) (Nat.le_of_ble_eq_true rfl) ⟨Nat.zero_le _, Nat.zero_le _⟩ (by decide) dX4_tellLaw_21 (fun H locs hH hS => ?_)
    refine lv_iconst (v := 0) hx hb dX4_tellLaw_24 (by decide) ?_
    refine lv_istore_n (lv' := [(3, .int 0), (2, .ref (wB ω + 11)), (0, .ref (wB ω + 3)), (1, .int x1)]) hx hb dX4_tellLaw_25 rfl hl (by decide) rfl (fun ls hl => ?_)
    refine wX4_tellLaw_l26 hW C hr hk (fun μ39 H locs ls hH hS hl h => ?_) FU _ _ H locs ls hH hS (lv_sub hl [2, 1, 0] rfl) h
    exact wX4_tellLaw_b155 hW C hr hk hH hS hl h
  · have h := ite_t hc h
    refine lv_iconst (v := 0) hx hb dX4_tellLaw_9 (by decide) ?_
    exact h_zret (y := 0) C hr hk hH hS rfl (by cases h; rfl) dX4_tellLaw_10
theorem c_X4_tellLaw {l : Launch} {ω : WW} {x1 : Int32} (hW : FWC ω) {μ : Mem} {rr : Int32} {μo : Mem} (h : fX4_tellLaw x1 μ = some (rr, μo)) : Con l yX4_tellLaw cX4_tellLaw 5 (some .boolean) 35 ω [.ref (wB ω + 3), .int x1] μ (some (.int rr)) μo :=
  con_of (by decide) (Nat.le_of_ble_eq_true rfl) (fun p e s m args below meth c ls C hr hk hl hH hS => wX4_tellLaw_e hW C hr hk hH hS (lv_sub hl [0, 1] rfl) h)
set_option maxHeartbeats 4000000 in
set_option maxRecDepth 100000 in
theorem wX4_tellNumber_e (hW : FWC ω) (C : Cx ω p s m args c cX4_tellNumber 3 RX4) (hr : meth.sig.returnType = some .boolean) (hk : meth.locks = false) {rr : Int32} {μo : Mem} {x1 : Int32} {μ : Mem} {H : Heap} {locs : List Loc} {ls : Array Slot} (hH : Hd ω μ H) (hS : FS ω s H locs) (hl : lv_has ls 3 [(0, .ref (wB ω + 3)), (1, .int x1)]) (h : fX4_tellNumber x1 μ = some (rr, μo)) : W p l e (rmd 3) s m args below meth c H locs 0 0 (MQ below (QR ω (some (.int rr)) μo) args s 0 0 (wA ω)) (F0 m 0 ls []) := by
  have hx := C.1
  have hb := C.2.1
  unfold fX4_tellNumber at h
  refine lv_aload_n hx hb dX4_tellNumber_0 rfl (lv_at hl 0 rfl) ?_
  refine lv_iconst (v := 5) hx hb dX4_tellNumber_1 (by decide) ?_
  refine lv_iload_n hx hb dX4_tellNumber_2 rfl (lv_at hl 1 rfl) ?_
  refine lv_iadd hx hb dX4_tellNumber_3 ?_
  refine lv_iconst (v := 5) hx hb dX4_tellNumber_4 (by decide) ?_
  refine lv_isub hx hb dX4_tellNumber_5 ?_
  obtain ⟨r3, μ2, e1, h⟩ := b2_e h
  refine cVi (as := [.int ((5 + x1) - 5)]) (rest := []) (c_X4_numberHere hW e1) C hl.1 hH hS rfl (jC_3 hW) rfl wd_9 wd_667 mw_X4_numberHere wd_665 rfl (rm_ok (by decide) (by decide)) (Nat.le_of_ble_eq_true rfl) ⟨Nat.zero_le _, Nat.zero_le _⟩ (by decide) dX4_tellNumber_6 (fun H locs hH hS => ?_)
  refine lv_istore_n (lv' := [(2, .int r3), (0, .ref (wB ω + 3)), (1, .int x1)]) hx hb dX4_tellNumber_9 rfl hl (by decide) rfl (fun ls hl => ?_)
  refine lv_aload_n hx hb dX4_tellNumber_10 rfl (lv_at hl 1 rfl) ?_
  refine lv_bipush (v := 22) hx hb dX4_tellNumber_11 (by decide) ?_
  obtain ⟨r6, μ5, e4, h⟩ := b2_e h
  refine cVi (as := [.int 22]) (rest := []) (c_X4_take hW e4) C hl.1 hH hS rfl (jC_3 hW) rfl wd_6 wd_655 mw_X4_take wd_653 rfl (rm_ok (by decide) (by decide)) (Nat.le_of_ble_eq_true rfl) ⟨Nat.zero_le _, Nat.zero_le _⟩ (by decide) dX4_tellNumber_13 (fun H locs hH hS => ?_)
  refine lv_if_ne (tgt := 21) hx hb dX4_tellNumber_16 (by decide) (fun hc => ?_) (fun hc => ?_)
  · have h := ite_f hc h
    refine lv_iload_n hx hb dX4_tellNumber_21 rfl (lv_at hl 2 rfl) ?_
    refine lv_iconst (v := 5) hx hb dX4_tellNumber_22 (by decide) ?_
    refine lv_isub hx hb dX4_tellNumber_23 ?_
    obtain ⟨y7, e8, h⟩ := bd_e h
    refine h_topi e8 ?_
    by_cases b14 : y7 = 0
    · have h := ite_t b14 h
      refine lv_tableIn (tgt := 52) (off := 28) hx hb dX4_tellNumber_24 (by rw [b14]; decide) (by rw [b14]; decide) (by rw [b14]; rfl) (by decide) ?_
      refine lv_aload_n hx hb dX4_tellNumber_52 rfl (lv_at hl 1 rfl) ?_
      refine g_294 (i := 9) C hH (jC_3 hW) rfl dX4_tellNumber_53 ?_
      refine lv_iload_n hx hb dX4_tellNumber_56 rfl (lv_at hl 0 rfl) ?_
      obtain ⟨μ9, e10, h⟩ := bd_e h
      refine p_268 C hH hS (jC_9 hW) dX4_tellNumber_57 (fun H locs hH hS => ?_)
      have hH := Hd.to e10 hH
      refine lv_goto (tgt := 93) hx hb dX4_tellNumber_60 (by decide) ?_
      refine lv_aload_n hx hb dX4_tellNumber_93 rfl (lv_at hl 1 rfl) ?_
      refine lv_bipush (v := 59) hx hb dX4_tellNumber_94 (by decide) ?_
      obtain ⟨r13, μ12, e11, h⟩ := b2_e h
      refine cVi (as := [.int 59]) (rest := []) (c_X4_take hW e11) C hl.1 hH hS rfl (jC_3 hW) rfl wd_6 wd_655 mw_X4_take wd_653 rfl (rm_ok (by decide) (by decide)) (Nat.le_of_ble_eq_true rfl) ⟨Nat.zero_le _, Nat.zero_le _⟩ (by decide) dX4_tellNumber_96 (fun H locs hH hS => ?_)
      exact h_zret (y := r13 &&& 1) C hr hk hH hS rfl (by cases h; rfl) dX4_tellNumber_99
    have h := ite_f b14 h
    by_cases b20 : y7 = 1
    · have h := ite_t b20 h
      refine lv_tableIn (tgt := 63) (off := 39) hx hb dX4_tellNumber_24 (by rw [b20]; decide) (by rw [b20]; decide) (by rw [b20]; rfl) (by decide) ?_
      refine lv_aload_n hx hb dX4_tellNumber_63 rfl (lv_at hl 1 rfl) ?_
      refine g_294 (i := 9) C hH (jC_3 hW) rfl dX4_tellNumber_64 ?_
      refine lv_iload_n hx hb dX4_tellNumber_67 rfl (lv_at hl 0 rfl) ?_
      obtain ⟨μ15, e16, h⟩ := bd_e h
      refine p_271 C hH hS (jC_9 hW) dX4_tellNumber_68 (fun H locs hH hS => ?_)
      have hH := Hd.to e16 hH
      refine lv_goto (tgt := 93) hx hb dX4_tellNumber_71 (by decide) ?_
      refine lv_aload_n hx hb dX4_tellNumber_93 rfl (lv_at hl 1 rfl) ?_
      refine lv_bipush (v := 59) hx hb dX4_tellNumber_94 (by decide) ?_
      obtain ⟨r19, μ18, e17, h⟩ := b2_e h
      refine cVi (as := [.int 59]) (rest := []) (c_X4_take hW e17) C hl.1 hH hS rfl (jC_3 hW) rfl wd_6 wd_655 mw_X4_take wd_653 rfl (rm_ok (by decide) (by decide)) (Nat.le_of_ble_eq_true rfl) ⟨Nat.zero_le _, Nat.zero_le _⟩ (by decide) dX4_tellNumber_96 (fun H locs hH hS => ?_)
      exact h_zret (y := r19 &&& 1) C hr hk hH hS rfl (by cases h; rfl) dX4_tellNumber_99
    have h := ite_f b20 h
    by_cases b26 : y7 = 2
    · have h := ite_t b26 h
      refine lv_tableIn (tgt := 74) (off := 50) hx hb dX4_tellNumber_24 (by rw [b26]; decide) (by rw [b26]; decide) (by rw [b26]; rfl) (by decide) ?_
      refine lv_aload_n hx hb dX4_tellNumber_74 rfl (lv_at hl 1 rfl) ?_
      refine g_294 (i := 9) C hH (jC_3 hW) rfl dX4_tellNumber_75 ?_
      refine lv_iload_n hx hb dX4_tellNumber_78 rfl (lv_at hl 0 rfl) ?_
      obtain ⟨μ21, e22, h⟩ := bd_e h
      refine p_274 C hH hS (jC_9 hW) dX4_tellNumber_79 (fun H locs hH hS => ?_)
      have hH := Hd.to e22 hH
      refine lv_goto (tgt := 93) hx hb dX4_tellNumber_82 (by decide) ?_
      refine lv_aload_n hx hb dX4_tellNumber_93 rfl (lv_at hl 1 rfl) ?_
      refine lv_bipush (v := 59) hx hb dX4_tellNumber_94 (by decide) ?_
      obtain ⟨r25, μ24, e23, h⟩ := b2_e h
      refine cVi (as := [.int 59]) (rest := []) (c_X4_take hW e23) C hl.1 hH hS rfl (jC_3 hW) rfl wd_6 wd_655 mw_X4_take wd_653 rfl (rm_ok (by decide) (by decide)) (Nat.le_of_ble_eq_true rfl) ⟨Nat.zero_le _, Nat.zero_le _⟩ (by decide) dX4_tellNumber_96 (fun H locs hH hS => ?_)
      exact h_zret (y := r25 &&& 1) C hr hk hH hS rfl (by cases h; rfl) dX4_tellNumber_99
    have h := ite_f b26 h
    have b14 := ne_ti (z := 0) b14 (by decide)
    have b20 := ne_ti (z := 1) b20 (by decide)
    have b26 := ne_ti (z := 2) b26 (by decide)
    refine lv_tableOut (tgt := 85) hx hb dX4_tellNumber_24 (by omega) (by decide) ?_
    refine lv_aload_n hx hb dX4_tellNumber_85 rfl (lv_at hl 1 rfl) ?_
    refine g_294 (i := 9) C hH (jC_3 hW) rfl dX4_tellNumber_86 ?_
    refine lv_iload_n hx hb dX4_tellNumber_89 rfl (lv_at hl 0 rfl) ?_
    obtain ⟨μ27, e28, h⟩ := bd_e h
    refine p_276 C hH hS (jC_9 hW) dX4_tellNumber_90 (fun H locs hH hS => ?_)
    have hH := Hd.to e28 hH
    refine lv_aload_n hx hb dX4_tellNumber_93 rfl (lv_at hl 1 rfl) ?_
    refine lv_bipush (v := 59) hx hb dX4_tellNumber_94 (by decide) ?_
    obtain ⟨r31, μ30, e29, h⟩ := b2_e h
    refine cVi (as := [.int 59]) (rest := []) (c_X4_take hW e29) C hl.1 hH hS rfl (jC_3 hW) rfl wd_6 wd_655 mw_X4_take wd_653 rfl (rm_ok (by decide) (by decide)) (Nat.le_of_ble_eq_true rfl) ⟨Nat.zero_le _, Nat.zero_le _⟩ (by decide) dX4_tellNumber_96 (fun H locs hH hS => ?_)
    exact h_zret (y := r31 &&& 1) C hr hk hH hS rfl (by cases h; rfl) dX4_tellNumber_99
  · have h := ite_t hc h
    refine lv_iconst (v := 0) hx hb dX4_tellNumber_19 (by decide) ?_
    exact h_zret (y := 0) C hr hk hH hS rfl (by cases h; rfl) dX4_tellNumber_20
theorem c_X4_tellNumber {l : Launch} {ω : WW} {x1 : Int32} (hW : FWC ω) {μ : Mem} {rr : Int32} {μo : Mem} (h : fX4_tellNumber x1 μ = some (rr, μo)) : Con l yX4_tellNumber cX4_tellNumber 3 (some .boolean) 3 ω [.ref (wB ω + 3), .int x1] μ (some (.int rr)) μo :=
  con_of (by decide) (Nat.le_of_ble_eq_true rfl) (fun p e s m args below meth c ls C hr hk hl hH hS => wX4_tellNumber_e hW C hr hk hH hS (lv_sub hl [0, 1] rfl) h)
set_option maxHeartbeats 4000000 in
set_option maxRecDepth 100000 in
theorem wX4_tellOne_b56 (hW : FWC ω) (C : Cx ω p s m args c cX4_tellOne 2 RX4) (hr : meth.sig.returnType = some .boolean) (hk : meth.locks = false) {rr : Int32} {μo : Mem} {x1 : Int32} {μ : Mem} {H : Heap} {locs : List Loc} {ls : Array Slot} (hH : Hd ω μ H) (hS : FS ω s H locs) (hl : lv_has ls 2 [(0, .ref (wB ω + 3)), (1, .int x1)]) (h : fX4_tellOne_b56 x1 μ = some (rr, μo)) : W p l e (rmd 36) s m args below meth c H locs 0 0 (MQ below (QR ω (some (.int rr)) μo) args s 0 0 (wA ω)) (F0 m 56 ls []) := by
  have hx := C.1
  have hb := C.2.1
  unfold fX4_tellOne_b56 at h
  refine lv_iload_n hx hb dX4_tellOne_56 rfl (lv_at hl 1 rfl) ?_
  refine lv_iconst (v := 5) hx hb dX4_tellOne_57 (by decide) ?_
  refine lv_icmp_lt (tgt := 89) hx hb dX4_tellOne_58 (by decide) (fun hc => ?_) (fun hc => ?_)
  · have h := ite_t hc h
    refine lv_aload_n hx hb dX4_tellOne_89 rfl (lv_at hl 0 rfl) ?_
    refine lv_iconst (v := 1) hx hb dX4_tellOne_90 (by decide) ?_
    obtain ⟨r6, μ5, e4, h⟩ := b2_e h
    refine cVi (as := [.int 1]) (rest := []) (c_X4_refuse hW e4) C hl.1 hH hS rfl (jC_3 hW) rfl wd_5 wd_651 mw_X4_refuse wd_649 rfl (rm_ok (by decide) (by decide)) (Nat.le_of_ble_eq_true rfl) ⟨Nat.zero_le _, Nat.zero_le _⟩ (by decide) dX4_tellOne_91 (fun H locs hH hS => ?_)
    exact h_zret (y := r6 &&& 1) C hr hk hH hS rfl (by cases h; rfl) dX4_tellOne_94
  · have h := ite_f hc h
    refine lv_iload_n hx hb dX4_tellOne_61 rfl (lv_at hl 1 rfl) ?_
    refine lv_bipush (v := 8) hx hb dX4_tellOne_62 (by decide) ?_
    refine lv_icmp_gt (tgt := 89) hx hb dX4_tellOne_64 (by decide) (fun hc => ?_) (fun hc => ?_)
    · have h := ite_t hc h
      refine lv_aload_n hx hb dX4_tellOne_89 rfl (lv_at hl 0 rfl) ?_
      refine lv_iconst (v := 1) hx hb dX4_tellOne_90 (by decide) ?_
      obtain ⟨r9, μ8, e7, h⟩ := b2_e h
      refine cVi (as := [.int 1]) (rest := []) (c_X4_refuse hW e7) C hl.1 hH hS rfl (jC_3 hW) rfl wd_5 wd_651 mw_X4_refuse wd_649 rfl (rm_ok (by decide) (by decide)) (Nat.le_of_ble_eq_true rfl) ⟨Nat.zero_le _, Nat.zero_le _⟩ (by decide) dX4_tellOne_91 (fun H locs hH hS => ?_)
      exact h_zret (y := r9 &&& 1) C hr hk hH hS rfl (by cases h; rfl) dX4_tellOne_94
    · have h := ite_f hc h
      refine lv_aload_n hx hb dX4_tellOne_67 rfl (lv_at hl 0 rfl) ?_
      refine lv_iload_n hx hb dX4_tellOne_68 rfl (lv_at hl 1 rfl) ?_
      obtain ⟨r12, μ11, e10, h⟩ := b2_e h
      refine cVi (as := [.int x1]) (rest := []) (c_X4_take hW e10) C hl.1 hH hS rfl (jC_3 hW) rfl wd_6 wd_655 mw_X4_take wd_653 rfl (rm_ok (by decide) (by decide)) (Nat.le_of_ble_eq_true rfl) ⟨Nat.zero_le _, Nat.zero_le _⟩ (by decide) dX4_tellOne_69 (fun H locs hH hS => ?_)
      refine lv_if_eq (tgt := 87) hx hb dX4_tellOne_72 (by decide) (fun hc => ?_) (fun hc => ?_)
      · have h := ite_t hc h
        refine lv_iconst (v := 0) hx hb dX4_tellOne_87 (by decide) ?_
        exact h_zret (y := 0) C hr hk hH hS rfl (by cases h; rfl) dX4_tellOne_88
      · have h := ite_f hc h
        refine lv_aload_n hx hb dX4_tellOne_75 rfl (lv_at hl 0 rfl) ?_
        refine lv_iload_n hx hb dX4_tellOne_76 rfl (lv_at hl 1 rfl) ?_
        obtain ⟨r15, μ14, e13, h⟩ := b2_e h
        refine cVi (as := [.int x1]) (rest := []) (c_X4_tellNumber hW e13) C hl.1 hH hS rfl (jC_3 hW) rfl wd_14 wd_701 mw_X4_tellNumber wd_699 rfl (rm_ok (by decide) (by decide)) (Nat.le_of_ble_eq_true rfl) ⟨Nat.zero_le _, Nat.zero_le _⟩ (by decide) dX4_tellOne_77 (fun H locs hH hS => ?_)
        refine lv_if_eq (tgt := 87) hx hb dX4_tellOne_80 (by decide) (fun hc => ?_) (fun hc => ?_)
        · have h := ite_t hc h
          refine lv_iconst (v := 0) hx hb dX4_tellOne_87 (by decide) ?_
          exact h_zret (y := 0) C hr hk hH hS rfl (by cases h; rfl) dX4_tellOne_88
        · have h := ite_f hc h
          refine lv_iconst (v := 1) hx hb dX4_tellOne_83 (by decide) ?_
          refine lv_goto (tgt := 88) hx hb dX4_tellOne_84 (by decide) ?_
          exact h_zret (y := 1) C hr hk hH hS rfl (by cases h; rfl) dX4_tellOne_88
set_option maxHeartbeats 4000000 in
set_option maxRecDepth 100000 in
theorem wX4_tellOne_e (hW : FWC ω) (C : Cx ω p s m args c cX4_tellOne 2 RX4) (hr : meth.sig.returnType = some .boolean) (hk : meth.locks = false) {rr : Int32} {μo : Mem} {μ : Mem} {H : Heap} {locs : List Loc} {ls : Array Slot} (hH : Hd ω μ H) (hS : FS ω s H locs) (hl : lv_has ls 2 [(0, .ref (wB ω + 3))]) (h : fX4_tellOne μ = some (rr, μo)) : W p l e (rmd 36) s m args below meth c H locs 0 0 (MQ below (QR ω (some (.int rr)) μo) args s 0 0 (wA ω)) (F0 m 0 ls []) := by
  have hx := C.1
  have hb := C.2.1
  unfold fX4_tellOne at h
  refine lv_aload_n hx hb dX4_tellOne_0 rfl (lv_at hl 0 rfl) ?_
  refine g_293 (i := 4) C hH (jC_3 hW) rfl dX4_tellOne_1 ?_
  refine g_191 (i := 6) C hH (jC_4 hW) rfl dX4_tellOne_4 ?_
  refine lv_aload_n hx hb dX4_tellOne_7 rfl (lv_at hl 0 rfl) ?_
  refine g_297 C hH (jC_3 hW) dX4_tellOne_8 ?_
  obtain ⟨b1, h⟩ := gd_e h
  refine h_iald C hH (jC_6 hW).1 (jC_6 hW).2.1 b1 dX4_tellOne_11 ?_
  obtain ⟨y2, e3, h⟩ := bd_e h
  refine h_topi e3 ?_
  refine lv_istore_n (lv' := [(1, .int y2), (0, .ref (wB ω + 3))]) hx hb dX4_tellOne_12 rfl hl (by decide) rfl (fun ls hl => ?_)
  refine lv_iload_n hx hb dX4_tellOne_13 rfl (lv_at hl 0 rfl) ?_
  refine lv_if_ne (tgt := 22) hx hb dX4_tellOne_14 (by decide) (fun hc => ?_) (fun hc => ?_)
  · have h := ite_f hc h
    refine lv_iload_n hx hb dX4_tellOne_22 rfl (lv_at hl 0 rfl) ?_
    refine lv_iconst (v := 1) hx hb dX4_tellOne_23 (by decide) ?_
    refine lv_icmp_lt (tgt := 56) hx hb dX4_tellOne_24 (by decide) (fun hc => ?_) (fun hc => ?_)
    · have h := ite_t hc h
      exact wX4_tellOne_b56 hW C hr hk hH hS (lv_sub hl [1, 0] rfl) h
    · have h := ite_f hc h
      refine lv_iload_n hx hb dX4_tellOne_27 rfl (lv_at hl 0 rfl) ?_
      refine lv_iconst (v := 4) hx hb dX4_tellOne_28 (by decide) ?_
      refine lv_icmp_gt (tgt := 56) hx hb dX4_tellOne_29 (by decide) (fun hc => ?_) (fun hc => ?_)
      · have h := ite_t hc h
        exact wX4_tellOne_b56 hW C hr hk hH hS (lv_sub hl [1, 0] rfl) h
      · have h := ite_f hc h
        refine lv_aload_n hx hb dX4_tellOne_32 rfl (lv_at hl 1 rfl) ?_
        refine lv_iload_n hx hb dX4_tellOne_33 rfl (lv_at hl 0 rfl) ?_
        obtain ⟨r18, μ17, e16, h⟩ := b2_e h
        refine cVi (as := [.int y2]) (rest := []) (c_X4_take hW e16) C hl.1 hH hS rfl (jC_3 hW) rfl wd_6 wd_655 mw_X4_take wd_653 rfl (rm_ok (by decide) (by decide)) (Nat.le_of_ble_eq_true rfl) ⟨Nat.zero_le _, Nat.zero_le _⟩ (by decide) dX4_tellOne_34 (fun H locs hH hS => ?_)
        refine lv_if_eq (tgt := 54) hx hb dX4_tellOne_37 (by decide) (fun hc => ?_) (fun hc => ?_)
        · have h := ite_t hc h
          refine lv_iconst (v := 0) hx hb dX4_tellOne_54 (by decide) ?_
          exact h_zret (y := 0) C hr hk hH hS rfl (by cases h; rfl) dX4_tellOne_55
        · have h := ite_f hc h
          refine lv_aload_n hx hb dX4_tellOne_40 rfl (lv_at hl 1 rfl) ?_
          refine lv_iload_n hx hb dX4_tellOne_41 rfl (lv_at hl 0 rfl) ?_
          refine lv_iconst (v := 1) hx hb dX4_tellOne_42 (by decide) ?_
          refine lv_isub hx hb dX4_tellOne_43 ?_
          obtain ⟨r21, μ20, e19, h⟩ := b2_e h
          refine cVi (as := [.int (y2 - 1)]) (rest := []) (c_X4_tellLaw hW e19) C hl.1 hH hS rfl (jC_3 hW) rfl wd_10 wd_679 mw_X4_tellLaw wd_677 rfl (rm_ok (by decide) (by decide)) (Nat.le_of_ble_eq_true rfl) ⟨Nat.zero_le _, Nat.zero_le _⟩ (by decide) dX4_tellOne_44 (fun H locs hH hS => ?_)
          refine lv_if_eq (tgt := 54) hx hb dX4_tellOne_47 (by decide) (fun hc => ?_) (fun hc => ?_)
          · have h := ite_t hc h
            refine lv_iconst (v := 0) hx hb dX4_tellOne_54 (by decide) ?_
            exact h_zret (y := 0) C hr hk hH hS rfl (by cases h; rfl) dX4_tellOne_55
          · have h := ite_f hc h
            refine lv_iconst (v := 1) hx hb dX4_tellOne_50 (by decide) ?_
            refine lv_goto (tgt := 55) hx hb dX4_tellOne_51 (by decide) ?_
            exact h_zret (y := 1) C hr hk hH hS rfl (by cases h; rfl) dX4_tellOne_55
  · have h := ite_t hc h
    refine lv_aload_n hx hb dX4_tellOne_17 rfl (lv_at hl 1 rfl) ?_
    obtain ⟨r24, μ23, e22, h⟩ := b2_e h
    refine cVi (as := []) (rest := []) (c_X4_tellHouse hW e22) C hl.1 hH hS rfl (jC_3 hW) rfl wd_4 wd_647 mw_X4_tellHouse wd_645 rfl (rm_ok (by decide) (by decide)) (Nat.le_of_ble_eq_true rfl) ⟨Nat.zero_le _, Nat.zero_le _⟩ (by decide) dX4_tellOne_18 (fun H locs hH hS => ?_)
    exact h_zret (y := r24 &&& 1) C hr hk hH hS rfl (by cases h; rfl) dX4_tellOne_21
theorem c_X4_tellOne {l : Launch} {ω : WW} (hW : FWC ω) {μ : Mem} {rr : Int32} {μo : Mem} (h : fX4_tellOne μ = some (rr, μo)) : Con l yX4_tellOne cX4_tellOne 2 (some .boolean) 36 ω [.ref (wB ω + 3)] μ (some (.int rr)) μo :=
  con_of (by decide) (Nat.le_of_ble_eq_true rfl) (fun p e s m args below meth c ls C hr hk hl hH hS => wX4_tellOne_e hW C hr hk hH hS (lv_sub hl [0] rfl) h)
set_option maxHeartbeats 4000000 in
set_option maxRecDepth 100000 in
theorem wX4_readText_s36 {q1 : Nat} (hW : FWC ω) (hq1 : Is ω q1 102 2000) (C : Cx ω p s m args c cX4_readText 5 RX4) (hr : meth.sig.returnType = some .int) (hk : meth.locks = false) {rr : Int32} {μo : Mem} {x3 : Int32} {x4 : Int32} {rec : Int32 → Int32 → Mem → Option (Int32 × Mem)} (hrec : ∀ (z3 : Int32) (z4 : Int32) (ν : Mem) (H : Heap) (locs : List Loc) (ls : Array Slot), Hd ω ν H → FS ω s H locs → lv_has ls 5 [(0, .ref (wB ω + 3)), (3, .int z3), (4, .int z4)] → rec z3 z4 ν = some (rr, μo) → W p l e (rmd 37) s m args below meth c H locs 0 0 (MQ below (QR ω (some (.int rr)) μo) args s 0 0 (wA ω)) (F0 m 36 ls [])) {μ : Mem} {H : Heap} {locs : List Loc} {ls : Array Slot} (hH : Hd ω μ H) (hS : FS ω s H locs) (hl : lv_has ls 5 [(0, .ref (wB ω + 3)), (3, .int x3), (4, .int x4)]) (h : fX4_readText_s36 rec q1 x3 x4 μ = some (rr, μo)) : W p l e (rmd 37) s m args below meth c H locs 0 0 (MQ below (QR ω (some (.int rr)) μo) args s 0 0 (wA ω)) (F0 m 36 ls []) := by
  have hx := C.1
  have hb := C.2.1
  unfold fX4_readText_s36 at h
  refine lv_iload hx hb dX4_readText_36 (lv_at hl 2 rfl) ?_
  refine lv_sipush (v := 400) hx hb dX4_readText_38 (by decide) ?_
  refine lv_icmp_gt (tgt := 84) hx hb dX4_readText_41 (by decide) (fun hc => ?_) (fun hc => ?_)
  · have h := ite_t hc h
    refine lv_aload_n hx hb dX4_readText_84 rfl (lv_at hl 0 rfl) ?_
    refine g_298 C hH (jC_3 hW) dX4_readText_85 ?_
    exact h_iret C hr hk hH hS rfl (by cases h; rfl) dX4_readText_88
  · have h := ite_f hc h
    refine lv_iload_n hx hb dX4_readText_44 rfl (lv_at hl 1 rfl) ?_
    refine lv_if_eq (tgt := 84) hx hb dX4_readText_45 (by decide) (fun hc => ?_) (fun hc => ?_)
    · have h := ite_t hc h
      refine lv_aload_n hx hb dX4_readText_84 rfl (lv_at hl 0 rfl) ?_
      refine g_298 C hH (jC_3 hW) dX4_readText_85 ?_
      exact h_iret C hr hk hH hS rfl (by cases h; rfl) dX4_readText_88
    · have h := ite_f hc h
      refine lv_aload_n hx hb dX4_readText_48 rfl (lv_at hl 0 rfl) ?_
      refine g_293 (i := 4) C hH (jC_3 hW) rfl dX4_readText_49 ?_
      refine g_191 (i := 6) C hH (jC_4 hW) rfl dX4_readText_52 ?_
      refine lv_aload_n hx hb dX4_readText_55 rfl (lv_at hl 0 rfl) ?_
      refine g_297 C hH (jC_3 hW) dX4_readText_56 ?_
      obtain ⟨b11, h⟩ := gd_e h
      refine h_iald C hH (jC_6 hW).1 (jC_6 hW).2.1 b11 dX4_readText_59 ?_
      refine lv_bipush (v := 23) hx hb dX4_readText_60 (by decide) ?_
      refine lv_icmp_eq (tgt := 76) hx hb dX4_readText_62 (by decide) (fun hc => ?_) (fun hc => ?_)
      · have h := ite_t hc h
        refine lv_iconst (v := 0) hx hb dX4_readText_76 (by decide) ?_
        refine lv_istore_n (lv' := [(3, .int 0), (0, .ref (wB ω + 3)), (4, .int x4)]) hx hb dX4_readText_77 rfl hl (by decide) rfl (fun ls hl => ?_)
        refine lv_iinc (v := x4 + 1) (lv' := [(4, .int (x4 + 1)), (3, .int 0), (0, .ref (wB ω + 3))]) hx hb dX4_readText_78 hl (k := 2) rfl rfl (by decide) rfl (fun ls hl => ?_)
        refine lv_goto (tgt := 36) hx hb dX4_readText_81 (by decide) ?_
        exact hrec _ _ _ H locs ls hH hS (lv_sub hl [2, 1, 0] rfl) h
      · have h := ite_f hc h
        refine lv_aload_n hx hb dX4_readText_65 rfl (lv_at hl 0 rfl) ?_
        obtain ⟨r14, μ13, e12, h⟩ := b2_e h
        refine cVi (as := []) (rest := []) (c_X4_tellOne hW e12) C hl.1 hH hS rfl (jC_3 hW) rfl wd_3 wd_643 mw_X4_tellOne wd_641 rfl (rm_ok (by decide) (by decide)) (Nat.le_of_ble_eq_true rfl) ⟨Nat.zero_le _, Nat.zero_le _⟩ (by decide) dX4_readText_66 (fun H locs hH hS => ?_)
        refine lv_if_eq (tgt := 76) hx hb dX4_readText_69 (by decide) (fun hc => ?_) (fun hc => ?_)
        · have h := ite_t hc h
          refine lv_iconst (v := 0) hx hb dX4_readText_76 (by decide) ?_
          refine lv_istore_n (lv' := [(3, .int 0), (0, .ref (wB ω + 3)), (4, .int x4)]) hx hb dX4_readText_77 rfl hl (by decide) rfl (fun ls hl => ?_)
          refine lv_iinc (v := x4 + 1) (lv' := [(4, .int (x4 + 1)), (3, .int 0), (0, .ref (wB ω + 3))]) hx hb dX4_readText_78 hl (k := 2) rfl rfl (by decide) rfl (fun ls hl => ?_)
          refine lv_goto (tgt := 36) hx hb dX4_readText_81 (by decide) ?_
          exact hrec _ _ _ H locs ls hH hS (lv_sub hl [2, 1, 0] rfl) h
        · have h := ite_f hc h
          refine lv_iconst (v := 1) hx hb dX4_readText_72 (by decide) ?_
          refine lv_goto (tgt := 77) hx hb dX4_readText_73 (by decide) ?_
          refine lv_istore_n (lv' := [(3, .int 1), (0, .ref (wB ω + 3)), (4, .int x4)]) hx hb dX4_readText_77 rfl hl (by decide) rfl (fun ls hl => ?_)
          refine lv_iinc (v := x4 + 1) (lv' := [(4, .int (x4 + 1)), (3, .int 1), (0, .ref (wB ω + 3))]) hx hb dX4_readText_78 hl (k := 2) rfl rfl (by decide) rfl (fun ls hl => ?_)
          refine lv_goto (tgt := 36) hx hb dX4_readText_81 (by decide) ?_
          exact hrec _ _ _ H locs ls hH hS (lv_sub hl [2, 1, 0] rfl) h
theorem wX4_readText_l36 {q1 : Nat} (hW : FWC ω) (hq1 : Is ω q1 102 2000) (C : Cx ω p s m args c cX4_readText 5 RX4) (hr : meth.sig.returnType = some .int) (hk : meth.locks = false) {rr : Int32} {μo : Mem} : ∀ (n : Nat) (x3 : Int32) (x4 : Int32) (μ : Mem) (H : Heap) (locs : List Loc) (ls : Array Slot), Hd ω μ H → FS ω s H locs → lv_has ls 5 [(0, .ref (wB ω + 3)), (3, .int x3), (4, .int x4)] → fX4_readText_l36 q1 n x3 x4 μ = some (rr, μo) → W p l e (rmd 37) s m args below meth c H locs 0 0 (MQ below (QR ω (some (.int rr)) μo) args s 0 0 (wA ω)) (F0 m 36 ls []) := by
  intro n
  induction n with
  | zero => intro x3 x4 μ H locs ls hH hS hl h; cases h
  | succ n ih => intro x3 x4 μ H locs ls hH hS hl h; exact wX4_readText_s36 hW hq1 C hr hk ih hH hS hl h
set_option maxHeartbeats 4000000 in
set_option maxRecDepth 100000 in
theorem wX4_readText_e {q1 : Nat} (hW : FWC ω) (hq1 : Is ω q1 102 2000) (C : Cx ω p s m args c cX4_readText 5 RX4) (hr : meth.sig.returnType = some .int) (hk : meth.locks = false) {rr : Int32} {μo : Mem} {x2 : Int32} {μ : Mem} {H : Heap} {locs : List Loc} {ls : Array Slot} (hH : Hd ω μ H) (hS : FS ω s H locs) (hl : lv_has ls 5 [(0, .ref (wB ω + 3)), (1, .ref (wB ω + q1)), (2, .int x2)]) (h : fX4_readText q1 x2 μ = some (rr, μo)) : W p l e (rmd 37) s m args below meth c H locs 0 0 (MQ below (QR ω (some (.int rr)) μo) args s 0 0 (wA ω)) (F0 m 0 ls []) := by
  have hx := C.1
  have hb := C.2.1
  unfold fX4_readText at h
  refine lv_aload_n hx hb dX4_readText_0 rfl (lv_at hl 0 rfl) ?_
  refine g_293 (i := 4) C hH (jC_3 hW) rfl dX4_readText_1 ?_
  refine lv_aload_n hx hb dX4_readText_4 rfl (lv_at hl 1 rfl) ?_
  refine lv_iload_n hx hb dX4_readText_5 rfl (lv_at hl 2 rfl) ?_
  obtain ⟨μ2, e1, h⟩ := b1_e h
  refine cVv (as := [.ref (wB ω + q1), .int x2]) (rest := []) (c_X8_split hW hq1 e1) C hl.1 hH hS rfl (jC_4 hW) rfl wd_548 wd_547 mw_X8_split wd_546 rfl (rm_ok (by decide) (by decide)) (Nat.le_of_ble_eq_true rfl) ⟨Nat.zero_le _, Nat.zero_le _⟩ (by decide) dX4_readText_6 (fun H locs hH hS => ?_)
  refine lv_aload_n hx hb dX4_readText_9 rfl (lv_at hl 0 rfl) ?_
  refine g_294 (i := 9) C hH (jC_3 hW) rfl dX4_readText_10 ?_
  obtain ⟨μ4, e3, h⟩ := b1_e h
  refine cVv (as := []) (rest := []) (c_X3_setUntold (qC_9 hW) e3) C hl.1 hH hS rfl (jC_9 hW) rfl wd_254 wd_253 mw_X3_setUntold wd_640 rfl (rm_ok (by decide) (by decide)) (Nat.le_of_ble_eq_true rfl) ⟨Nat.zero_le _, Nat.zero_le _⟩ (by decide) dX4_readText_13 (fun H locs hH hS => ?_)
  refine lv_aload_n hx hb dX4_readText_16 rfl (lv_at hl 0 rfl) ?_
  refine lv_iconst (v := 0) hx hb dX4_readText_17 (by decide) ?_
  obtain ⟨μ5, e6, h⟩ := bd_e h
  refine p_297 C hH hS (jC_3 hW) dX4_readText_18 (fun H locs hH hS => ?_)
  have hH := Hd.to e6 hH
  refine lv_aload_n hx hb dX4_readText_21 rfl (lv_at hl 0 rfl) ?_
  refine lv_iconst (v := 0) hx hb dX4_readText_22 (by decide) ?_
  obtain ⟨μ7, e8, h⟩ := bd_e h
  refine p_298 C hH hS (jC_3 hW) dX4_readText_23 (fun H locs hH hS => ?_)
  have hH := Hd.to e8 hH
  refine lv_aload_n hx hb dX4_readText_26 rfl (lv_at hl 0 rfl) ?_
  refine lv_iconst (v := (-1)) hx hb dX4_readText_27 (by decide) ?_
  obtain ⟨μ9, e10, h⟩ := bd_e h
  refine p_299 C hH hS (jC_3 hW) dX4_readText_28 (fun H locs hH hS => ?_)
  have hH := Hd.to e10 hH
  refine lv_iconst (v := 1) hx hb dX4_readText_31 (by decide) ?_
  refine lv_istore_n (lv' := [(3, .int 1), (0, .ref (wB ω + 3)), (1, .ref (wB ω + q1)), (2, .int x2)]) hx hb dX4_readText_32 rfl hl (by decide) rfl (fun ls hl => ?_)
  refine lv_iconst (v := 0) hx hb dX4_readText_33 (by decide) ?_
  refine lv_istore (lv' := [(4, .int 0), (3, .int 1), (0, .ref (wB ω + 3)), (1, .ref (wB ω + q1)), (2, .int x2)]) hx hb dX4_readText_34 hl (by decide) rfl (fun ls hl => ?_)
  exact wX4_readText_l36 hW hq1 C hr hk FU _ _ _ H locs ls hH hS (lv_sub hl [2, 1, 0] rfl) h
theorem c_X4_readText {l : Launch} {ω : WW} {q1 : Nat} {x2 : Int32} (hW : FWC ω) (hq1 : Is ω q1 102 2000) {μ : Mem} {rr : Int32} {μo : Mem} (h : fX4_readText q1 x2 μ = some (rr, μo)) : Con l yX4_readText cX4_readText 5 (some .int) 37 ω [.ref (wB ω + 3), .ref (wB ω + q1), .int x2] μ (some (.int rr)) μo :=
  con_of (by decide) (Nat.le_of_ble_eq_true rfl) (fun p e s m args below meth c ls C hr hk hl hH hS => wX4_readText_e hW hq1 C hr hk hH hS (lv_sub hl [0, 1, 2] rfl) h)
end WK5
