theorem dJ6_bitCount_0f7a4_0 : decode cJ6_bitCount_0f7a4 0 = .ok (.iload_n 0, 1) := by decide +kernel
theorem dJ6_bitCount_0f7a4_1 : decode cJ6_bitCount_0f7a4 1 = .ok (.iload_n 0, 1) := by decide +kernel
theorem dJ6_bitCount_0f7a4_2 : decode cJ6_bitCount_0f7a4 2 = .ok (.iconst 1, 1) := by decide +kernel
theorem dJ6_bitCount_0f7a4_3 : decode cJ6_bitCount_0f7a4 3 = .ok (.iushr, 1) := by decide +kernel
theorem dJ6_bitCount_0f7a4_4 : decode cJ6_bitCount_0f7a4 4 = .ok (.ldc_w 265, 3) := by decide +kernel
theorem dJ6_bitCount_0f7a4_7 : decode cJ6_bitCount_0f7a4 7 = .ok (.iand, 1) := by decide +kernel
theorem dJ6_bitCount_0f7a4_8 : decode cJ6_bitCount_0f7a4 8 = .ok (.isub, 1) := by decide +kernel
theorem dJ6_bitCount_0f7a4_9 : decode cJ6_bitCount_0f7a4 9 = .ok (.istore_n 0, 1) := by decide +kernel
theorem dJ6_bitCount_0f7a4_10 : decode cJ6_bitCount_0f7a4 10 = .ok (.iload_n 0, 1) := by decide +kernel
theorem dJ6_bitCount_0f7a4_11 : decode cJ6_bitCount_0f7a4 11 = .ok (.ldc_w 266, 3) := by decide +kernel
theorem dJ6_bitCount_0f7a4_14 : decode cJ6_bitCount_0f7a4 14 = .ok (.iand, 1) := by decide +kernel
theorem dJ6_bitCount_0f7a4_15 : decode cJ6_bitCount_0f7a4 15 = .ok (.iload_n 0, 1) := by decide +kernel
theorem dJ6_bitCount_0f7a4_16 : decode cJ6_bitCount_0f7a4 16 = .ok (.iconst 2, 1) := by decide +kernel
theorem dJ6_bitCount_0f7a4_17 : decode cJ6_bitCount_0f7a4 17 = .ok (.iushr, 1) := by decide +kernel
theorem dJ6_bitCount_0f7a4_18 : decode cJ6_bitCount_0f7a4 18 = .ok (.ldc_w 266, 3) := by decide +kernel
theorem dJ6_bitCount_0f7a4_21 : decode cJ6_bitCount_0f7a4 21 = .ok (.iand, 1) := by decide +kernel
theorem dJ6_bitCount_0f7a4_22 : decode cJ6_bitCount_0f7a4 22 = .ok (.iadd, 1) := by decide +kernel
theorem dJ6_bitCount_0f7a4_23 : decode cJ6_bitCount_0f7a4 23 = .ok (.istore_n 0, 1) := by decide +kernel
theorem dJ6_bitCount_0f7a4_24 : decode cJ6_bitCount_0f7a4 24 = .ok (.iload_n 0, 1) := by decide +kernel
theorem dJ6_bitCount_0f7a4_25 : decode cJ6_bitCount_0f7a4 25 = .ok (.iload_n 0, 1) := by decide +kernel
theorem dJ6_bitCount_0f7a4_26 : decode cJ6_bitCount_0f7a4 26 = .ok (.iconst 4, 1) := by decide +kernel
theorem dJ6_bitCount_0f7a4_27 : decode cJ6_bitCount_0f7a4 27 = .ok (.iushr, 1) := by decide +kernel
theorem dJ6_bitCount_0f7a4_28 : decode cJ6_bitCount_0f7a4 28 = .ok (.iadd, 1) := by decide +kernel
theorem dJ6_bitCount_0f7a4_29 : decode cJ6_bitCount_0f7a4 29 = .ok (.ldc_w 267, 3) := by decide +kernel
theorem dJ6_bitCount_0f7a4_32 : decode cJ6_bitCount_0f7a4 32 = .ok (.iand, 1) := by decide +kernel
theorem dJ6_bitCount_0f7a4_33 : decode cJ6_bitCount_0f7a4 33 = .ok (.istore_n 0, 1) := by decide +kernel
theorem dJ6_bitCount_0f7a4_34 : decode cJ6_bitCount_0f7a4 34 = .ok (.iload_n 0, 1) := by decide +kernel
theorem dJ6_bitCount_0f7a4_35 : decode cJ6_bitCount_0f7a4 35 = .ok (.iload_n 0, 1) := by decide +kernel
theorem dJ6_bitCount_0f7a4_36 : decode cJ6_bitCount_0f7a4 36 = .ok (.bipush 8, 2) := by decide +kernel
theorem dJ6_bitCount_0f7a4_38 : decode cJ6_bitCount_0f7a4 38 = .ok (.iushr, 1) := by decide +kernel
theorem dJ6_bitCount_0f7a4_39 : decode cJ6_bitCount_0f7a4 39 = .ok (.iadd, 1) := by decide +kernel
theorem dJ6_bitCount_0f7a4_40 : decode cJ6_bitCount_0f7a4 40 = .ok (.istore_n 0, 1) := by decide +kernel
theorem dJ6_bitCount_0f7a4_41 : decode cJ6_bitCount_0f7a4 41 = .ok (.iload_n 0, 1) := by decide +kernel
theorem dJ6_bitCount_0f7a4_42 : decode cJ6_bitCount_0f7a4 42 = .ok (.iload_n 0, 1) := by decide +kernel
theorem dJ6_bitCount_0f7a4_43 : decode cJ6_bitCount_0f7a4 43 = .ok (.bipush 16, 2) := by decide +kernel
theorem dJ6_bitCount_0f7a4_45 : decode cJ6_bitCount_0f7a4 45 = .ok (.iushr, 1) := by decide +kernel
theorem dJ6_bitCount_0f7a4_46 : decode cJ6_bitCount_0f7a4 46 = .ok (.iadd, 1) := by decide +kernel
theorem dJ6_bitCount_0f7a4_47 : decode cJ6_bitCount_0f7a4 47 = .ok (.istore_n 0, 1) := by decide +kernel
theorem dJ6_bitCount_0f7a4_48 : decode cJ6_bitCount_0f7a4 48 = .ok (.iload_n 0, 1) := by decide +kernel
theorem dJ6_bitCount_0f7a4_49 : decode cJ6_bitCount_0f7a4 49 = .ok (.bipush 63, 2) := by decide +kernel
theorem dJ6_bitCount_0f7a4_51 : decode cJ6_bitCount_0f7a4 51 = .ok (.iand, 1) := by decide +kernel
theorem dJ6_bitCount_0f7a4_52 : decode cJ6_bitCount_0f7a4 52 = .ok (.ireturn, 1) := by decide +kernel
theorem dX7_copyFrom_0 : decode cX7_copyFrom 0 = .ok (.aload_n 1, 1) := by decide +kernel
theorem dX7_copyFrom_1 : decode cX7_copyFrom 1 = .ok (.getfield 11, 3) := by decide +kernel
theorem dX7_copyFrom_4 : decode cX7_copyFrom 4 = .ok (.iconst 0, 1) := by decide +kernel
theorem dX7_copyFrom_5 : decode cX7_copyFrom 5 = .ok (.aload_n 0, 1) := by decide +kernel
theorem dX7_copyFrom_6 : decode cX7_copyFrom 6 = .ok (.getfield 11, 3) := by decide +kernel
theorem dX7_copyFrom_9 : decode cX7_copyFrom 9 = .ok (.iconst 0, 1) := by decide +kernel
theorem dX7_copyFrom_10 : decode cX7_copyFrom 10 = .ok (.aload_n 0, 1) := by decide +kernel
theorem dX7_copyFrom_11 : decode cX7_copyFrom 11 = .ok (.getfield 11, 3) := by decide +kernel
theorem dX7_copyFrom_14 : decode cX7_copyFrom 14 = .ok (.arraylength, 1) := by decide +kernel
theorem dX7_copyFrom_15 : decode cX7_copyFrom 15 = .ok (.invokestatic 15, 3) := by decide +kernel
theorem dX7_copyFrom_18 : decode cX7_copyFrom 18 = .ok (.aload_n 0, 1) := by decide +kernel
theorem dX7_copyFrom_19 : decode cX7_copyFrom 19 = .ok (.aload_n 1, 1) := by decide +kernel
theorem dX7_copyFrom_20 : decode cX7_copyFrom 20 = .ok (.getfield 21, 3) := by decide +kernel
theorem dX7_copyFrom_23 : decode cX7_copyFrom 23 = .ok (.putfield 21, 3) := by decide +kernel
theorem dX7_copyFrom_26 : decode cX7_copyFrom 26 = .ok (.aload_n 0, 1) := by decide +kernel
theorem dX7_copyFrom_27 : decode cX7_copyFrom 27 = .ok (.aload_n 1, 1) := by decide +kernel
theorem dX7_copyFrom_28 : decode cX7_copyFrom 28 = .ok (.getfield 25, 3) := by decide +kernel
theorem dX7_copyFrom_31 : decode cX7_copyFrom 31 = .ok (.putfield 25, 3) := by decide +kernel
theorem dX7_copyFrom_34 : decode cX7_copyFrom 34 = .ok (.aload_n 0, 1) := by decide +kernel
theorem dX7_copyFrom_35 : decode cX7_copyFrom 35 = .ok (.aload_n 1, 1) := by decide +kernel
theorem dX7_copyFrom_36 : decode cX7_copyFrom 36 = .ok (.getfield 28, 3) := by decide +kernel
theorem dX7_copyFrom_39 : decode cX7_copyFrom 39 = .ok (.putfield 28, 3) := by decide +kernel
theorem dX7_copyFrom_42 : decode cX7_copyFrom 42 = .ok (.aload_n 0, 1) := by decide +kernel
theorem dX7_copyFrom_43 : decode cX7_copyFrom 43 = .ok (.aload_n 1, 1) := by decide +kernel
theorem dX7_copyFrom_44 : decode cX7_copyFrom 44 = .ok (.getfield 31, 3) := by decide +kernel
theorem dX7_copyFrom_47 : decode cX7_copyFrom 47 = .ok (.putfield 31, 3) := by decide +kernel
theorem dX7_copyFrom_50 : decode cX7_copyFrom 50 = .ok (.return_, 1) := by decide +kernel
theorem dX7_get_0 : decode cX7_get 0 = .ok (.iload_n 1, 1) := by decide +kernel
theorem dX7_get_1 : decode cX7_get 1 = .ok (.bipush 7, 2) := by decide +kernel
theorem dX7_get_3 : decode cX7_get 3 = .ok (.imul, 1) := by decide +kernel
theorem dX7_get_4 : decode cX7_get 4 = .ok (.iload_n 2, 1) := by decide +kernel
theorem dX7_get_5 : decode cX7_get 5 = .ok (.iadd, 1) := by decide +kernel
theorem dX7_get_6 : decode cX7_get 6 = .ok (.istore_n 3, 1) := by decide +kernel
theorem dX7_get_7 : decode cX7_get 7 = .ok (.iload_n 3, 1) := by decide +kernel
theorem dX7_get_8 : decode cX7_get 8 = .ok (.ifCond .lt 21, 3) := by decide +kernel
theorem dX7_get_11 : decode cX7_get 11 = .ok (.iload_n 3, 1) := by decide +kernel
theorem dX7_get_12 : decode cX7_get 12 = .ok (.aload_n 0, 1) := by decide +kernel
theorem dX7_get_13 : decode cX7_get 13 = .ok (.getfield 11, 3) := by decide +kernel
theorem dX7_get_16 : decode cX7_get 16 = .ok (.arraylength, 1) := by decide +kernel
theorem dX7_get_17 : decode cX7_get 17 = .ok (.if_icmp .ge 12, 3) := by decide +kernel
theorem dX7_get_20 : decode cX7_get 20 = .ok (.aload_n 0, 1) := by decide +kernel
theorem dX7_get_21 : decode cX7_get 21 = .ok (.getfield 11, 3) := by decide +kernel
theorem dX7_get_24 : decode cX7_get 24 = .ok (.iload_n 3, 1) := by decide +kernel
theorem dX7_get_25 : decode cX7_get 25 = .ok (.iaload, 1) := by decide +kernel
theorem dX7_get_26 : decode cX7_get 26 = .ok (.goto 4, 3) := by decide +kernel
theorem dX7_get_29 : decode cX7_get 29 = .ok (.iconst 0, 1) := by decide +kernel
theorem dX7_get_30 : decode cX7_get 30 = .ok (.ireturn, 1) := by decide +kernel
theorem dX1_joined_0 : decode cX1_joined 0 = .ok (.iload_n 0, 1) := by decide +kernel
theorem dX1_joined_1 : decode cX1_joined 1 = .ok (.bipush 10, 2) := by decide +kernel
theorem dX1_joined_3 : decode cX1_joined 3 = .ok (.if_icmp .ne 7, 3) := by decide +kernel
theorem dX1_joined_6 : decode cX1_joined 6 = .ok (.iload_n 1, 1) := by decide +kernel
theorem dX1_joined_7 : decode cX1_joined 7 = .ok (.iload_n 2, 1) := by decide +kernel
theorem dX1_joined_8 : decode cX1_joined 8 = .ok (.iadd, 1) := by decide +kernel
theorem dX1_joined_9 : decode cX1_joined 9 = .ok (.ireturn, 1) := by decide +kernel
theorem dX1_joined_10 : decode cX1_joined 10 = .ok (.iload_n 0, 1) := by decide +kernel
theorem dX1_joined_11 : decode cX1_joined 11 = .ok (.bipush 11, 2) := by decide +kernel
theorem dX1_joined_13 : decode cX1_joined 13 = .ok (.if_icmp .ne 7, 3) := by decide +kernel
theorem dX1_joined_16 : decode cX1_joined 16 = .ok (.iload_n 1, 1) := by decide +kernel
theorem dX1_joined_17 : decode cX1_joined 17 = .ok (.iload_n 2, 1) := by decide +kernel
theorem dX1_joined_18 : decode cX1_joined 18 = .ok (.isub, 1) := by decide +kernel
theorem dX1_joined_19 : decode cX1_joined 19 = .ok (.ireturn, 1) := by decide +kernel
theorem dX1_joined_20 : decode cX1_joined 20 = .ok (.iload_n 0, 1) := by decide +kernel
theorem dX1_joined_21 : decode cX1_joined 21 = .ok (.bipush 12, 2) := by decide +kernel
theorem dX1_joined_23 : decode cX1_joined 23 = .ok (.if_icmp .ne 7, 3) := by decide +kernel
theorem dX1_joined_26 : decode cX1_joined 26 = .ok (.iload_n 1, 1) := by decide +kernel
theorem dX1_joined_27 : decode cX1_joined 27 = .ok (.iload_n 2, 1) := by decide +kernel
theorem dX1_joined_28 : decode cX1_joined 28 = .ok (.imul, 1) := by decide +kernel
theorem dX1_joined_29 : decode cX1_joined 29 = .ok (.ireturn, 1) := by decide +kernel
theorem dX1_joined_30 : decode cX1_joined 30 = .ok (.iload_n 2, 1) := by decide +kernel
theorem dX1_joined_31 : decode cX1_joined 31 = .ok (.ifCond .ne 7, 3) := by decide +kernel
theorem dX1_joined_34 : decode cX1_joined 34 = .ok (.iconst 0, 1) := by decide +kernel
theorem dX1_joined_35 : decode cX1_joined 35 = .ok (.goto 6, 3) := by decide +kernel
theorem dX1_joined_38 : decode cX1_joined 38 = .ok (.iload_n 1, 1) := by decide +kernel
theorem dX1_joined_39 : decode cX1_joined 39 = .ok (.iload_n 2, 1) := by decide +kernel
theorem dX1_joined_40 : decode cX1_joined 40 = .ok (.idiv, 1) := by decide +kernel
theorem dX1_joined_41 : decode cX1_joined 41 = .ok (.ireturn, 1) := by decide +kernel
theorem dX1_valueOf_0 : decode cX1_valueOf 0 = .ok (.iconst 0, 1) := by decide +kernel
theorem dX1_valueOf_1 : decode cX1_valueOf 1 = .ok (.istore 4, 2) := by decide +kernel
theorem dX1_valueOf_3 : decode cX1_valueOf 3 = .ok (.iload_n 1, 1) := by decide +kernel
theorem dX1_valueOf_4 : decode cX1_valueOf 4 = .ok (.ifCond .lt 17, 3) := by decide +kernel
theorem dX1_valueOf_7 : decode cX1_valueOf 7 = .ok (.iload_n 1, 1) := by decide +kernel
theorem dX1_valueOf_8 : decode cX1_valueOf 8 = .ok (.iconst 4, 1) := by decide +kernel
theorem dX1_valueOf_9 : decode cX1_valueOf 9 = .ok (.if_icmp .ge 12, 3) := by decide +kernel
theorem dX1_valueOf_12 : decode cX1_valueOf 12 = .ok (.aload_n 0, 1) := by decide +kernel
theorem dX1_valueOf_13 : decode cX1_valueOf 13 = .ok (.getfield 18, 3) := by decide +kernel
theorem dX1_valueOf_16 : decode cX1_valueOf 16 = .ok (.iload_n 1, 1) := by decide +kernel
theorem dX1_valueOf_17 : decode cX1_valueOf 17 = .ok (.iaload, 1) := by decide +kernel
theorem dX1_valueOf_18 : decode cX1_valueOf 18 = .ok (.goto 7, 3) := by decide +kernel
theorem dX1_valueOf_21 : decode cX1_valueOf 21 = .ok (.aload_n 0, 1) := by decide +kernel
theorem dX1_valueOf_22 : decode cX1_valueOf 22 = .ok (.getfield 27, 3) := by decide +kernel
theorem dX1_valueOf_25 : decode cX1_valueOf 25 = .ok (.istore 5, 2) := by decide +kernel
theorem dX1_valueOf_27 : decode cX1_valueOf 27 = .ok (.iload 5, 2) := by decide +kernel
theorem dX1_valueOf_29 : decode cX1_valueOf 29 = .ok (.istore 6, 2) := by decide +kernel
theorem dX1_valueOf_31 : decode cX1_valueOf 31 = .ok (.iload 6, 2) := by decide +kernel
theorem dX1_valueOf_33 : decode cX1_valueOf 33 = .ok (.aload_n 0, 1) := by decide +kernel
theorem dX1_valueOf_34 : decode cX1_valueOf 34 = .ok (.getfield 27, 3) := by decide +kernel
theorem dX1_valueOf_37 : decode cX1_valueOf 37 = .ok (.if_icmp .ge 228, 3) := by decide +kernel
theorem dX1_valueOf_40 : decode cX1_valueOf 40 = .ok (.aload_n 0, 1) := by decide +kernel
theorem dX1_valueOf_41 : decode cX1_valueOf 41 = .ok (.getfield 11, 3) := by decide +kernel
theorem dX1_valueOf_44 : decode cX1_valueOf 44 = .ok (.iload 6, 2) := by decide +kernel
theorem dX1_valueOf_46 : decode cX1_valueOf 46 = .ok (.iaload, 1) := by decide +kernel
theorem dX1_valueOf_47 : decode cX1_valueOf 47 = .ok (.istore 7, 2) := by decide +kernel
theorem dX1_valueOf_49 : decode cX1_valueOf 49 = .ok (.iload 7, 2) := by decide +kernel
theorem dX1_valueOf_51 : decode cX1_valueOf 51 = .ok (.bipush 9, 2) := by decide +kernel
theorem dX1_valueOf_53 : decode cX1_valueOf 53 = .ok (.if_icmp .gt 78, 3) := by decide +kernel
theorem dX1_valueOf_56 : decode cX1_valueOf 56 = .ok (.iload 4, 2) := by decide +kernel
theorem dX1_valueOf_58 : decode cX1_valueOf 58 = .ok (.bipush 32, 2) := by decide +kernel
theorem dX1_valueOf_60 : decode cX1_valueOf 60 = .ok (.if_icmp .lt 5, 3) := by decide +kernel
theorem dX1_valueOf_63 : decode cX1_valueOf 63 = .ok (.iconst 0, 1) := by decide +kernel
theorem dX1_valueOf_64 : decode cX1_valueOf 64 = .ok (.ireturn, 1) := by decide +kernel
theorem dX1_valueOf_65 : decode cX1_valueOf 65 = .ok (.iload 7, 2) := by decide +kernel
theorem dX1_valueOf_67 : decode cX1_valueOf 67 = .ok (.bipush 7, 2) := by decide +kernel
theorem dX1_valueOf_69 : decode cX1_valueOf 69 = .ok (.if_icmp .ne 10, 3) := by decide +kernel
theorem dX1_valueOf_72 : decode cX1_valueOf 72 = .ok (.aload_n 2, 1) := by decide +kernel
theorem dX1_valueOf_73 : decode cX1_valueOf 73 = .ok (.getfield 47, 3) := by decide +kernel
theorem dX1_valueOf_76 : decode cX1_valueOf 76 = .ok (.goto 21, 3) := by decide +kernel
theorem dX1_valueOf_79 : decode cX1_valueOf 79 = .ok (.iload 7, 2) := by decide +kernel
theorem dX1_valueOf_81 : decode cX1_valueOf 81 = .ok (.bipush 8, 2) := by decide +kernel
theorem dX1_valueOf_83 : decode cX1_valueOf 83 = .ok (.if_icmp .ne 7, 3) := by decide +kernel
theorem dX1_valueOf_86 : decode cX1_valueOf 86 = .ok (.iload_n 3, 1) := by decide +kernel
theorem dX1_valueOf_87 : decode cX1_valueOf 87 = .ok (.goto 10, 3) := by decide +kernel
theorem dX1_valueOf_90 : decode cX1_valueOf 90 = .ok (.aload_n 0, 1) := by decide +kernel
theorem dX1_valueOf_91 : decode cX1_valueOf 91 = .ok (.getfield 15, 3) := by decide +kernel
theorem dX1_valueOf_94 : decode cX1_valueOf 94 = .ok (.iload 6, 2) := by decide +kernel
theorem dX1_valueOf_96 : decode cX1_valueOf 96 = .ok (.iaload, 1) := by decide +kernel
theorem dX1_valueOf_97 : decode cX1_valueOf 97 = .ok (.istore 8, 2) := by decide +kernel
theorem dX1_valueOf_99 : decode cX1_valueOf 99 = .ok (.aload_n 0, 1) := by decide +kernel
theorem dX1_valueOf_100 : decode cX1_valueOf 100 = .ok (.getfield 21, 3) := by decide +kernel
theorem dX1_valueOf_103 : decode cX1_valueOf 103 = .ok (.iload 4, 2) := by decide +kernel
theorem dX1_valueOf_105 : decode cX1_valueOf 105 = .ok (.iload 7, 2) := by decide +kernel
theorem dX1_valueOf_107 : decode cX1_valueOf 107 = .ok (.bipush 7, 2) := by decide +kernel
theorem dX1_valueOf_109 : decode cX1_valueOf 109 = .ok (.if_icmp .ge 13, 3) := by decide +kernel
theorem dX1_valueOf_112 : decode cX1_valueOf 112 = .ok (.aload_n 2, 1) := by decide +kernel
theorem dX1_valueOf_113 : decode cX1_valueOf 113 = .ok (.iload_n 3, 1) := by decide +kernel
theorem dX1_valueOf_114 : decode cX1_valueOf 114 = .ok (.iload 7, 2) := by decide +kernel
theorem dX1_valueOf_116 : decode cX1_valueOf 116 = .ok (.invokevirtual 50, 3) := by decide +kernel
theorem dX1_valueOf_119 : decode cX1_valueOf 119 = .ok (.goto 5, 3) := by decide +kernel
theorem dX1_valueOf_122 : decode cX1_valueOf 122 = .ok (.iload 8, 2) := by decide +kernel
theorem dX1_valueOf_124 : decode cX1_valueOf 124 = .ok (.iastore, 1) := by decide +kernel
theorem dX1_valueOf_125 : decode cX1_valueOf 125 = .ok (.iinc 4 1, 3) := by decide +kernel
theorem dX1_valueOf_128 : decode cX1_valueOf 128 = .ok (.goto 131, 3) := by decide +kernel
theorem dX1_valueOf_131 : decode cX1_valueOf 131 = .ok (.iload 7, 2) := by decide +kernel
theorem dX1_valueOf_133 : decode cX1_valueOf 133 = .ok (.bipush 15, 2) := by decide +kernel
theorem dX1_valueOf_135 : decode cX1_valueOf 135 = .ok (.if_icmp .ne 22, 3) := by decide +kernel
theorem dX1_valueOf_138 : decode cX1_valueOf 138 = .ok (.iload 4, 2) := by decide +kernel
theorem dX1_valueOf_140 : decode cX1_valueOf 140 = .ok (.ifCond .le 15, 3) := by decide +kernel
theorem dX1_valueOf_143 : decode cX1_valueOf 143 = .ok (.aload_n 0, 1) := by decide +kernel
theorem dX1_valueOf_144 : decode cX1_valueOf 144 = .ok (.getfield 21, 3) := by decide +kernel
theorem dX1_valueOf_147 : decode cX1_valueOf 147 = .ok (.iload 4, 2) := by decide +kernel
theorem dX1_valueOf_149 : decode cX1_valueOf 149 = .ok (.iconst 1, 1) := by decide +kernel
theorem dX1_valueOf_150 : decode cX1_valueOf 150 = .ok (.isub, 1) := by decide +kernel
theorem dX1_valueOf_151 : decode cX1_valueOf 151 = .ok (.iaload, 1) := by decide +kernel
theorem dX1_valueOf_152 : decode cX1_valueOf 152 = .ok (.goto 4, 3) := by decide +kernel
theorem dX1_valueOf_155 : decode cX1_valueOf 155 = .ok (.iconst 0, 1) := by decide +kernel
theorem dX1_valueOf_156 : decode cX1_valueOf 156 = .ok (.ireturn, 1) := by decide +kernel
theorem dX1_valueOf_157 : decode cX1_valueOf 157 = .ok (.iload 4, 2) := by decide +kernel
theorem dX1_valueOf_159 : decode cX1_valueOf 159 = .ok (.iconst 2, 1) := by decide +kernel
theorem dX1_valueOf_160 : decode cX1_valueOf 160 = .ok (.if_icmp .ge 5, 3) := by decide +kernel
theorem dX1_valueOf_163 : decode cX1_valueOf 163 = .ok (.iconst 0, 1) := by decide +kernel
theorem dX1_valueOf_164 : decode cX1_valueOf 164 = .ok (.ireturn, 1) := by decide +kernel
theorem dX1_valueOf_165 : decode cX1_valueOf 165 = .ok (.iinc 4 (-2), 3) := by decide +kernel
theorem dX1_valueOf_168 : decode cX1_valueOf 168 = .ok (.aload_n 0, 1) := by decide +kernel
theorem dX1_valueOf_169 : decode cX1_valueOf 169 = .ok (.getfield 21, 3) := by decide +kernel
theorem dX1_valueOf_172 : decode cX1_valueOf 172 = .ok (.iload 4, 2) := by decide +kernel
theorem dX1_valueOf_174 : decode cX1_valueOf 174 = .ok (.iaload, 1) := by decide +kernel
theorem dX1_valueOf_175 : decode cX1_valueOf 175 = .ok (.istore 8, 2) := by decide +kernel
theorem dX1_valueOf_177 : decode cX1_valueOf 177 = .ok (.aload_n 0, 1) := by decide +kernel
theorem dX1_valueOf_178 : decode cX1_valueOf 178 = .ok (.getfield 21, 3) := by decide +kernel
theorem dX1_valueOf_181 : decode cX1_valueOf 181 = .ok (.iload 4, 2) := by decide +kernel
theorem dX1_valueOf_183 : decode cX1_valueOf 183 = .ok (.iconst 1, 1) := by decide +kernel
theorem dX1_valueOf_184 : decode cX1_valueOf 184 = .ok (.iadd, 1) := by decide +kernel
theorem dX1_valueOf_185 : decode cX1_valueOf 185 = .ok (.iaload, 1) := by decide +kernel
theorem dX1_valueOf_186 : decode cX1_valueOf 186 = .ok (.istore 9, 2) := by decide +kernel
theorem dX1_valueOf_188 : decode cX1_valueOf 188 = .ok (.iload 7, 2) := by decide +kernel
theorem dX1_valueOf_190 : decode cX1_valueOf 190 = .ok (.bipush 14, 2) := by decide +kernel
theorem dX1_valueOf_192 : decode cX1_valueOf 192 = .ok (.if_icmp .ne 34, 3) := by decide +kernel
theorem dX1_valueOf_195 : decode cX1_valueOf 195 = .ok (.iload 8, 2) := by decide +kernel
theorem dX1_valueOf_197 : decode cX1_valueOf 197 = .ok (.iload 9, 2) := by decide +kernel
theorem dX1_valueOf_199 : decode cX1_valueOf 199 = .ok (.if_icmp .ge 8, 3) := by decide +kernel
theorem dX1_valueOf_202 : decode cX1_valueOf 202 = .ok (.iload 6, 2) := by decide +kernel
theorem dX1_valueOf_204 : decode cX1_valueOf 204 = .ok (.goto 17, 3) := by decide +kernel
theorem dX1_valueOf_207 : decode cX1_valueOf 207 = .ok (.iload 6, 2) := by decide +kernel
theorem dX1_valueOf_209 : decode cX1_valueOf 209 = .ok (.aload_n 0, 1) := by decide +kernel
theorem dX1_valueOf_210 : decode cX1_valueOf 210 = .ok (.getfield 15, 3) := by decide +kernel
theorem dX1_valueOf_213 : decode cX1_valueOf 213 = .ok (.iload 6, 2) := by decide +kernel
theorem dX1_valueOf_215 : decode cX1_valueOf 215 = .ok (.iaload, 1) := by decide +kernel
theorem dX1_valueOf_216 : decode cX1_valueOf 216 = .ok (.iconst 1, 1) := by decide +kernel
theorem dX1_valueOf_217 : decode cX1_valueOf 217 = .ok (.isub, 1) := by decide +kernel
theorem dX1_valueOf_218 : decode cX1_valueOf 218 = .ok (.invokestatic 54, 3) := by decide +kernel
theorem dX1_valueOf_221 : decode cX1_valueOf 221 = .ok (.istore 6, 2) := by decide +kernel
theorem dX1_valueOf_223 : decode cX1_valueOf 223 = .ok (.goto 36, 3) := by decide +kernel
theorem dX1_valueOf_226 : decode cX1_valueOf 226 = .ok (.iload 7, 2) := by decide +kernel
theorem dX1_valueOf_228 : decode cX1_valueOf 228 = .ok (.bipush 13, 2) := by decide +kernel
theorem dX1_valueOf_230 : decode cX1_valueOf 230 = .ok (.if_icmp .ne 10, 3) := by decide +kernel
theorem dX1_valueOf_233 : decode cX1_valueOf 233 = .ok (.iload 9, 2) := by decide +kernel
theorem dX1_valueOf_235 : decode cX1_valueOf 235 = .ok (.ifCond .ne 5, 3) := by decide +kernel
theorem dX1_valueOf_238 : decode cX1_valueOf 238 = .ok (.iconst 0, 1) := by decide +kernel
theorem dX1_valueOf_239 : decode cX1_valueOf 239 = .ok (.ireturn, 1) := by decide +kernel
theorem dX1_valueOf_240 : decode cX1_valueOf 240 = .ok (.aload_n 0, 1) := by decide +kernel
theorem dX1_valueOf_241 : decode cX1_valueOf 241 = .ok (.getfield 21, 3) := by decide +kernel
theorem dX1_valueOf_244 : decode cX1_valueOf 244 = .ok (.iload 4, 2) := by decide +kernel
theorem dX1_valueOf_246 : decode cX1_valueOf 246 = .ok (.iload 7, 2) := by decide +kernel
theorem dX1_valueOf_248 : decode cX1_valueOf 248 = .ok (.iload 8, 2) := by decide +kernel
theorem dX1_valueOf_250 : decode cX1_valueOf 250 = .ok (.iload 9, 2) := by decide +kernel
theorem dX1_valueOf_252 : decode cX1_valueOf 252 = .ok (.invokestatic 59, 3) := by decide +kernel
theorem dX1_valueOf_255 : decode cX1_valueOf 255 = .ok (.iastore, 1) := by decide +kernel
theorem dX1_valueOf_256 : decode cX1_valueOf 256 = .ok (.iinc 4 1, 3) := by decide +kernel
theorem dX1_valueOf_259 : decode cX1_valueOf 259 = .ok (.iinc 6 1, 3) := by decide +kernel
theorem dX1_valueOf_262 : decode cX1_valueOf 262 = .ok (.goto (-231), 3) := by decide +kernel
theorem dX1_valueOf_265 : decode cX1_valueOf 265 = .ok (.iconst 0, 1) := by decide +kernel
theorem dX1_valueOf_266 : decode cX1_valueOf 266 = .ok (.ireturn, 1) := by decide +kernel
theorem dX7_set_0 : decode cX7_set 0 = .ok (.iload_n 1, 1) := by decide +kernel
theorem dX7_set_1 : decode cX7_set 1 = .ok (.bipush 7, 2) := by decide +kernel
theorem dX7_set_3 : decode cX7_set 3 = .ok (.imul, 1) := by decide +kernel
theorem dX7_set_4 : decode cX7_set 4 = .ok (.iload_n 2, 1) := by decide +kernel
theorem dX7_set_5 : decode cX7_set 5 = .ok (.iadd, 1) := by decide +kernel
theorem dX7_set_6 : decode cX7_set 6 = .ok (.istore 4, 2) := by decide +kernel
theorem dX7_set_8 : decode cX7_set 8 = .ok (.iload 4, 2) := by decide +kernel
theorem dX7_set_10 : decode cX7_set 10 = .ok (.ifCond .lt 21, 3) := by decide +kernel
theorem dX7_set_13 : decode cX7_set 13 = .ok (.iload 4, 2) := by decide +kernel
theorem dX7_set_15 : decode cX7_set 15 = .ok (.aload_n 0, 1) := by decide +kernel
theorem dX7_set_16 : decode cX7_set 16 = .ok (.getfield 11, 3) := by decide +kernel
theorem dX7_set_19 : decode cX7_set 19 = .ok (.arraylength, 1) := by decide +kernel
theorem dX7_set_20 : decode cX7_set 20 = .ok (.if_icmp .ge 11, 3) := by decide +kernel
theorem dX7_set_23 : decode cX7_set 23 = .ok (.aload_n 0, 1) := by decide +kernel
theorem dX7_set_24 : decode cX7_set 24 = .ok (.getfield 11, 3) := by decide +kernel
theorem dX7_set_27 : decode cX7_set 27 = .ok (.iload 4, 2) := by decide +kernel
theorem dX7_set_29 : decode cX7_set 29 = .ok (.iload_n 3, 1) := by decide +kernel
theorem dX7_set_30 : decode cX7_set 30 = .ok (.iastore, 1) := by decide +kernel
theorem dX7_set_31 : decode cX7_set 31 = .ok (.return_, 1) := by decide +kernel
theorem dX7_sumOf_0 : decode cX7_sumOf 0 = .ok (.iconst 0, 1) := by decide +kernel
theorem dX7_sumOf_1 : decode cX7_sumOf 1 = .ok (.istore_n 2, 1) := by decide +kernel
theorem dX7_sumOf_2 : decode cX7_sumOf 2 = .ok (.iconst 0, 1) := by decide +kernel
theorem dX7_sumOf_3 : decode cX7_sumOf 3 = .ok (.istore_n 3, 1) := by decide +kernel
theorem dX7_sumOf_4 : decode cX7_sumOf 4 = .ok (.iload_n 3, 1) := by decide +kernel
theorem dX7_sumOf_5 : decode cX7_sumOf 5 = .ok (.bipush 6, 2) := by decide +kernel
theorem dX7_sumOf_7 : decode cX7_sumOf 7 = .ok (.if_icmp .ge 18, 3) := by decide +kernel
theorem dX7_sumOf_10 : decode cX7_sumOf 10 = .ok (.iload_n 2, 1) := by decide +kernel
theorem dX7_sumOf_11 : decode cX7_sumOf 11 = .ok (.aload_n 0, 1) := by decide +kernel
theorem dX7_sumOf_12 : decode cX7_sumOf 12 = .ok (.iload_n 3, 1) := by decide +kernel
theorem dX7_sumOf_13 : decode cX7_sumOf 13 = .ok (.iload_n 1, 1) := by decide +kernel
theorem dX7_sumOf_14 : decode cX7_sumOf 14 = .ok (.invokevirtual 34, 3) := by decide +kernel
theorem dX7_sumOf_17 : decode cX7_sumOf 17 = .ok (.iadd, 1) := by decide +kernel
theorem dX7_sumOf_18 : decode cX7_sumOf 18 = .ok (.istore_n 2, 1) := by decide +kernel
theorem dX7_sumOf_19 : decode cX7_sumOf 19 = .ok (.iinc 3 1, 3) := by decide +kernel
theorem dX7_sumOf_22 : decode cX7_sumOf 22 = .ok (.goto (-18), 3) := by decide +kernel
theorem dX7_sumOf_25 : decode cX7_sumOf 25 = .ok (.iload_n 2, 1) := by decide +kernel
theorem dX7_sumOf_26 : decode cX7_sumOf 26 = .ok (.ireturn, 1) := by decide +kernel
theorem dX7_bitsOf_0 : decode cX7_bitsOf 0 = .ok (.iconst 0, 1) := by decide +kernel
theorem dX7_bitsOf_1 : decode cX7_bitsOf 1 = .ok (.istore 4, 2) := by decide +kernel
theorem dX7_bitsOf_3 : decode cX7_bitsOf 3 = .ok (.iconst 0, 1) := by decide +kernel
theorem dX7_bitsOf_4 : decode cX7_bitsOf 4 = .ok (.istore 5, 2) := by decide +kernel
theorem dX7_bitsOf_6 : decode cX7_bitsOf 6 = .ok (.iload 5, 2) := by decide +kernel
theorem dX7_bitsOf_8 : decode cX7_bitsOf 8 = .ok (.iload_n 3, 1) := by decide +kernel
theorem dX7_bitsOf_9 : decode cX7_bitsOf 9 = .ok (.if_icmp .ge 29, 3) := by decide +kernel
theorem dX7_bitsOf_12 : decode cX7_bitsOf 12 = .ok (.aload_n 0, 1) := by decide +kernel
theorem dX7_bitsOf_13 : decode cX7_bitsOf 13 = .ok (.iload 5, 2) := by decide +kernel
theorem dX7_bitsOf_15 : decode cX7_bitsOf 15 = .ok (.iload_n 1, 1) := by decide +kernel
theorem dX7_bitsOf_16 : decode cX7_bitsOf 16 = .ok (.invokevirtual 34, 3) := by decide +kernel
theorem dX7_bitsOf_19 : decode cX7_bitsOf 19 = .ok (.iload_n 2, 1) := by decide +kernel
theorem dX7_bitsOf_20 : decode cX7_bitsOf 20 = .ok (.if_icmp .ne 12, 3) := by decide +kernel
theorem dX7_bitsOf_23 : decode cX7_bitsOf 23 = .ok (.iload 4, 2) := by decide +kernel
theorem dX7_bitsOf_25 : decode cX7_bitsOf 25 = .ok (.iconst 1, 1) := by decide +kernel
theorem dX7_bitsOf_26 : decode cX7_bitsOf 26 = .ok (.iload 5, 2) := by decide +kernel
theorem dX7_bitsOf_28 : decode cX7_bitsOf 28 = .ok (.ishl, 1) := by decide +kernel
theorem dX7_bitsOf_29 : decode cX7_bitsOf 29 = .ok (.ior, 1) := by decide +kernel
theorem dX7_bitsOf_30 : decode cX7_bitsOf 30 = .ok (.istore 4, 2) := by decide +kernel
theorem dX7_bitsOf_32 : decode cX7_bitsOf 32 = .ok (.iinc 5 1, 3) := by decide +kernel
theorem dX7_bitsOf_35 : decode cX7_bitsOf 35 = .ok (.goto (-29), 3) := by decide +kernel
theorem dX7_bitsOf_38 : decode cX7_bitsOf 38 = .ok (.iload 4, 2) := by decide +kernel
theorem dX7_bitsOf_40 : decode cX7_bitsOf 40 = .ok (.ireturn, 1) := by decide +kernel
theorem dX7_keptApart_0 : decode cX7_keptApart 0 = .ok (.aload_n 0, 1) := by decide +kernel
theorem dX7_keptApart_1 : decode cX7_keptApart 1 = .ok (.iload_n 1, 1) := by decide +kernel
theorem dX7_keptApart_2 : decode cX7_keptApart 2 = .ok (.iconst 3, 1) := by decide +kernel
theorem dX7_keptApart_3 : decode cX7_keptApart 3 = .ok (.invokevirtual 34, 3) := by decide +kernel
theorem dX7_keptApart_6 : decode cX7_keptApart 6 = .ok (.aload_n 0, 1) := by decide +kernel
theorem dX7_keptApart_7 : decode cX7_keptApart 7 = .ok (.iload_n 2, 1) := by decide +kernel
theorem dX7_keptApart_8 : decode cX7_keptApart 8 = .ok (.iconst 3, 1) := by decide +kernel
theorem dX7_keptApart_9 : decode cX7_keptApart 9 = .ok (.invokevirtual 34, 3) := by decide +kernel
theorem dX7_keptApart_12 : decode cX7_keptApart 12 = .ok (.isub, 1) := by decide +kernel
theorem dX7_keptApart_13 : decode cX7_keptApart 13 = .ok (.invokestatic 38, 3) := by decide +kernel
theorem dX7_keptApart_16 : decode cX7_keptApart 16 = .ok (.ireturn, 1) := by decide +kernel
theorem dX12_back_0 : decode cX12_back 0 = .ok (.iload_n 1, 1) := by decide +kernel
theorem dX12_back_1 : decode cX12_back 1 = .ok (.ifCond .lt 11, 3) := by decide +kernel
theorem dX12_back_4 : decode cX12_back 4 = .ok (.iload_n 1, 1) := by decide +kernel
theorem dX12_back_5 : decode cX12_back 5 = .ok (.aload_n 0, 1) := by decide +kernel
theorem dX12_back_6 : decode cX12_back 6 = .ok (.getfield 178, 3) := by decide +kernel
theorem dX12_back_9 : decode cX12_back 9 = .ok (.if_icmp .le 5, 3) := by decide +kernel
theorem dX12_back_12 : decode cX12_back 12 = .ok (.iconst (-1), 1) := by decide +kernel
theorem dX12_back_13 : decode cX12_back 13 = .ok (.ireturn, 1) := by decide +kernel
theorem dX12_back_14 : decode cX12_back 14 = .ok (.aload_n 0, 1) := by decide +kernel
theorem dX12_back_15 : decode cX12_back 15 = .ok (.dup, 1) := by decide +kernel
theorem dX12_back_16 : decode cX12_back 16 = .ok (.getfield 178, 3) := by decide +kernel
theorem dX12_back_19 : decode cX12_back 19 = .ok (.iload_n 1, 1) := by decide +kernel
theorem dX12_back_20 : decode cX12_back 20 = .ok (.isub, 1) := by decide +kernel
theorem dX12_back_21 : decode cX12_back 21 = .ok (.putfield 178, 3) := by decide +kernel
theorem dX12_back_24 : decode cX12_back 24 = .ok (.aload_n 0, 1) := by decide +kernel
theorem dX12_back_25 : decode cX12_back 25 = .ok (.getfield 178, 3) := by decide +kernel
theorem dX12_back_28 : decode cX12_back 28 = .ok (.ireturn, 1) := by decide +kernel
theorem dX12_many_0 : decode cX12_many 0 = .ok (.aload_n 0, 1) := by decide +kernel
theorem dX12_many_1 : decode cX12_many 1 = .ok (.getfield 43, 3) := by decide +kernel
theorem dX12_many_4 : decode cX12_many 4 = .ok (.aload_n 0, 1) := by decide +kernel
theorem dX12_many_5 : decode cX12_many 5 = .ok (.getfield 245, 3) := by decide +kernel
theorem dX12_many_8 : decode cX12_many 8 = .ok (.iaload, 1) := by decide +kernel
theorem dX12_many_9 : decode cX12_many 9 = .ok (.ireturn, 1) := by decide +kernel
theorem dX12_copies_0 : decode cX12_copies 0 = .ok (.iconst 0, 1) := by decide +kernel
theorem dX12_copies_1 : decode cX12_copies 1 = .ok (.istore_n 1, 1) := by decide +kernel
theorem dX12_copies_2 : decode cX12_copies 2 = .ok (.iload_n 1, 1) := by decide +kernel
theorem dX12_copies_3 : decode cX12_copies 3 = .ok (.bipush 39, 2) := by decide +kernel
theorem dX12_copies_5 : decode cX12_copies 5 = .ok (.if_icmp .ge 21, 3) := by decide +kernel
theorem dX12_copies_8 : decode cX12_copies 8 = .ok (.aload_n 0, 1) := by decide +kernel
theorem dX12_copies_9 : decode cX12_copies 9 = .ok (.getfield 113, 3) := by decide +kernel
theorem dX12_copies_12 : decode cX12_copies 12 = .ok (.iload_n 1, 1) := by decide +kernel
theorem dX12_copies_13 : decode cX12_copies 13 = .ok (.aload_n 0, 1) := by decide +kernel
theorem dX12_copies_14 : decode cX12_copies 14 = .ok (.getfield 110, 3) := by decide +kernel
theorem dX12_copies_17 : decode cX12_copies 17 = .ok (.iload_n 1, 1) := by decide +kernel
theorem dX12_copies_18 : decode cX12_copies 18 = .ok (.iaload, 1) := by decide +kernel
theorem dX12_copies_19 : decode cX12_copies 19 = .ok (.iastore, 1) := by decide +kernel
theorem dX12_copies_20 : decode cX12_copies 20 = .ok (.iinc 1 1, 3) := by decide +kernel
theorem dX12_copies_23 : decode cX12_copies 23 = .ok (.goto (-21), 3) := by decide +kernel
theorem dX12_copies_26 : decode cX12_copies 26 = .ok (.aload_n 0, 1) := by decide +kernel
theorem dX12_copies_27 : decode cX12_copies 27 = .ok (.aload_n 0, 1) := by decide +kernel
theorem dX12_copies_28 : decode cX12_copies 28 = .ok (.getfield 70, 3) := by decide +kernel
theorem dX12_copies_31 : decode cX12_copies 31 = .ok (.aload_n 0, 1) := by decide +kernel
theorem dX12_copies_32 : decode cX12_copies 32 = .ok (.getfield 245, 3) := by decide +kernel
theorem dX12_copies_35 : decode cX12_copies 35 = .ok (.iaload, 1) := by decide +kernel
theorem dX12_copies_36 : decode cX12_copies 36 = .ok (.putfield 317, 3) := by decide +kernel
theorem dX12_copies_39 : decode cX12_copies 39 = .ok (.aload_n 0, 1) := by decide +kernel
theorem dX12_copies_40 : decode cX12_copies 40 = .ok (.iconst 0, 1) := by decide +kernel
theorem dX12_copies_41 : decode cX12_copies 41 = .ok (.putfield 320, 3) := by decide +kernel
theorem dX12_copies_44 : decode cX12_copies 44 = .ok (.return_, 1) := by decide +kernel
theorem dX12_panesAt_0 : decode cX12_panesAt 0 = .ok (.aload_n 0, 1) := by decide +kernel
theorem dX12_panesAt_1 : decode cX12_panesAt 1 = .ok (.getfield 46, 3) := by decide +kernel
theorem dX12_panesAt_4 : decode cX12_panesAt 4 = .ok (.bipush 6, 2) := by decide +kernel
theorem dX12_panesAt_6 : decode cX12_panesAt 6 = .ok (.aload_n 0, 1) := by decide +kernel
theorem dX12_panesAt_7 : decode cX12_panesAt 7 = .ok (.getfield 245, 3) := by decide +kernel
theorem dX12_panesAt_10 : decode cX12_panesAt 10 = .ok (.imul, 1) := by decide +kernel
theorem dX12_panesAt_11 : decode cX12_panesAt 11 = .ok (.iload_n 1, 1) := by decide +kernel
theorem dX12_panesAt_12 : decode cX12_panesAt 12 = .ok (.iadd, 1) := by decide +kernel
theorem dX12_panesAt_13 : decode cX12_panesAt 13 = .ok (.iaload, 1) := by decide +kernel
theorem dX12_panesAt_14 : decode cX12_panesAt 14 = .ok (.ireturn, 1) := by decide +kernel
theorem dX12_within_0 : decode cX12_within 0 = .ok (.iload_n 0, 1) := by decide +kernel
theorem dX12_within_1 : decode cX12_within 1 = .ok (.iload_n 1, 1) := by decide +kernel
theorem dX12_within_2 : decode cX12_within 2 = .ok (.if_icmp .ge 7, 3) := by decide +kernel
theorem dX12_within_5 : decode cX12_within 5 = .ok (.iload_n 1, 1) := by decide +kernel
theorem dX12_within_6 : decode cX12_within 6 = .ok (.goto 13, 3) := by decide +kernel
theorem dX12_within_9 : decode cX12_within 9 = .ok (.iload_n 0, 1) := by decide +kernel
theorem dX12_within_10 : decode cX12_within 10 = .ok (.iload_n 2, 1) := by decide +kernel
theorem dX12_within_11 : decode cX12_within 11 = .ok (.if_icmp .le 7, 3) := by decide +kernel
theorem dX12_within_14 : decode cX12_within 14 = .ok (.iload_n 2, 1) := by decide +kernel
theorem dX12_within_15 : decode cX12_within 15 = .ok (.goto 4, 3) := by decide +kernel
theorem dX12_within_18 : decode cX12_within 18 = .ok (.iload_n 0, 1) := by decide +kernel
theorem dX12_within_19 : decode cX12_within 19 = .ok (.ireturn, 1) := by decide +kernel
theorem dX12_in_0 : decode cX12_in 0 = .ok (.iload_n 0, 1) := by decide +kernel
theorem dX12_in_1 : decode cX12_in 1 = .ok (.iload_n 1, 1) := by decide +kernel
theorem dX12_in_2 : decode cX12_in 2 = .ok (.if_icmp .lt 12, 3) := by decide +kernel
theorem dX12_in_5 : decode cX12_in 5 = .ok (.iload_n 0, 1) := by decide +kernel
theorem dX12_in_6 : decode cX12_in 6 = .ok (.iload_n 2, 1) := by decide +kernel
theorem dX12_in_7 : decode cX12_in 7 = .ok (.if_icmp .gt 7, 3) := by decide +kernel
theorem dX12_in_10 : decode cX12_in 10 = .ok (.iconst 1, 1) := by decide +kernel
theorem dX12_in_11 : decode cX12_in 11 = .ok (.goto 4, 3) := by decide +kernel
theorem dX12_in_14 : decode cX12_in 14 = .ok (.iconst 0, 1) := by decide +kernel
theorem dX12_in_15 : decode cX12_in 15 = .ok (.ireturn, 1) := by decide +kernel
theorem dX12_isHouse_0 : decode cX12_isHouse 0 = .ok (.iload_n 1, 1) := by decide +kernel
theorem dX12_isHouse_1 : decode cX12_isHouse 1 = .ok (.iconst 0, 1) := by decide +kernel
theorem dX12_isHouse_2 : decode cX12_isHouse 2 = .ok (.aload_n 0, 1) := by decide +kernel
theorem dX12_isHouse_3 : decode cX12_isHouse 3 = .ok (.invokevirtual 309, 3) := by decide +kernel
theorem dX12_isHouse_6 : decode cX12_isHouse 6 = .ok (.iconst 1, 1) := by decide +kernel
theorem dX12_isHouse_7 : decode cX12_isHouse 7 = .ok (.isub, 1) := by decide +kernel
theorem dX12_isHouse_8 : decode cX12_isHouse 8 = .ok (.invokestatic 313, 3) := by decide +kernel
theorem dX12_isHouse_11 : decode cX12_isHouse 11 = .ok (.ireturn, 1) := by decide +kernel
section WK0
variable {p : Program} {l : Launch} {e : Env} {s : State} {m : MethodId} {args : Array Value} {below : List Frame} {meth : Method} {c : Code} {ω : WW}

set_option maxHeartbeats 4000000 in
set_option maxRecDepth 100000 in
theorem wJ6_bitCount_0f7a4_e (C : Cx ω p s m args c cJ6_bitCount_0f7a4 1 RJ6) (hr : meth.sig.returnType = some .int) (hk : meth.locks = false) {rr : Int32} {μ : Mem} {x0 : Int32} {H : Heap} {locs : List Loc} {ls : Array Slot} (hH : Hd ω μ H) (hS : FS ω s H locs) (hl : lv_has ls 1 [(0, .int x0)]) (h : fJ6_bitCount_0f7a4 x0 = some rr) : W p l e (rmd 1) s m args below meth c H locs 0 0 (MQ below (QR ω (some (.int rr)) μ) args s 0 0 (wA ω)) (F0 m 0 ls []) := by
  have hx := C.1
  have hb := C.2.1
  unfold fJ6_bitCount_0f7a4 at h
  refine lv_iload_n hx hb dJ6_bitCount_0f7a4_0 rfl (lv_at hl 0 rfl) ?_
  refine lv_iload_n hx hb dJ6_bitCount_0f7a4_1 rfl (lv_at hl 0 rfl) ?_
  refine lv_iconst (v := 1) hx hb dJ6_bitCount_0f7a4_2 (by decide) ?_
  refine lv_iushr (v := ushr x0 1) hx hb dJ6_bitCount_0f7a4_3 rfl ?_
  refine lv_ldcw (v := 1431655765) hx hb C.2.2.2.1 (C.2.2.2.2.1 _ (tg wd_1142 rfl)) dJ6_bitCount_0f7a4_4 ?_
  refine lv_iand hx hb dJ6_bitCount_0f7a4_7 ?_
  refine lv_isub hx hb dJ6_bitCount_0f7a4_8 ?_
  obtain ⟨y1, e2, h⟩ := bd_e h
  refine h_topi e2 ?_
  refine lv_istore_n (lv' := [(0, .int y1)]) hx hb dJ6_bitCount_0f7a4_9 rfl hl (by decide) rfl (fun ls hl => ?_)
  refine lv_iload_n hx hb dJ6_bitCount_0f7a4_10 rfl (lv_at hl 0 rfl) ?_
  refine lv_ldcw (v := 858993459) hx hb C.2.2.2.1 (C.2.2.2.2.1 _ (tg wd_1143 rfl)) dJ6_bitCount_0f7a4_11 ?_
  refine lv_iand hx hb dJ6_bitCount_0f7a4_14 ?_
  refine lv_iload_n hx hb dJ6_bitCount_0f7a4_15 rfl (lv_at hl 0 rfl) ?_
  refine lv_iconst (v := 2) hx hb dJ6_bitCount_0f7a4_16 (by decide) ?_
  refine lv_iushr (v := ushr y1 2) hx hb dJ6_bitCount_0f7a4_17 rfl ?_
  refine lv_ldcw (v := 858993459) hx hb C.2.2.2.1 (C.2.2.2.2.1 _ (tg wd_1143 rfl)) dJ6_bitCount_0f7a4_18 ?_
  refine lv_iand hx hb dJ6_bitCount_0f7a4_21 ?_
  refine lv_iadd hx hb dJ6_bitCount_0f7a4_22 ?_
  obtain ⟨y3, e4, h⟩ := bd_e h
  refine h_topi e4 ?_
  refine lv_istore_n (lv' := [(0, .int y3)]) hx hb dJ6_bitCount_0f7a4_23 rfl hl (by decide) rfl (fun ls hl => ?_)
  refine lv_iload_n hx hb dJ6_bitCount_0f7a4_24 rfl (lv_at hl 0 rfl) ?_
  refine lv_iload_n hx hb dJ6_bitCount_0f7a4_25 rfl (lv_at hl 0 rfl) ?_
  refine lv_iconst (v := 4) hx hb dJ6_bitCount_0f7a4_26 (by decide) ?_
  refine lv_iushr (v := ushr y3 4) hx hb dJ6_bitCount_0f7a4_27 rfl ?_
  refine lv_iadd hx hb dJ6_bitCount_0f7a4_28 ?_
  refine lv_ldcw (v := 252645135) hx hb C.2.2.2.1 (C.2.2.2.2.1 _ (tg wd_1144 rfl)) dJ6_bitCount_0f7a4_29 ?_
  refine lv_iand hx hb dJ6_bitCount_0f7a4_32 ?_
  obtain ⟨y5, e6, h⟩ := bd_e h
  refine h_topi e6 ?_
  refine lv_istore_n (lv' := [(0, .int y5)]) hx hb dJ6_bitCount_0f7a4_33 rfl hl (by decide) rfl (fun ls hl => ?_)
  refine lv_iload_n hx hb dJ6_bitCount_0f7a4_34 rfl (lv_at hl 0 rfl) ?_
  refine lv_iload_n hx hb dJ6_bitCount_0f7a4_35 rfl (lv_at hl 0 rfl) ?_
  refine lv_bipush (v := 8) hx hb dJ6_bitCount_0f7a4_36 (by decide) ?_
  refine lv_iushr (v := ushr y5 8) hx hb dJ6_bitCount_0f7a4_38 rfl ?_
  refine lv_iadd hx hb dJ6_bitCount_0f7a4_39 ?_
  obtain ⟨y7, e8, h⟩ := bd_e h
  refine h_topi e8 ?_
  refine lv_istore_n (lv' := [(0, .int y7)]) hx hb dJ6_bitCount_0f7a4_40 rfl hl (by decide) rfl (fun ls hl => ?_)
  refine lv_iload_n hx hb dJ6_bitCount_0f7a4_41 rfl (lv_at hl 0 rfl) ?_
  refine lv_iload_n hx hb dJ6_bitCount_0f7a4_42 rfl (lv_at hl 0 rfl) ?_
  refine lv_bipush (v := 16) hx hb dJ6_bitCount_0f7a4_43 (by decide) ?_
  refine lv_iushr (v := ushr y7 16) hx hb dJ6_bitCount_0f7a4_45 rfl ?_
  refine lv_iadd hx hb dJ6_bitCount_0f7a4_46 ?_
  obtain ⟨y9, e10, h⟩ := bd_e h
  refine h_topi e10 ?_
  refine lv_istore_n (lv' := [(0, .int y9)]) hx hb dJ6_bitCount_0f7a4_47 rfl hl (by decide) rfl (fun ls hl => ?_)
  refine lv_iload_n hx hb dJ6_bitCount_0f7a4_48 rfl (lv_at hl 0 rfl) ?_
  refine lv_bipush (v := 63) hx hb dJ6_bitCount_0f7a4_49 (by decide) ?_
  refine lv_iand hx hb dJ6_bitCount_0f7a4_51 ?_
  exact h_iret C hr hk hH hS rfl (by cases h; rfl) dJ6_bitCount_0f7a4_52
theorem c_J6_bitCount_0f7a4 {l : Launch} {ω : WW} {x0 : Int32} {μ : Mem} {rr : Int32} (h : fJ6_bitCount_0f7a4 x0 = some rr) : Con l yJ6_bitCount_0f7a4 cJ6_bitCount_0f7a4 1 (some .int) 1 ω [.int x0] μ (some (.int rr)) μ :=
  con_of (by decide) (Nat.le_of_ble_eq_true rfl) (fun p e s m args below meth c ls C hr hk hl hH => wJ6_bitCount_0f7a4_e C hr hk hH FS.rf (lv_sub hl [0] rfl) h)
set_option maxHeartbeats 4000000 in
set_option maxRecDepth 100000 in
theorem wX7_copyFrom_e {q : Nat} {q1 : Nat} (hq : IsS ω q) (hq1 : IsS ω q1) (C : Cx ω p s m args c cX7_copyFrom 2 RX7) (hr : meth.sig.returnType = none) (hk : meth.locks = false) {μo : Mem} {μ : Mem} {H : Heap} {locs : List Loc} {ls : Array Slot} (hH : Hd ω μ H) (hS : FS ω s H locs) (hl : lv_has ls 2 [(0, .ref (wB ω + q)), (1, .ref (wB ω + q1))]) (h : fX7_copyFrom q q1 μ = some μo) : W p l e (rmd 2) s m args below meth c H locs 0 0 (MQ below (QR ω none μo) args s 0 0 (wA ω)) (F0 m 0 ls []) := by
  have hx := C.1
  have hb := C.2.1
  unfold fX7_copyFrom at h
  refine lv_aload_n hx hb dX7_copyFrom_0 rfl (lv_at hl 1 rfl) ?_
  refine g_322 (i := q1 + 1) C hH hq1.1 rfl dX7_copyFrom_1 ?_
  refine lv_iconst (v := 0) hx hb dX7_copyFrom_4 (by decide) ?_
  refine lv_aload_n hx hb dX7_copyFrom_5 rfl (lv_at hl 0 rfl) ?_
  refine g_322 (i := q + 1) C hH hq.1 rfl dX7_copyFrom_6 ?_
  refine lv_iconst (v := 0) hx hb dX7_copyFrom_9 (by decide) ?_
  refine lv_aload_n hx hb dX7_copyFrom_10 rfl (lv_at hl 0 rfl) ?_
  refine g_322 (i := q + 1) C hH hq.1 rfl dX7_copyFrom_11 ?_
  refine h_alen (v := 42) C hH hq.2.1 hq.2.2 (by decide) (by decide) (by decide) dX7_copyFrom_14 ?_
  obtain ⟨b1, h⟩ := gd_e h
  obtain ⟨μ2, e3, h⟩ := bd_e h
  refine h_copyi (rest := []) C hl.1 hH hS hq1.2.1 hq1.2.2 hq.2.1 hq.2.2 wd_831 (cpo_e b1) (Nat.le_of_ble_eq_true rfl) (Nat.le_of_ble_eq_true rfl) dX7_copyFrom_15 (fun H locs hH hS => ?_)
  have hH := Hd.to e3 hH
  refine lv_aload_n hx hb dX7_copyFrom_18 rfl (lv_at hl 0 rfl) ?_
  refine lv_aload_n hx hb dX7_copyFrom_19 rfl (lv_at hl 1 rfl) ?_
  refine g_323 C hH hq1.1 dX7_copyFrom_20 ?_
  obtain ⟨μ4, e5, h⟩ := bd_e h
  refine p_323 C hH hS hq.1 dX7_copyFrom_23 (fun H locs hH hS => ?_)
  have hH := Hd.to e5 hH
  refine lv_aload_n hx hb dX7_copyFrom_26 rfl (lv_at hl 0 rfl) ?_
  refine lv_aload_n hx hb dX7_copyFrom_27 rfl (lv_at hl 1 rfl) ?_
  refine g_329 C hH hq1.1 dX7_copyFrom_28 ?_
  obtain ⟨μ6, e7, h⟩ := bd_e h
  refine p_329 C hH hS hq.1 dX7_copyFrom_31 (fun H locs hH hS => ?_)
  have hH := Hd.to e7 hH
  refine lv_aload_n hx hb dX7_copyFrom_34 rfl (lv_at hl 0 rfl) ?_
  refine lv_aload_n hx hb dX7_copyFrom_35 rfl (lv_at hl 1 rfl) ?_
  refine g_331 C hH hq1.1 dX7_copyFrom_36 ?_
  obtain ⟨μ8, e9, h⟩ := bd_e h
  refine p_331 C hH hS hq.1 dX7_copyFrom_39 (fun H locs hH hS => ?_)
  have hH := Hd.to e9 hH
  refine lv_aload_n hx hb dX7_copyFrom_42 rfl (lv_at hl 0 rfl) ?_
  refine lv_aload_n hx hb dX7_copyFrom_43 rfl (lv_at hl 1 rfl) ?_
  refine g_334 C hH hq1.1 dX7_copyFrom_44 ?_
  obtain ⟨μ10, e11, h⟩ := bd_e h
  refine p_334 C hH hS hq.1 dX7_copyFrom_47 (fun H locs hH hS => ?_)
  have hH := Hd.to e11 hH
  exact h_vret C hr hk hH hS (by cases h; rfl) dX7_copyFrom_50
theorem c_X7_copyFrom {l : Launch} {ω : WW} {q : Nat} {q1 : Nat} (hq : IsS ω q) (hq1 : IsS ω q1) {μ : Mem} {μo : Mem} (h : fX7_copyFrom q q1 μ = some μo) : Con l yX7_copyFrom cX7_copyFrom 2 none 2 ω [.ref (wB ω + q), .ref (wB ω + q1)] μ none μo :=
  con_of (by decide) (Nat.le_of_ble_eq_true rfl) (fun p e s m args below meth c ls C hr hk hl hH => wX7_copyFrom_e hq hq1 C hr hk hH FS.rf (lv_sub hl [0, 1] rfl) h)
set_option maxHeartbeats 4000000 in
set_option maxRecDepth 100000 in
theorem wX7_get_e {q : Nat} (hq : IsS ω q) (C : Cx ω p s m args c cX7_get 4 RX7) (hr : meth.sig.returnType = some .int) (hk : meth.locks = false) {rr : Int32} {μ : Mem} {x1 : Int32} {x2 : Int32} {H : Heap} {locs : List Loc} {ls : Array Slot} (hH : Hd ω μ H) (hS : FS ω s H locs) (hl : lv_has ls 4 [(0, .ref (wB ω + q)), (1, .int x1), (2, .int x2)]) (h : fX7_get q x1 x2 μ = some rr) : W p l e (rmd 1) s m args below meth c H locs 0 0 (MQ below (QR ω (some (.int rr)) μ) args s 0 0 (wA ω)) (F0 m 0 ls []) := by
  have hx := C.1
  have hb := C.2.1
  unfold fX7_get at h
  refine lv_iload_n hx hb dX7_get_0 rfl (lv_at hl 1 rfl) ?_
  refine lv_bipush (v := 7) hx hb dX7_get_1 (by decide) ?_
  refine lv_imul hx hb dX7_get_3 ?_
  refine lv_iload_n hx hb dX7_get_4 rfl (lv_at hl 2 rfl) ?_
  refine lv_iadd hx hb dX7_get_5 ?_
  obtain ⟨y1, e2, h⟩ := bd_e h
  refine h_topi e2 ?_
  refine lv_istore_n (lv' := [(3, .int y1), (0, .ref (wB ω + q)), (1, .int x1), (2, .int x2)]) hx hb dX7_get_6 rfl hl (by decide) rfl (fun ls hl => ?_)
  refine lv_iload_n hx hb dX7_get_7 rfl (lv_at hl 0 rfl) ?_
  refine lv_if_lt (tgt := 29) hx hb dX7_get_8 (by decide) (fun hc => ?_) (fun hc => ?_)
  · have h := ite_t hc h
    refine lv_iconst (v := 0) hx hb dX7_get_29 (by decide) ?_
    exact h_iret C hr hk hH hS rfl (by cases h; rfl) dX7_get_30
  · have h := ite_f hc h
    refine lv_iload_n hx hb dX7_get_11 rfl (lv_at hl 0 rfl) ?_
    refine lv_aload_n hx hb dX7_get_12 rfl (lv_at hl 1 rfl) ?_
    refine g_322 (i := q + 1) C hH hq.1 rfl dX7_get_13 ?_
    refine h_alen (v := 42) C hH hq.2.1 hq.2.2 (by decide) (by decide) (by decide) dX7_get_16 ?_
    refine lv_icmp_ge (tgt := 29) hx hb dX7_get_17 (by decide) (fun hc => ?_) (fun hc => ?_)
    · have h := ite_t hc h
      refine lv_iconst (v := 0) hx hb dX7_get_29 (by decide) ?_
      exact h_iret C hr hk hH hS rfl (by cases h; rfl) dX7_get_30
    · have h := ite_f hc h
      refine lv_aload_n hx hb dX7_get_20 rfl (lv_at hl 1 rfl) ?_
      refine g_322 (i := q + 1) C hH hq.1 rfl dX7_get_21 ?_
      refine lv_iload_n hx hb dX7_get_24 rfl (lv_at hl 0 rfl) ?_
      obtain ⟨b3, h⟩ := gd_e h
      refine h_iald C hH hq.2.1 hq.2.2 b3 dX7_get_25 ?_
      refine lv_goto (tgt := 30) hx hb dX7_get_26 (by decide) ?_
      exact h_iret C hr hk hH hS rfl (by cases h; rfl) dX7_get_30
theorem c_X7_get {l : Launch} {ω : WW} {q : Nat} {x1 : Int32} {x2 : Int32} (hq : IsS ω q) {μ : Mem} {rr : Int32} (h : fX7_get q x1 x2 μ = some rr) : Con l yX7_get cX7_get 4 (some .int) 1 ω [.ref (wB ω + q), .int x1, .int x2] μ (some (.int rr)) μ :=
  con_of (by decide) (Nat.le_of_ble_eq_true rfl) (fun p e s m args below meth c ls C hr hk hl hH => wX7_get_e hq C hr hk hH FS.rf (lv_sub hl [0, 1, 2] rfl) h)
set_option maxHeartbeats 4000000 in
set_option maxRecDepth 100000 in
theorem wX1_joined_e (C : Cx ω p s m args c cX1_joined 3 RX1) (hr : meth.sig.returnType = some .int) (hk : meth.locks = false) {rr : Int32} {μ : Mem} {x0 : Int32} {x1 : Int32} {x2 : Int32} {H : Heap} {locs : List Loc} {ls : Array Slot} (hH : Hd ω μ H) (hS : FS ω s H locs) (hl : lv_has ls 3 [(0, .int x0), (1, .int x1), (2, .int x2)]) (h : fX1_joined x0 x1 x2 = some rr) : W p l e (rmd 1) s m args below meth c H locs 0 0 (MQ below (QR ω (some (.int rr)) μ) args s 0 0 (wA ω)) (F0 m 0 ls []) := by
  have hx := C.1
  have hb := C.2.1
  unfold fX1_joined at h
  refine lv_iload_n hx hb dX1_joined_0 rfl (lv_at hl 0 rfl) ?_
  refine lv_bipush (v := 10) hx hb dX1_joined_1 (by decide) ?_
  refine lv_icmp_ne (tgt := 10) hx hb dX1_joined_3 (by decide) (fun hc => ?_) (fun hc => ?_)
  · have h := ite_f hc h
    refine lv_iload_n hx hb dX1_joined_10 rfl (lv_at hl 0 rfl) ?_
    refine lv_bipush (v := 11) hx hb dX1_joined_11 (by decide) ?_
    refine lv_icmp_ne (tgt := 20) hx hb dX1_joined_13 (by decide) (fun hc => ?_) (fun hc => ?_)
    · have h := ite_f hc h
      refine lv_iload_n hx hb dX1_joined_20 rfl (lv_at hl 0 rfl) ?_
      refine lv_bipush (v := 12) hx hb dX1_joined_21 (by decide) ?_
      refine lv_icmp_ne (tgt := 30) hx hb dX1_joined_23 (by decide) (fun hc => ?_) (fun hc => ?_)
      · have h := ite_f hc h
        refine lv_iload_n hx hb dX1_joined_30 rfl (lv_at hl 2 rfl) ?_
        refine lv_if_ne (tgt := 38) hx hb dX1_joined_31 (by decide) (fun hc => ?_) (fun hc => ?_)
        · have h := ite_f hc h
          refine lv_iload_n hx hb dX1_joined_38 rfl (lv_at hl 1 rfl) ?_
          refine lv_iload_n hx hb dX1_joined_39 rfl (lv_at hl 2 rfl) ?_
          obtain ⟨b1, h⟩ := gd_e h
          refine lv_idiv hx hb dX1_joined_40 (dz_e b1) ?_
          exact h_iret C hr hk hH hS rfl (by cases h; rfl) dX1_joined_41
        · have h := ite_t hc h
          refine lv_iconst (v := 0) hx hb dX1_joined_34 (by decide) ?_
          refine lv_goto (tgt := 41) hx hb dX1_joined_35 (by decide) ?_
          exact h_iret C hr hk hH hS rfl (by cases h; rfl) dX1_joined_41
      · have h := ite_t hc h
        refine lv_iload_n hx hb dX1_joined_26 rfl (lv_at hl 1 rfl) ?_
        refine lv_iload_n hx hb dX1_joined_27 rfl (lv_at hl 2 rfl) ?_
        refine lv_imul hx hb dX1_joined_28 ?_
        exact h_iret C hr hk hH hS rfl (by cases h; rfl) dX1_joined_29
    · have h := ite_t hc h
      refine lv_iload_n hx hb dX1_joined_16 rfl (lv_at hl 1 rfl) ?_
      refine lv_iload_n hx hb dX1_joined_17 rfl (lv_at hl 2 rfl) ?_
      refine lv_isub hx hb dX1_joined_18 ?_
      exact h_iret C hr hk hH hS rfl (by cases h; rfl) dX1_joined_19
  · have h := ite_t hc h
    refine lv_iload_n hx hb dX1_joined_6 rfl (lv_at hl 1 rfl) ?_
    refine lv_iload_n hx hb dX1_joined_7 rfl (lv_at hl 2 rfl) ?_
    refine lv_iadd hx hb dX1_joined_8 ?_
    exact h_iret C hr hk hH hS rfl (by cases h; rfl) dX1_joined_9
theorem c_X1_joined {l : Launch} {ω : WW} {x0 : Int32} {x1 : Int32} {x2 : Int32} {μ : Mem} {rr : Int32} (h : fX1_joined x0 x1 x2 = some rr) : Con l yX1_joined cX1_joined 3 (some .int) 1 ω [.int x0, .int x1, .int x2] μ (some (.int rr)) μ :=
  con_of (by decide) (Nat.le_of_ble_eq_true rfl) (fun p e s m args below meth c ls C hr hk hl hH => wX1_joined_e C hr hk hH FS.rf (lv_sub hl [0, 1, 2] rfl) h)
set_option maxHeartbeats 4000000 in
set_option maxRecDepth 100000 in
theorem wX1_valueOf_b240 {q : Nat} {q2 : Nat} (hq : IsL ω q) (hq2 : IsS ω q2) (C : Cx ω p s m args c cX1_valueOf 10 RX1) (hr : meth.sig.returnType = some .int) (hk : meth.locks = false) {rr : Int32} {μo : Mem} {x3 : Int32} {x4 : Int32} {x6 : Int32} {x7 : Int32} {x8 : Int32} {x9 : Int32} {rec : Int32 → Int32 → Mem → Option (Int32 × Mem)} (hrec : ∀ (z4 : Int32) (z6 : Int32) (ν : Mem) (H : Heap) (locs : List Loc) (ls : Array Slot), Hd ω ν H → FS ω s H locs → lv_has ls 10 [(0, .ref (wB ω + q)), (2, .ref (wB ω + q2)), (3, .int x3), (4, .int z4), (6, .int z6)] → rec z4 z6 ν = some (rr, μo) → W p l e (rmd 2) s m args below meth c H locs 0 0 (MQ below (QR ω (some (.int rr)) μo) args s 0 0 (wA ω)) (F0 m 31 ls [])) {K : Int32 → Mem → Option (Int32 × Mem)} (hK : ∀ (z4 : Int32) (ν : Mem) (H : Heap) (locs : List Loc) (ls : Array Slot), Hd ω ν H → FS ω s H locs → lv_has ls 10 [(0, .ref (wB ω + q)), (4, .int z4)] → K z4 ν = some (rr, μo) → W p l e (rmd 2) s m args below meth c H locs 0 0 (MQ below (QR ω (some (.int rr)) μo) args s 0 0 (wA ω)) (F0 m 138 ls [])) {μ : Mem} {H : Heap} {locs : List Loc} {ls : Array Slot} (hH : Hd ω μ H) (hS : FS ω s H locs) (hl : lv_has ls 10 [(0, .ref (wB ω + q)), (2, .ref (wB ω + q2)), (3, .int x3), (4, .int x4), (6, .int x6), (7, .int x7), (8, .int x8), (9, .int x9)]) (h : fX1_valueOf_b240 rec K q q2 x3 x4 x6 x7 x8 x9 μ = some (rr, μo)) : W p l e (rmd 2) s m args below meth c H locs 0 0 (MQ below (QR ω (some (.int rr)) μo) args s 0 0 (wA ω)) (F0 m 240 ls []) := by
  have hx := C.1
  have hb := C.2.1
  unfold fX1_valueOf_b240 at h
  refine lv_aload_n hx hb dX1_valueOf_240 rfl (lv_at hl 0 rfl) ?_
  refine g_237 (i := q + 4) C hH hq.1 rfl dX1_valueOf_241 ?_
  refine lv_iload hx hb dX1_valueOf_244 (lv_at hl 3 rfl) ?_
  refine lv_iload hx hb dX1_valueOf_246 (lv_at hl 5 rfl) ?_
  refine lv_iload hx hb dX1_valueOf_248 (lv_at hl 6 rfl) ?_
  refine lv_iload hx hb dX1_valueOf_250 (lv_at hl 7 rfl) ?_
  obtain ⟨r11, e10, h⟩ := b1_e h
  refine cSi (as := [.int x7, .int x8, .int x9]) (rest := [.int x4, .ref (wB ω + (q + 4))]) (c_X1_joined e10) C hl.1 hH hS rfl wd_758 mw_X1_joined wd_757 rfl (rm_ok (by decide) (by decide)) (Nat.le_of_ble_eq_true rfl) ⟨Nat.zero_le _, Nat.zero_le _⟩ dX1_valueOf_252 (fun H locs hH hS => ?_)
  obtain ⟨b12, h⟩ := gd_e h
  obtain ⟨μ13, e14, h⟩ := bd_e h
  refine h_iast C hH hS hq.2.2.2.2.1 hq.2.2.2.2.2 b12 dX1_valueOf_255 (fun H locs hH hS => ?_)
  have hH := Hd.to e14 hH
  refine lv_iinc (v := x4 + 1) (lv' := [(4, .int (x4 + 1)), (0, .ref (wB ω + q)), (2, .ref (wB ω + q2)), (3, .int x3), (6, .int x6), (7, .int x7), (8, .int x8), (9, .int x9)]) hx hb dX1_valueOf_256 hl (k := 3) rfl rfl (by decide) rfl (fun ls hl => ?_)
  refine lv_iinc (v := x6 + 1) (lv' := [(6, .int (x6 + 1)), (4, .int (x4 + 1)), (0, .ref (wB ω + q)), (2, .ref (wB ω + q2)), (3, .int x3), (7, .int x7), (8, .int x8), (9, .int x9)]) hx hb dX1_valueOf_259 hl (k := 4) rfl rfl (by decide) rfl (fun ls hl => ?_)
  refine lv_goto (tgt := 31) hx hb dX1_valueOf_262 (by decide) ?_
  exact hrec _ _ _ H locs ls hH hS (lv_sub hl [2, 3, 4, 1, 0] rfl) h
set_option maxHeartbeats 4000000 in
set_option maxRecDepth 100000 in
theorem wX1_valueOf_b97 {q : Nat} {q2 : Nat} (hq : IsL ω q) (hq2 : IsS ω q2) (C : Cx ω p s m args c cX1_valueOf 10 RX1) (hr : meth.sig.returnType = some .int) (hk : meth.locks = false) {rr : Int32} {μo : Mem} {x3 : Int32} {x4 : Int32} {x6 : Int32} {x7 : Int32} {rec : Int32 → Int32 → Mem → Option (Int32 × Mem)} (hrec : ∀ (z4 : Int32) (z6 : Int32) (ν : Mem) (H : Heap) (locs : List Loc) (ls : Array Slot), Hd ω ν H → FS ω s H locs → lv_has ls 10 [(0, .ref (wB ω + q)), (2, .ref (wB ω + q2)), (3, .int x3), (4, .int z4), (6, .int z6)] → rec z4 z6 ν = some (rr, μo) → W p l e (rmd 2) s m args below meth c H locs 0 0 (MQ below (QR ω (some (.int rr)) μo) args s 0 0 (wA ω)) (F0 m 31 ls [])) {K : Int32 → Mem → Option (Int32 × Mem)} (hK : ∀ (z4 : Int32) (ν : Mem) (H : Heap) (locs : List Loc) (ls : Array Slot), Hd ω ν H → FS ω s H locs → lv_has ls 10 [(0, .ref (wB ω + q)), (4, .int z4)] → K z4 ν = some (rr, μo) → W p l e (rmd 2) s m args below meth c H locs 0 0 (MQ below (QR ω (some (.int rr)) μo) args s 0 0 (wA ω)) (F0 m 138 ls [])) {k0 : Int32} {μ : Mem} {H : Heap} {locs : List Loc} {ls : Array Slot} (hH : Hd ω μ H) (hS : FS ω s H locs) (hl : lv_has ls 10 [(0, .ref (wB ω + q)), (2, .ref (wB ω + q2)), (3, .int x3), (4, .int x4), (6, .int x6), (7, .int x7)]) (h : fX1_valueOf_b97 rec K q q2 x3 x4 x6 x7 k0 μ = some (rr, μo)) : W p l e (rmd 2) s m args below meth c H locs 0 0 (MQ below (QR ω (some (.int rr)) μo) args s 0 0 (wA ω)) (F0 m 97 ls [.int k0]) := by
  have hx := C.1
  have hb := C.2.1
  unfold fX1_valueOf_b97 at h
  refine lv_istore (lv' := [(8, .int k0), (0, .ref (wB ω + q)), (2, .ref (wB ω + q2)), (3, .int x3), (4, .int x4), (6, .int x6), (7, .int x7)]) hx hb dX1_valueOf_97 hl (by decide) rfl (fun ls hl => ?_)
  refine lv_aload_n hx hb dX1_valueOf_99 rfl (lv_at hl 1 rfl) ?_
  refine g_237 (i := q + 4) C hH hq.1 rfl dX1_valueOf_100 ?_
  refine lv_iload hx hb dX1_valueOf_103 (lv_at hl 4 rfl) ?_
  refine lv_iload hx hb dX1_valueOf_105 (lv_at hl 6 rfl) ?_
  refine lv_bipush (v := 7) hx hb dX1_valueOf_107 (by decide) ?_
  refine lv_icmp_ge (tgt := 122) hx hb dX1_valueOf_109 (by decide) (fun hc => ?_) (fun hc => ?_)
  · have h := ite_t hc h
    refine lv_iload hx hb dX1_valueOf_122 (lv_at hl 0 rfl) ?_
    obtain ⟨b19, h⟩ := gd_e h
    obtain ⟨μ20, e21, h⟩ := bd_e h
    refine h_iast C hH hS hq.2.2.2.2.1 hq.2.2.2.2.2 b19 dX1_valueOf_124 (fun H locs hH hS => ?_)
    have hH := Hd.to e21 hH
    refine lv_iinc (v := x4 + 1) (lv' := [(4, .int (x4 + 1)), (8, .int k0), (0, .ref (wB ω + q)), (2, .ref (wB ω + q2)), (3, .int x3), (6, .int x6), (7, .int x7)]) hx hb dX1_valueOf_125 hl (k := 4) rfl rfl (by decide) rfl (fun ls hl => ?_)
    refine lv_goto (tgt := 259) hx hb dX1_valueOf_128 (by decide) ?_
    refine lv_iinc (v := x6 + 1) (lv' := [(6, .int (x6 + 1)), (4, .int (x4 + 1)), (8, .int k0), (0, .ref (wB ω + q)), (2, .ref (wB ω + q2)), (3, .int x3), (7, .int x7)]) hx hb dX1_valueOf_259 hl (k := 5) rfl rfl (by decide) rfl (fun ls hl => ?_)
    refine lv_goto (tgt := 31) hx hb dX1_valueOf_262 (by decide) ?_
    exact hrec _ _ _ H locs ls hH hS (lv_sub hl [3, 4, 5, 1, 0] rfl) h
  · have h := ite_f hc h
    refine lv_aload_n hx hb dX1_valueOf_112 rfl (lv_at hl 2 rfl) ?_
    refine lv_iload_n hx hb dX1_valueOf_113 rfl (lv_at hl 3 rfl) ?_
    refine lv_iload hx hb dX1_valueOf_114 (lv_at hl 6 rfl) ?_
    obtain ⟨r23, e22, h⟩ := b1_e h
    refine cVi (as := [.int x3, .int x7]) (rest := [.int x4, .ref (wB ω + (q + 4))]) (c_X7_get hq2 e22) C hl.1 hH hS rfl hq2.1 rfl wd_745 wd_744 mw_X7_get wd_755 rfl (rm_ok (by decide) (by decide)) (Nat.le_of_ble_eq_true rfl) ⟨Nat.zero_le _, Nat.zero_le _⟩ (by decide) dX1_valueOf_116 (fun H locs hH hS => ?_)
    refine lv_goto (tgt := 124) hx hb dX1_valueOf_119 (by decide) ?_
    obtain ⟨b24, h⟩ := gd_e h
    obtain ⟨μ25, e26, h⟩ := bd_e h
    refine h_iast C hH hS hq.2.2.2.2.1 hq.2.2.2.2.2 b24 dX1_valueOf_124 (fun H locs hH hS => ?_)
    have hH := Hd.to e26 hH
    refine lv_iinc (v := x4 + 1) (lv' := [(4, .int (x4 + 1)), (8, .int k0), (0, .ref (wB ω + q)), (2, .ref (wB ω + q2)), (3, .int x3), (6, .int x6), (7, .int x7)]) hx hb dX1_valueOf_125 hl (k := 4) rfl rfl (by decide) rfl (fun ls hl => ?_)
    refine lv_goto (tgt := 259) hx hb dX1_valueOf_128 (by decide) ?_
    refine lv_iinc (v := x6 + 1) (lv' := [(6, .int (x6 + 1)), (4, .int (x4 + 1)), (8, .int k0), (0, .ref (wB ω + q)), (2, .ref (wB ω + q2)), (3, .int x3), (7, .int x7)]) hx hb dX1_valueOf_259 hl (k := 5) rfl rfl (by decide) rfl (fun ls hl => ?_)
    refine lv_goto (tgt := 31) hx hb dX1_valueOf_262 (by decide) ?_
    exact hrec _ _ _ H locs ls hH hS (lv_sub hl [3, 4, 5, 1, 0] rfl) h
set_option maxHeartbeats 4000000 in
set_option maxRecDepth 100000 in
theorem wX1_valueOf_s31 {q : Nat} {q2 : Nat} (hq : IsL ω q) (hq2 : IsS ω q2) (C : Cx ω p s m args c cX1_valueOf 10 RX1) (hr : meth.sig.returnType = some .int) (hk : meth.locks = false) {rr : Int32} {μo : Mem} {x3 : Int32} {x4 : Int32} {x6 : Int32} {rec : Int32 → Int32 → Mem → Option (Int32 × Mem)} (hrec : ∀ (z4 : Int32) (z6 : Int32) (ν : Mem) (H : Heap) (locs : List Loc) (ls : Array Slot), Hd ω ν H → FS ω s H locs → lv_has ls 10 [(0, .ref (wB ω + q)), (2, .ref (wB ω + q2)), (3, .int x3), (4, .int z4), (6, .int z6)] → rec z4 z6 ν = some (rr, μo) → W p l e (rmd 2) s m args below meth c H locs 0 0 (MQ below (QR ω (some (.int rr)) μo) args s 0 0 (wA ω)) (F0 m 31 ls [])) {K : Int32 → Mem → Option (Int32 × Mem)} (hK : ∀ (z4 : Int32) (ν : Mem) (H : Heap) (locs : List Loc) (ls : Array Slot), Hd ω ν H → FS ω s H locs → lv_has ls 10 [(0, .ref (wB ω + q)), (4, .int z4)] → K z4 ν = some (rr, μo) → W p l e (rmd 2) s m args below meth c H locs 0 0 (MQ below (QR ω (some (.int rr)) μo) args s 0 0 (wA ω)) (F0 m 138 ls [])) {μ : Mem} {H : Heap} {locs : List Loc} {ls : Array Slot} (hH : Hd ω μ H) (hS : FS ω s H locs) (hl : lv_has ls 10 [(0, .ref (wB ω + q)), (2, .ref (wB ω + q2)), (3, .int x3), (4, .int x4), (6, .int x6)]) (h : fX1_valueOf_s31 rec K q q2 x3 x4 x6 μ = some (rr, μo)) : W p l e (rmd 2) s m args below meth c H locs 0 0 (MQ below (QR ω (some (.int rr)) μo) args s 0 0 (wA ω)) (F0 m 31 ls []) := by
  have hx := C.1
  have hb := C.2.1
  unfold fX1_valueOf_s31 at h
  refine lv_iload hx hb dX1_valueOf_31 (lv_at hl 4 rfl) ?_
  refine lv_aload_n hx hb dX1_valueOf_33 rfl (lv_at hl 0 rfl) ?_
  refine g_238 C hH hq.1 dX1_valueOf_34 ?_
  refine lv_icmp_ge (tgt := 265) hx hb dX1_valueOf_37 (by decide) (fun hc => ?_) (fun hc => ?_)
  · have h := ite_t hc h
    refine lv_iconst (v := 0) hx hb dX1_valueOf_265 (by decide) ?_
    exact h_iret C hr hk hH hS rfl (by cases h; rfl) dX1_valueOf_266
  · have h := ite_f hc h
    refine lv_aload_n hx hb dX1_valueOf_40 rfl (lv_at hl 0 rfl) ?_
    refine g_234 (i := q + 1) C hH hq.1 rfl dX1_valueOf_41 ?_
    refine lv_iload hx hb dX1_valueOf_44 (lv_at hl 4 rfl) ?_
    obtain ⟨b1, h⟩ := gd_e h
    refine h_iald C hH hq.2.1.1 hq.2.1.2 b1 dX1_valueOf_46 ?_
    obtain ⟨y2, e3, h⟩ := bd_e h
    refine h_topi e3 ?_
    refine lv_istore (lv' := [(7, .int y2), (0, .ref (wB ω + q)), (2, .ref (wB ω + q2)), (3, .int x3), (4, .int x4), (6, .int x6)]) hx hb dX1_valueOf_47 hl (by decide) rfl (fun ls hl => ?_)
    refine lv_iload hx hb dX1_valueOf_49 (lv_at hl 0 rfl) ?_
    refine lv_bipush (v := 9) hx hb dX1_valueOf_51 (by decide) ?_
    refine lv_icmp_gt (tgt := 131) hx hb dX1_valueOf_53 (by decide) (fun hc => ?_) (fun hc => ?_)
    · have h := ite_t hc h
      refine lv_iload hx hb dX1_valueOf_131 (lv_at hl 0 rfl) ?_
      refine lv_bipush (v := 15) hx hb dX1_valueOf_133 (by decide) ?_
      refine lv_icmp_ne (tgt := 157) hx hb dX1_valueOf_135 (by decide) (fun hc => ?_) (fun hc => ?_)
      · have h := ite_f hc h
        refine lv_iload hx hb dX1_valueOf_157 (lv_at hl 4 rfl) ?_
        refine lv_iconst (v := 2) hx hb dX1_valueOf_159 (by decide) ?_
        refine lv_icmp_ge (tgt := 165) hx hb dX1_valueOf_160 (by decide) (fun hc => ?_) (fun hc => ?_)
        · have h := ite_t hc h
          refine lv_iinc (v := x4 + (-2)) (lv' := [(4, .int (x4 + (-2))), (7, .int y2), (0, .ref (wB ω + q)), (2, .ref (wB ω + q2)), (3, .int x3), (6, .int x6)]) hx hb dX1_valueOf_165 hl (k := 4) rfl rfl (by decide) rfl (fun ls hl => ?_)
          refine lv_aload_n hx hb dX1_valueOf_168 rfl (lv_at hl 2 rfl) ?_
          refine g_237 (i := q + 4) C hH hq.1 rfl dX1_valueOf_169 ?_
          refine lv_iload hx hb dX1_valueOf_172 (lv_at hl 0 rfl) ?_
          obtain ⟨b4, h⟩ := gd_e h
          refine h_iald C hH hq.2.2.2.2.1 hq.2.2.2.2.2 b4 dX1_valueOf_174 ?_
          obtain ⟨y5, e6, h⟩ := bd_e h
          refine h_topi e6 ?_
          refine lv_istore (lv' := [(8, .int y5), (4, .int (x4 + (-2))), (7, .int y2), (0, .ref (wB ω + q)), (2, .ref (wB ω + q2)), (3, .int x3), (6, .int x6)]) hx hb dX1_valueOf_175 hl (by decide) rfl (fun ls hl => ?_)
          refine lv_aload_n hx hb dX1_valueOf_177 rfl (lv_at hl 3 rfl) ?_
          refine g_237 (i := q + 4) C hH hq.1 rfl dX1_valueOf_178 ?_
          refine lv_iload hx hb dX1_valueOf_181 (lv_at hl 1 rfl) ?_
          refine lv_iconst (v := 1) hx hb dX1_valueOf_183 (by decide) ?_
          refine lv_iadd hx hb dX1_valueOf_184 ?_
          obtain ⟨b7, h⟩ := gd_e h
          refine h_iald C hH hq.2.2.2.2.1 hq.2.2.2.2.2 b7 dX1_valueOf_185 ?_
          obtain ⟨y8, e9, h⟩ := bd_e h
          refine h_topi e9 ?_
          refine lv_istore (lv' := [(9, .int y8), (8, .int y5), (4, .int (x4 + (-2))), (7, .int y2), (0, .ref (wB ω + q)), (2, .ref (wB ω + q2)), (3, .int x3), (6, .int x6)]) hx hb dX1_valueOf_186 hl (by decide) rfl (fun ls hl => ?_)
          refine lv_iload hx hb dX1_valueOf_188 (lv_at hl 3 rfl) ?_
          refine lv_bipush (v := 14) hx hb dX1_valueOf_190 (by decide) ?_
          refine lv_icmp_ne (tgt := 226) hx hb dX1_valueOf_192 (by decide) (fun hc => ?_) (fun hc => ?_)
          · have h := ite_f hc h
            refine lv_iload hx hb dX1_valueOf_226 (lv_at hl 3 rfl) ?_
            refine lv_bipush (v := 13) hx hb dX1_valueOf_228 (by decide) ?_
            refine lv_icmp_ne (tgt := 240) hx hb dX1_valueOf_230 (by decide) (fun hc => ?_) (fun hc => ?_)
            · have h := ite_f hc h
              exact wX1_valueOf_b240 hq hq2 C hr hk hrec hK hH hS (lv_sub hl [4, 5, 6, 2, 7, 3, 1, 0] rfl) h
            · have h := ite_t hc h
              refine lv_iload hx hb dX1_valueOf_233 (lv_at hl 0 rfl) ?_
              refine lv_if_ne (tgt := 240) hx hb dX1_valueOf_235 (by decide) (fun hc => ?_) (fun hc => ?_)
              · have h := ite_f hc h
                exact wX1_valueOf_b240 hq hq2 C hr hk hrec hK hH hS (lv_sub hl [4, 5, 6, 2, 7, 3, 1, 0] rfl) h
              · have h := ite_t hc h
                refine lv_iconst (v := 0) hx hb dX1_valueOf_238 (by decide) ?_
                exact h_iret C hr hk hH hS rfl (by cases h; rfl) dX1_valueOf_239
          · have h := ite_t hc h
            refine lv_iload hx hb dX1_valueOf_195 (lv_at hl 1 rfl) ?_
            refine lv_iload hx hb dX1_valueOf_197 (lv_at hl 0 rfl) ?_
            refine lv_icmp_ge (tgt := 207) hx hb dX1_valueOf_199 (by decide) (fun hc => ?_) (fun hc => ?_)
            · have h := ite_t hc h
              refine lv_iload hx hb dX1_valueOf_207 (lv_at hl 7 rfl) ?_
              refine lv_aload_n hx hb dX1_valueOf_209 rfl (lv_at hl 4 rfl) ?_
              refine g_235 (i := q + 2) C hH hq.1 rfl dX1_valueOf_210 ?_
              refine lv_iload hx hb dX1_valueOf_213 (lv_at hl 7 rfl) ?_
              obtain ⟨b15, h⟩ := gd_e h
              refine h_iald C hH hq.2.2.1.1 hq.2.2.1.2 b15 dX1_valueOf_215 ?_
              refine lv_iconst (v := 1) hx hb dX1_valueOf_216 (by decide) ?_
              refine lv_isub hx hb dX1_valueOf_217 ?_
              refine h_mmax C hl.1 wd_756 (rest := []) (Nat.le_of_ble_eq_true rfl) (Nat.le_of_ble_eq_true rfl) ⟨Nat.zero_le _, Nat.zero_le _⟩ dX1_valueOf_218 ?_
              refine h_topi (y := jmax x6 ((μ.1 (q + 2) x6.toNatClampNeg) - 1)) rfl ?_
              obtain ⟨y16, e17, h⟩ := bd_e h
              refine h_topi e17 ?_
              refine lv_istore (lv' := [(6, .int y16), (9, .int y8), (8, .int y5), (4, .int (x4 + (-2))), (7, .int y2), (0, .ref (wB ω + q)), (2, .ref (wB ω + q2)), (3, .int x3)]) hx hb dX1_valueOf_221 hl (by decide) rfl (fun ls hl => ?_)
              refine lv_goto (tgt := 259) hx hb dX1_valueOf_223 (by decide) ?_
              refine lv_iinc (v := y16 + 1) (lv' := [(6, .int (y16 + 1)), (9, .int y8), (8, .int y5), (4, .int (x4 + (-2))), (7, .int y2), (0, .ref (wB ω + q)), (2, .ref (wB ω + q2)), (3, .int x3)]) hx hb dX1_valueOf_259 hl (k := 0) rfl rfl (by decide) rfl (fun ls hl => ?_)
              refine lv_goto (tgt := 31) hx hb dX1_valueOf_262 (by decide) ?_
              exact hrec _ _ _ H locs ls hH hS (lv_sub hl [5, 6, 7, 3, 0] rfl) h
            · have h := ite_f hc h
              refine lv_iload hx hb dX1_valueOf_202 (lv_at hl 7 rfl) ?_
              refine lv_goto (tgt := 221) hx hb dX1_valueOf_204 (by decide) ?_
              refine lv_istore (lv' := [(6, .int x6), (9, .int y8), (8, .int y5), (4, .int (x4 + (-2))), (7, .int y2), (0, .ref (wB ω + q)), (2, .ref (wB ω + q2)), (3, .int x3)]) hx hb dX1_valueOf_221 hl (by decide) rfl (fun ls hl => ?_)
              refine lv_goto (tgt := 259) hx hb dX1_valueOf_223 (by decide) ?_
              refine lv_iinc (v := x6 + 1) (lv' := [(6, .int (x6 + 1)), (9, .int y8), (8, .int y5), (4, .int (x4 + (-2))), (7, .int y2), (0, .ref (wB ω + q)), (2, .ref (wB ω + q2)), (3, .int x3)]) hx hb dX1_valueOf_259 hl (k := 0) rfl rfl (by decide) rfl (fun ls hl => ?_)
              refine lv_goto (tgt := 31) hx hb dX1_valueOf_262 (by decide) ?_
              exact hrec _ _ _ H locs ls hH hS (lv_sub hl [5, 6, 7, 3, 0] rfl) h
        · have h := ite_f hc h
          refine lv_iconst (v := 0) hx hb dX1_valueOf_163 (by decide) ?_
          exact h_iret C hr hk hH hS rfl (by cases h; rfl) dX1_valueOf_164
      · have h := ite_t hc h
        exact hK _ _ H locs ls hH hS (lv_sub hl [1, 4] rfl) h
    · have h := ite_f hc h
      refine lv_iload hx hb dX1_valueOf_56 (lv_at hl 4 rfl) ?_
      refine lv_bipush (v := 32) hx hb dX1_valueOf_58 (by decide) ?_
      refine lv_icmp_lt (tgt := 65) hx hb dX1_valueOf_60 (by decide) (fun hc => ?_) (fun hc => ?_)
      · have h := ite_t hc h
        refine lv_iload hx hb dX1_valueOf_65 (lv_at hl 0 rfl) ?_
        refine lv_bipush (v := 7) hx hb dX1_valueOf_67 (by decide) ?_
        refine lv_icmp_ne (tgt := 79) hx hb dX1_valueOf_69 (by decide) (fun hc => ?_) (fun hc => ?_)
        · have h := ite_f hc h
          refine lv_iload hx hb dX1_valueOf_79 (lv_at hl 0 rfl) ?_
          refine lv_bipush (v := 8) hx hb dX1_valueOf_81 (by decide) ?_
          refine lv_icmp_ne (tgt := 90) hx hb dX1_valueOf_83 (by decide) (fun hc => ?_) (fun hc => ?_)
          · have h := ite_f hc h
            refine lv_aload_n hx hb dX1_valueOf_90 rfl (lv_at hl 1 rfl) ?_
            refine g_235 (i := q + 2) C hH hq.1 rfl dX1_valueOf_91 ?_
            refine lv_iload hx hb dX1_valueOf_94 (lv_at hl 5 rfl) ?_
            obtain ⟨b18, h⟩ := gd_e h
            refine h_iald C hH hq.2.2.1.1 hq.2.2.1.2 b18 dX1_valueOf_96 ?_
            exact wX1_valueOf_b97 hq hq2 C hr hk hrec hK hH hS (lv_sub hl [1, 2, 3, 4, 5, 0] rfl) h
          · have h := ite_t hc h
            refine lv_iload_n hx hb dX1_valueOf_86 rfl (lv_at hl 3 rfl) ?_
            refine lv_goto (tgt := 97) hx hb dX1_valueOf_87 (by decide) ?_
            exact wX1_valueOf_b97 hq hq2 C hr hk hrec hK hH hS (lv_sub hl [1, 2, 3, 4, 5, 0] rfl) h
        · have h := ite_t hc h
          refine lv_aload_n hx hb dX1_valueOf_72 rfl (lv_at hl 2 rfl) ?_
          refine g_326 C hH hq2.1 dX1_valueOf_73 ?_
          refine lv_goto (tgt := 97) hx hb dX1_valueOf_76 (by decide) ?_
          exact wX1_valueOf_b97 hq hq2 C hr hk hrec hK hH hS (lv_sub hl [1, 2, 3, 4, 5, 0] rfl) h
      · have h := ite_f hc h
        refine lv_iconst (v := 0) hx hb dX1_valueOf_63 (by decide) ?_
        exact h_iret C hr hk hH hS rfl (by cases h; rfl) dX1_valueOf_64
theorem wX1_valueOf_l31 {q : Nat} {q2 : Nat} (hq : IsL ω q) (hq2 : IsS ω q2) (C : Cx ω p s m args c cX1_valueOf 10 RX1) (hr : meth.sig.returnType = some .int) (hk : meth.locks = false) {rr : Int32} {μo : Mem} {x3 : Int32} {K : Int32 → Mem → Option (Int32 × Mem)} (hK : ∀ (z4 : Int32) (ν : Mem) (H : Heap) (locs : List Loc) (ls : Array Slot), Hd ω ν H → FS ω s H locs → lv_has ls 10 [(0, .ref (wB ω + q)), (4, .int z4)] → K z4 ν = some (rr, μo) → W p l e (rmd 2) s m args below meth c H locs 0 0 (MQ below (QR ω (some (.int rr)) μo) args s 0 0 (wA ω)) (F0 m 138 ls [])) : ∀ (n : Nat) (x4 : Int32) (x6 : Int32) (μ : Mem) (H : Heap) (locs : List Loc) (ls : Array Slot), Hd ω μ H → FS ω s H locs → lv_has ls 10 [(0, .ref (wB ω + q)), (2, .ref (wB ω + q2)), (3, .int x3), (4, .int x4), (6, .int x6)] → fX1_valueOf_l31 K q q2 x3 n x4 x6 μ = some (rr, μo) → W p l e (rmd 2) s m args below meth c H locs 0 0 (MQ below (QR ω (some (.int rr)) μo) args s 0 0 (wA ω)) (F0 m 31 ls []) := by
  intro n
  induction n with
  | zero => intro x4 x6 μ H locs ls hH hS hl h; cases h
  | succ n ih => intro x4 x6 μ H locs ls hH hS hl h; exact wX1_valueOf_s31 hq hq2 C hr hk ih hK hH hS hl h
set_option maxHeartbeats 4000000 in
set_option maxRecDepth 100000 in
theorem wX1_valueOf_b25 {q : Nat} {q2 : Nat} (hq : IsL ω q) (hq2 : IsS ω q2) (C : Cx ω p s m args c cX1_valueOf 10 RX1) (hr : meth.sig.returnType = some .int) (hk : meth.locks = false) {rr : Int32} {μo : Mem} {x3 : Int32} {x4 : Int32} {k0 : Int32} {μ : Mem} {H : Heap} {locs : List Loc} {ls : Array Slot} (hH : Hd ω μ H) (hS : FS ω s H locs) (hl : lv_has ls 10 [(0, .ref (wB ω + q)), (2, .ref (wB ω + q2)), (3, .int x3), (4, .int x4)]) (h : fX1_valueOf_b25 q q2 x3 x4 k0 μ = some (rr, μo)) : W p l e (rmd 2) s m args below meth c H locs 0 0 (MQ below (QR ω (some (.int rr)) μo) args s 0 0 (wA ω)) (F0 m 25 ls [.int k0]) := by
  have hx := C.1
  have hb := C.2.1
  unfold fX1_valueOf_b25 at h
  refine lv_istore (lv' := [(5, .int k0), (0, .ref (wB ω + q)), (2, .ref (wB ω + q2)), (3, .int x3), (4, .int x4)]) hx hb dX1_valueOf_25 hl (by decide) rfl (fun ls hl => ?_)
  refine lv_iload hx hb dX1_valueOf_27 (lv_at hl 0 rfl) ?_
  refine lv_istore (lv' := [(6, .int k0), (5, .int k0), (0, .ref (wB ω + q)), (2, .ref (wB ω + q2)), (3, .int x3), (4, .int x4)]) hx hb dX1_valueOf_29 hl (by decide) rfl (fun ls hl => ?_)
  refine wX1_valueOf_l31 hq hq2 C hr hk (fun y27 μ28 H locs ls hH hS hl h => ?_) FU _ _ _ H locs ls hH hS (lv_sub hl [2, 3, 4, 5, 0] rfl) h
  refine lv_iload hx hb dX1_valueOf_138 (lv_at hl 1 rfl) ?_
  refine lv_if_le (tgt := 155) hx hb dX1_valueOf_140 (by decide) (fun hc => ?_) (fun hc => ?_)
  · have h := ite_t hc h
    refine lv_iconst (v := 0) hx hb dX1_valueOf_155 (by decide) ?_
    exact h_iret C hr hk hH hS rfl (by cases h; rfl) dX1_valueOf_156
  · have h := ite_f hc h
    refine lv_aload_n hx hb dX1_valueOf_143 rfl (lv_at hl 0 rfl) ?_
    refine g_237 (i := q + 4) C hH hq.1 rfl dX1_valueOf_144 ?_
    refine lv_iload hx hb dX1_valueOf_147 (lv_at hl 1 rfl) ?_
    refine lv_iconst (v := 1) hx hb dX1_valueOf_149 (by decide) ?_
    refine lv_isub hx hb dX1_valueOf_150 ?_
    obtain ⟨b29, h⟩ := gd_e h
    refine h_iald C hH hq.2.2.2.2.1 hq.2.2.2.2.2 b29 dX1_valueOf_151 ?_
    refine lv_goto (tgt := 156) hx hb dX1_valueOf_152 (by decide) ?_
    exact h_iret C hr hk hH hS rfl (by cases h; rfl) dX1_valueOf_156
set_option maxHeartbeats 4000000 in
set_option maxRecDepth 100000 in
theorem wX1_valueOf_b21 {q : Nat} {q2 : Nat} (hq : IsL ω q) (hq2 : IsS ω q2) (C : Cx ω p s m args c cX1_valueOf 10 RX1) (hr : meth.sig.returnType = some .int) (hk : meth.locks = false) {rr : Int32} {μo : Mem} {x3 : Int32} {x4 : Int32} {μ : Mem} {H : Heap} {locs : List Loc} {ls : Array Slot} (hH : Hd ω μ H) (hS : FS ω s H locs) (hl : lv_has ls 10 [(0, .ref (wB ω + q)), (2, .ref (wB ω + q2)), (3, .int x3), (4, .int x4)]) (h : fX1_valueOf_b21 q q2 x3 x4 μ = some (rr, μo)) : W p l e (rmd 2) s m args below meth c H locs 0 0 (MQ below (QR ω (some (.int rr)) μo) args s 0 0 (wA ω)) (F0 m 21 ls []) := by
  have hx := C.1
  have hb := C.2.1
  unfold fX1_valueOf_b21 at h
  refine lv_aload_n hx hb dX1_valueOf_21 rfl (lv_at hl 0 rfl) ?_
  refine g_238 C hH hq.1 dX1_valueOf_22 ?_
  exact wX1_valueOf_b25 hq hq2 C hr hk hH hS hl h
set_option maxHeartbeats 4000000 in
set_option maxRecDepth 100000 in
theorem wX1_valueOf_e {q : Nat} {q2 : Nat} (hq : IsL ω q) (hq2 : IsS ω q2) (C : Cx ω p s m args c cX1_valueOf 10 RX1) (hr : meth.sig.returnType = some .int) (hk : meth.locks = false) {rr : Int32} {μo : Mem} {x1 : Int32} {x3 : Int32} {μ : Mem} {H : Heap} {locs : List Loc} {ls : Array Slot} (hH : Hd ω μ H) (hS : FS ω s H locs) (hl : lv_has ls 10 [(0, .ref (wB ω + q)), (1, .int x1), (2, .ref (wB ω + q2)), (3, .int x3)]) (h : fX1_valueOf q x1 q2 x3 μ = some (rr, μo)) : W p l e (rmd 2) s m args below meth c H locs 0 0 (MQ below (QR ω (some (.int rr)) μo) args s 0 0 (wA ω)) (F0 m 0 ls []) := by
  have hx := C.1
  have hb := C.2.1
  unfold fX1_valueOf at h
  refine lv_iconst (v := 0) hx hb dX1_valueOf_0 (by decide) ?_
  refine lv_istore (lv' := [(4, .int 0), (0, .ref (wB ω + q)), (1, .int x1), (2, .ref (wB ω + q2)), (3, .int x3)]) hx hb dX1_valueOf_1 hl (by decide) rfl (fun ls hl => ?_)
  refine lv_iload_n hx hb dX1_valueOf_3 rfl (lv_at hl 2 rfl) ?_
  refine lv_if_lt (tgt := 21) hx hb dX1_valueOf_4 (by decide) (fun hc => ?_) (fun hc => ?_)
  · have h := ite_t hc h
    exact wX1_valueOf_b21 hq hq2 C hr hk hH hS (lv_sub hl [1, 3, 4, 0] rfl) h
  · have h := ite_f hc h
    refine lv_iload_n hx hb dX1_valueOf_7 rfl (lv_at hl 2 rfl) ?_
    refine lv_iconst (v := 4) hx hb dX1_valueOf_8 (by decide) ?_
    refine lv_icmp_ge (tgt := 21) hx hb dX1_valueOf_9 (by decide) (fun hc => ?_) (fun hc => ?_)
    · have h := ite_t hc h
      exact wX1_valueOf_b21 hq hq2 C hr hk hH hS (lv_sub hl [1, 3, 4, 0] rfl) h
    · have h := ite_f hc h
      refine lv_aload_n hx hb dX1_valueOf_12 rfl (lv_at hl 1 rfl) ?_
      refine g_236 (i := q + 3) C hH hq.1 rfl dX1_valueOf_13 ?_
      refine lv_iload_n hx hb dX1_valueOf_16 rfl (lv_at hl 2 rfl) ?_
      obtain ⟨b30, h⟩ := gd_e h
      refine h_iald C hH hq.2.2.2.1.1 hq.2.2.2.1.2 b30 dX1_valueOf_17 ?_
      refine lv_goto (tgt := 25) hx hb dX1_valueOf_18 (by decide) ?_
      exact wX1_valueOf_b25 hq hq2 C hr hk hH hS (lv_sub hl [1, 3, 4, 0] rfl) h
theorem c_X1_valueOf {l : Launch} {ω : WW} {q : Nat} {x1 : Int32} {q2 : Nat} {x3 : Int32} (hq : IsL ω q) (hq2 : IsS ω q2) {μ : Mem} {rr : Int32} {μo : Mem} (h : fX1_valueOf q x1 q2 x3 μ = some (rr, μo)) : Con l yX1_valueOf cX1_valueOf 10 (some .int) 2 ω [.ref (wB ω + q), .int x1, .ref (wB ω + q2), .int x3] μ (some (.int rr)) μo :=
  con_of (by decide) (Nat.le_of_ble_eq_true rfl) (fun p e s m args below meth c ls C hr hk hl hH => wX1_valueOf_e hq hq2 C hr hk hH FS.rf (lv_sub hl [0, 1, 2, 3] rfl) h)
set_option maxHeartbeats 4000000 in
set_option maxRecDepth 100000 in
theorem wX7_set_e {q : Nat} (hq : IsS ω q) (C : Cx ω p s m args c cX7_set 5 RX7) (hr : meth.sig.returnType = none) (hk : meth.locks = false) {μo : Mem} {x1 : Int32} {x2 : Int32} {x3 : Int32} {μ : Mem} {H : Heap} {locs : List Loc} {ls : Array Slot} (hH : Hd ω μ H) (hS : FS ω s H locs) (hl : lv_has ls 5 [(0, .ref (wB ω + q)), (1, .int x1), (2, .int x2), (3, .int x3)]) (h : fX7_set q x1 x2 x3 μ = some μo) : W p l e (rmd 1) s m args below meth c H locs 0 0 (MQ below (QR ω none μo) args s 0 0 (wA ω)) (F0 m 0 ls []) := by
  have hx := C.1
  have hb := C.2.1
  unfold fX7_set at h
  refine lv_iload_n hx hb dX7_set_0 rfl (lv_at hl 1 rfl) ?_
  refine lv_bipush (v := 7) hx hb dX7_set_1 (by decide) ?_
  refine lv_imul hx hb dX7_set_3 ?_
  refine lv_iload_n hx hb dX7_set_4 rfl (lv_at hl 2 rfl) ?_
  refine lv_iadd hx hb dX7_set_5 ?_
  obtain ⟨y1, e2, h⟩ := bd_e h
  refine h_topi e2 ?_
  refine lv_istore (lv' := [(4, .int y1), (0, .ref (wB ω + q)), (1, .int x1), (2, .int x2), (3, .int x3)]) hx hb dX7_set_6 hl (by decide) rfl (fun ls hl => ?_)
  refine lv_iload hx hb dX7_set_8 (lv_at hl 0 rfl) ?_
  refine lv_if_lt (tgt := 31) hx hb dX7_set_10 (by decide) (fun hc => ?_) (fun hc => ?_)
  · have h := ite_t hc h
    exact h_vret C hr hk hH hS (by cases h; rfl) dX7_set_31
  · have h := ite_f hc h
    refine lv_iload hx hb dX7_set_13 (lv_at hl 0 rfl) ?_
    refine lv_aload_n hx hb dX7_set_15 rfl (lv_at hl 1 rfl) ?_
    refine g_322 (i := q + 1) C hH hq.1 rfl dX7_set_16 ?_
    refine h_alen (v := 42) C hH hq.2.1 hq.2.2 (by decide) (by decide) (by decide) dX7_set_19 ?_
    refine lv_icmp_ge (tgt := 31) hx hb dX7_set_20 (by decide) (fun hc => ?_) (fun hc => ?_)
    · have h := ite_t hc h
      exact h_vret C hr hk hH hS (by cases h; rfl) dX7_set_31
    · have h := ite_f hc h
      refine lv_aload_n hx hb dX7_set_23 rfl (lv_at hl 1 rfl) ?_
      refine g_322 (i := q + 1) C hH hq.1 rfl dX7_set_24 ?_
      refine lv_iload hx hb dX7_set_27 (lv_at hl 0 rfl) ?_
      refine lv_iload_n hx hb dX7_set_29 rfl (lv_at hl 4 rfl) ?_
      obtain ⟨b3, h⟩ := gd_e h
      obtain ⟨μ4, e5, h⟩ := bd_e h
      refine h_iast C hH hS hq.2.1 hq.2.2 b3 dX7_set_30 (fun H locs hH hS => ?_)
      have hH := Hd.to e5 hH
      exact h_vret C hr hk hH hS (by cases h; rfl) dX7_set_31
theorem c_X7_set {l : Launch} {ω : WW} {q : Nat} {x1 : Int32} {x2 : Int32} {x3 : Int32} (hq : IsS ω q) {μ : Mem} {μo : Mem} (h : fX7_set q x1 x2 x3 μ = some μo) : Con l yX7_set cX7_set 5 none 1 ω [.ref (wB ω + q), .int x1, .int x2, .int x3] μ none μo :=
  con_of (by decide) (Nat.le_of_ble_eq_true rfl) (fun p e s m args below meth c ls C hr hk hl hH => wX7_set_e hq C hr hk hH FS.rf (lv_sub hl [0, 1, 2, 3] rfl) h)
set_option maxHeartbeats 4000000 in
set_option maxRecDepth 100000 in
theorem wX7_sumOf_s4 {q : Nat} (hq : IsS ω q) (C : Cx ω p s m args c cX7_sumOf 4 RX7) (hr : meth.sig.returnType = some .int) (hk : meth.locks = false) {rr : Int32} {μ : Mem} {x1 : Int32} {x2 : Int32} {x3 : Int32} {rec : Int32 → Int32 → Option Int32} (hrec : ∀ (z2 : Int32) (z3 : Int32) (H : Heap) (locs : List Loc) (ls : Array Slot), Hd ω μ H → FS ω s H locs → lv_has ls 4 [(0, .ref (wB ω + q)), (1, .int x1), (2, .int z2), (3, .int z3)] → rec z2 z3 = some rr → W p l e (rmd 2) s m args below meth c H locs 0 0 (MQ below (QR ω (some (.int rr)) μ) args s 0 0 (wA ω)) (F0 m 4 ls [])) {H : Heap} {locs : List Loc} {ls : Array Slot} (hH : Hd ω μ H) (hS : FS ω s H locs) (hl : lv_has ls 4 [(0, .ref (wB ω + q)), (1, .int x1), (2, .int x2), (3, .int x3)]) (h : fX7_sumOf_s4 rec q x1 x2 x3 μ = some rr) : W p l e (rmd 2) s m args below meth c H locs 0 0 (MQ below (QR ω (some (.int rr)) μ) args s 0 0 (wA ω)) (F0 m 4 ls []) := by
  have hx := C.1
  have hb := C.2.1
  unfold fX7_sumOf_s4 at h
  refine lv_iload_n hx hb dX7_sumOf_4 rfl (lv_at hl 3 rfl) ?_
  refine lv_bipush (v := 6) hx hb dX7_sumOf_5 (by decide) ?_
  refine lv_icmp_ge (tgt := 25) hx hb dX7_sumOf_7 (by decide) (fun hc => ?_) (fun hc => ?_)
  · have h := ite_t hc h
    refine lv_iload_n hx hb dX7_sumOf_25 rfl (lv_at hl 2 rfl) ?_
    exact h_iret C hr hk hH hS rfl (by cases h; rfl) dX7_sumOf_26
  · have h := ite_f hc h
    refine lv_iload_n hx hb dX7_sumOf_10 rfl (lv_at hl 2 rfl) ?_
    refine lv_aload_n hx hb dX7_sumOf_11 rfl (lv_at hl 0 rfl) ?_
    refine lv_iload_n hx hb dX7_sumOf_12 rfl (lv_at hl 3 rfl) ?_
    refine lv_iload_n hx hb dX7_sumOf_13 rfl (lv_at hl 1 rfl) ?_
    obtain ⟨r2, e1, h⟩ := b1_e h
    refine cVi (as := [.int x3, .int x1]) (rest := [.int x2]) (c_X7_get hq e1) C hl.1 hH hS rfl hq.1 rfl wd_745 wd_744 mw_X7_get wd_791 rfl (rm_ok (by decide) (by decide)) (Nat.le_of_ble_eq_true rfl) ⟨Nat.zero_le _, Nat.zero_le _⟩ (by decide) dX7_sumOf_14 (fun H locs hH hS => ?_)
    refine lv_iadd hx hb dX7_sumOf_17 ?_
    obtain ⟨y3, e4, h⟩ := bd_e h
    refine h_topi e4 ?_
    refine lv_istore_n (lv' := [(2, .int y3), (0, .ref (wB ω + q)), (1, .int x1), (3, .int x3)]) hx hb dX7_sumOf_18 rfl hl (by decide) rfl (fun ls hl => ?_)
    refine lv_iinc (v := x3 + 1) (lv' := [(3, .int (x3 + 1)), (2, .int y3), (0, .ref (wB ω + q)), (1, .int x1)]) hx hb dX7_sumOf_19 hl (k := 3) rfl rfl (by decide) rfl (fun ls hl => ?_)
    refine lv_goto (tgt := 4) hx hb dX7_sumOf_22 (by decide) ?_
    exact hrec _ _ H locs ls hH hS (lv_sub hl [2, 3, 1, 0] rfl) h
theorem wX7_sumOf_l4 {q : Nat} (hq : IsS ω q) (C : Cx ω p s m args c cX7_sumOf 4 RX7) (hr : meth.sig.returnType = some .int) (hk : meth.locks = false) {rr : Int32} {μ : Mem} {x1 : Int32} : ∀ (n : Nat) (x2 : Int32) (x3 : Int32) (H : Heap) (locs : List Loc) (ls : Array Slot), Hd ω μ H → FS ω s H locs → lv_has ls 4 [(0, .ref (wB ω + q)), (1, .int x1), (2, .int x2), (3, .int x3)] → fX7_sumOf_l4 q x1 μ n x2 x3 = some rr → W p l e (rmd 2) s m args below meth c H locs 0 0 (MQ below (QR ω (some (.int rr)) μ) args s 0 0 (wA ω)) (F0 m 4 ls []) := by
  intro n
  induction n with
  | zero => intro x2 x3 H locs ls hH hS hl h; cases h
  | succ n ih => intro x2 x3 H locs ls hH hS hl h; exact wX7_sumOf_s4 hq C hr hk ih hH hS hl h
set_option maxHeartbeats 4000000 in
set_option maxRecDepth 100000 in
theorem wX7_sumOf_e {q : Nat} (hq : IsS ω q) (C : Cx ω p s m args c cX7_sumOf 4 RX7) (hr : meth.sig.returnType = some .int) (hk : meth.locks = false) {rr : Int32} {μ : Mem} {x1 : Int32} {H : Heap} {locs : List Loc} {ls : Array Slot} (hH : Hd ω μ H) (hS : FS ω s H locs) (hl : lv_has ls 4 [(0, .ref (wB ω + q)), (1, .int x1)]) (h : fX7_sumOf q x1 μ = some rr) : W p l e (rmd 2) s m args below meth c H locs 0 0 (MQ below (QR ω (some (.int rr)) μ) args s 0 0 (wA ω)) (F0 m 0 ls []) := by
  have hx := C.1
  have hb := C.2.1
  unfold fX7_sumOf at h
  refine lv_iconst (v := 0) hx hb dX7_sumOf_0 (by decide) ?_
  refine lv_istore_n (lv' := [(2, .int 0), (0, .ref (wB ω + q)), (1, .int x1)]) hx hb dX7_sumOf_1 rfl hl (by decide) rfl (fun ls hl => ?_)
  refine lv_iconst (v := 0) hx hb dX7_sumOf_2 (by decide) ?_
  refine lv_istore_n (lv' := [(3, .int 0), (2, .int 0), (0, .ref (wB ω + q)), (1, .int x1)]) hx hb dX7_sumOf_3 rfl hl (by decide) rfl (fun ls hl => ?_)
  exact wX7_sumOf_l4 hq C hr hk FU _ _ H locs ls hH hS (lv_sub hl [2, 3, 1, 0] rfl) h
theorem c_X7_sumOf {l : Launch} {ω : WW} {q : Nat} {x1 : Int32} (hq : IsS ω q) {μ : Mem} {rr : Int32} (h : fX7_sumOf q x1 μ = some rr) : Con l yX7_sumOf cX7_sumOf 4 (some .int) 2 ω [.ref (wB ω + q), .int x1] μ (some (.int rr)) μ :=
  con_of (by decide) (Nat.le_of_ble_eq_true rfl) (fun p e s m args below meth c ls C hr hk hl hH => wX7_sumOf_e hq C hr hk hH FS.rf (lv_sub hl [0, 1] rfl) h)
set_option maxHeartbeats 4000000 in
set_option maxRecDepth 100000 in
theorem wX7_bitsOf_s6 {q : Nat} (hq : IsS ω q) (C : Cx ω p s m args c cX7_bitsOf 6 RX7) (hr : meth.sig.returnType = some .int) (hk : meth.locks = false) {rr : Int32} {μ : Mem} {x1 : Int32} {x2 : Int32} {x3 : Int32} {x4 : Int32} {x5 : Int32} {rec : Int32 → Int32 → Option Int32} (hrec : ∀ (z4 : Int32) (z5 : Int32) (H : Heap) (locs : List Loc) (ls : Array Slot), Hd ω μ H → FS ω s H locs → lv_has ls 6 [(0, .ref (wB ω + q)), (1, .int x1), (2, .int x2), (3, .int x3), (4, .int z4), (5, .int z5)] → rec z4 z5 = some rr → W p l e (rmd 2) s m args below meth c H locs 0 0 (MQ below (QR ω (some (.int rr)) μ) args s 0 0 (wA ω)) (F0 m 6 ls [])) {H : Heap} {locs : List Loc} {ls : Array Slot} (hH : Hd ω μ H) (hS : FS ω s H locs) (hl : lv_has ls 6 [(0, .ref (wB ω + q)), (1, .int x1), (2, .int x2), (3, .int x3), (4, .int x4), (5, .int x5)]) (h : fX7_bitsOf_s6 rec q x1 x2 x3 x4 x5 μ = some rr) : W p l e (rmd 2) s m args below meth c H locs 0 0 (MQ below (QR ω (some (.int rr)) μ) args s 0 0 (wA ω)) (F0 m 6 ls []) := by
  have hx := C.1
  have hb := C.2.1
  unfold fX7_bitsOf_s6 at h
  refine lv_iload hx hb dX7_bitsOf_6 (lv_at hl 5 rfl) ?_
  refine lv_iload_n hx hb dX7_bitsOf_8 rfl (lv_at hl 3 rfl) ?_
  refine lv_icmp_ge (tgt := 38) hx hb dX7_bitsOf_9 (by decide) (fun hc => ?_) (fun hc => ?_)
  · have h := ite_t hc h
    refine lv_iload hx hb dX7_bitsOf_38 (lv_at hl 4 rfl) ?_
    exact h_iret C hr hk hH hS rfl (by cases h; rfl) dX7_bitsOf_40
  · have h := ite_f hc h
    refine lv_aload_n hx hb dX7_bitsOf_12 rfl (lv_at hl 0 rfl) ?_
    refine lv_iload hx hb dX7_bitsOf_13 (lv_at hl 5 rfl) ?_
    refine lv_iload_n hx hb dX7_bitsOf_15 rfl (lv_at hl 1 rfl) ?_
    obtain ⟨r2, e1, h⟩ := b1_e h
    refine cVi (as := [.int x5, .int x1]) (rest := []) (c_X7_get hq e1) C hl.1 hH hS rfl hq.1 rfl wd_745 wd_744 mw_X7_get wd_791 rfl (rm_ok (by decide) (by decide)) (Nat.le_of_ble_eq_true rfl) ⟨Nat.zero_le _, Nat.zero_le _⟩ (by decide) dX7_bitsOf_16 (fun H locs hH hS => ?_)
    refine lv_iload_n hx hb dX7_bitsOf_19 rfl (lv_at hl 2 rfl) ?_
    refine lv_icmp_ne (tgt := 32) hx hb dX7_bitsOf_20 (by decide) (fun hc => ?_) (fun hc => ?_)
    · have h := ite_f hc h
      refine lv_iinc (v := x5 + 1) (lv' := [(5, .int (x5 + 1)), (0, .ref (wB ω + q)), (1, .int x1), (2, .int x2), (3, .int x3), (4, .int x4)]) hx hb dX7_bitsOf_32 hl (k := 5) rfl rfl (by decide) rfl (fun ls hl => ?_)
      refine lv_goto (tgt := 6) hx hb dX7_bitsOf_35 (by decide) ?_
      exact hrec _ _ H locs ls hH hS (lv_sub hl [1, 2, 3, 4, 5, 0] rfl) h
    · have h := ite_t hc h
      refine lv_iload hx hb dX7_bitsOf_23 (lv_at hl 4 rfl) ?_
      refine lv_iconst (v := 1) hx hb dX7_bitsOf_25 (by decide) ?_
      refine lv_iload hx hb dX7_bitsOf_26 (lv_at hl 5 rfl) ?_
      refine lv_ishl hx hb dX7_bitsOf_28 ?_
      refine lv_ior hx hb dX7_bitsOf_29 ?_
      obtain ⟨y3, e4, h⟩ := bd_e h
      refine h_topi e4 ?_
      refine lv_istore (lv' := [(4, .int y3), (0, .ref (wB ω + q)), (1, .int x1), (2, .int x2), (3, .int x3), (5, .int x5)]) hx hb dX7_bitsOf_30 hl (by decide) rfl (fun ls hl => ?_)
      refine lv_iinc (v := x5 + 1) (lv' := [(5, .int (x5 + 1)), (4, .int y3), (0, .ref (wB ω + q)), (1, .int x1), (2, .int x2), (3, .int x3)]) hx hb dX7_bitsOf_32 hl (k := 5) rfl rfl (by decide) rfl (fun ls hl => ?_)
      refine lv_goto (tgt := 6) hx hb dX7_bitsOf_35 (by decide) ?_
      exact hrec _ _ H locs ls hH hS (lv_sub hl [2, 3, 4, 5, 1, 0] rfl) h
theorem wX7_bitsOf_l6 {q : Nat} (hq : IsS ω q) (C : Cx ω p s m args c cX7_bitsOf 6 RX7) (hr : meth.sig.returnType = some .int) (hk : meth.locks = false) {rr : Int32} {μ : Mem} {x1 : Int32} {x2 : Int32} {x3 : Int32} : ∀ (n : Nat) (x4 : Int32) (x5 : Int32) (H : Heap) (locs : List Loc) (ls : Array Slot), Hd ω μ H → FS ω s H locs → lv_has ls 6 [(0, .ref (wB ω + q)), (1, .int x1), (2, .int x2), (3, .int x3), (4, .int x4), (5, .int x5)] → fX7_bitsOf_l6 q x1 x2 x3 μ n x4 x5 = some rr → W p l e (rmd 2) s m args below meth c H locs 0 0 (MQ below (QR ω (some (.int rr)) μ) args s 0 0 (wA ω)) (F0 m 6 ls []) := by
  intro n
  induction n with
  | zero => intro x4 x5 H locs ls hH hS hl h; cases h
  | succ n ih => intro x4 x5 H locs ls hH hS hl h; exact wX7_bitsOf_s6 hq C hr hk ih hH hS hl h
set_option maxHeartbeats 4000000 in
set_option maxRecDepth 100000 in
theorem wX7_bitsOf_e {q : Nat} (hq : IsS ω q) (C : Cx ω p s m args c cX7_bitsOf 6 RX7) (hr : meth.sig.returnType = some .int) (hk : meth.locks = false) {rr : Int32} {μ : Mem} {x1 : Int32} {x2 : Int32} {x3 : Int32} {H : Heap} {locs : List Loc} {ls : Array Slot} (hH : Hd ω μ H) (hS : FS ω s H locs) (hl : lv_has ls 6 [(0, .ref (wB ω + q)), (1, .int x1), (2, .int x2), (3, .int x3)]) (h : fX7_bitsOf q x1 x2 x3 μ = some rr) : W p l e (rmd 2) s m args below meth c H locs 0 0 (MQ below (QR ω (some (.int rr)) μ) args s 0 0 (wA ω)) (F0 m 0 ls []) := by
  have hx := C.1
  have hb := C.2.1
  unfold fX7_bitsOf at h
  refine lv_iconst (v := 0) hx hb dX7_bitsOf_0 (by decide) ?_
  refine lv_istore (lv' := [(4, .int 0), (0, .ref (wB ω + q)), (1, .int x1), (2, .int x2), (3, .int x3)]) hx hb dX7_bitsOf_1 hl (by decide) rfl (fun ls hl => ?_)
  refine lv_iconst (v := 0) hx hb dX7_bitsOf_3 (by decide) ?_
  refine lv_istore (lv' := [(5, .int 0), (4, .int 0), (0, .ref (wB ω + q)), (1, .int x1), (2, .int x2), (3, .int x3)]) hx hb dX7_bitsOf_4 hl (by decide) rfl (fun ls hl => ?_)
  exact wX7_bitsOf_l6 hq C hr hk FU _ _ H locs ls hH hS (lv_sub hl [2, 3, 4, 5, 1, 0] rfl) h
theorem c_X7_bitsOf {l : Launch} {ω : WW} {q : Nat} {x1 : Int32} {x2 : Int32} {x3 : Int32} (hq : IsS ω q) {μ : Mem} {rr : Int32} (h : fX7_bitsOf q x1 x2 x3 μ = some rr) : Con l yX7_bitsOf cX7_bitsOf 6 (some .int) 2 ω [.ref (wB ω + q), .int x1, .int x2, .int x3] μ (some (.int rr)) μ :=
  con_of (by decide) (Nat.le_of_ble_eq_true rfl) (fun p e s m args below meth c ls C hr hk hl hH => wX7_bitsOf_e hq C hr hk hH FS.rf (lv_sub hl [0, 1, 2, 3] rfl) h)
set_option maxHeartbeats 4000000 in
set_option maxRecDepth 100000 in
theorem wX7_keptApart_e {q : Nat} (hq : IsS ω q) (C : Cx ω p s m args c cX7_keptApart 3 RX7) (hr : meth.sig.returnType = some .int) (hk : meth.locks = false) {rr : Int32} {μ : Mem} {x1 : Int32} {x2 : Int32} {H : Heap} {locs : List Loc} {ls : Array Slot} (hH : Hd ω μ H) (hS : FS ω s H locs) (hl : lv_has ls 3 [(0, .ref (wB ω + q)), (1, .int x1), (2, .int x2)]) (h : fX7_keptApart q x1 x2 μ = some rr) : W p l e (rmd 2) s m args below meth c H locs 0 0 (MQ below (QR ω (some (.int rr)) μ) args s 0 0 (wA ω)) (F0 m 0 ls []) := by
  have hx := C.1
  have hb := C.2.1
  unfold fX7_keptApart at h
  refine lv_aload_n hx hb dX7_keptApart_0 rfl (lv_at hl 0 rfl) ?_
  refine lv_iload_n hx hb dX7_keptApart_1 rfl (lv_at hl 1 rfl) ?_
  refine lv_iconst (v := 3) hx hb dX7_keptApart_2 (by decide) ?_
  obtain ⟨r2, e1, h⟩ := b1_e h
  refine cVi (as := [.int x1, .int 3]) (rest := []) (c_X7_get hq e1) C hl.1 hH hS rfl hq.1 rfl wd_745 wd_744 mw_X7_get wd_791 rfl (rm_ok (by decide) (by decide)) (Nat.le_of_ble_eq_true rfl) ⟨Nat.zero_le _, Nat.zero_le _⟩ (by decide) dX7_keptApart_3 (fun H locs hH hS => ?_)
  refine lv_aload_n hx hb dX7_keptApart_6 rfl (lv_at hl 0 rfl) ?_
  refine lv_iload_n hx hb dX7_keptApart_7 rfl (lv_at hl 2 rfl) ?_
  refine lv_iconst (v := 3) hx hb dX7_keptApart_8 (by decide) ?_
  obtain ⟨r4, e3, h⟩ := b1_e h
  refine cVi (as := [.int x2, .int 3]) (rest := [.int r2]) (c_X7_get hq e3) C hl.1 hH hS rfl hq.1 rfl wd_745 wd_744 mw_X7_get wd_791 rfl (rm_ok (by decide) (by decide)) (Nat.le_of_ble_eq_true rfl) ⟨Nat.zero_le _, Nat.zero_le _⟩ (by decide) dX7_keptApart_9 (fun H locs hH hS => ?_)
  refine lv_isub hx hb dX7_keptApart_12 ?_
  refine h_mabs C hl.1 wd_1080 (rest := []) (Nat.le_of_ble_eq_true rfl) (Nat.le_of_ble_eq_true rfl) ⟨Nat.zero_le _, Nat.zero_le _⟩ dX7_keptApart_13 ?_
  refine h_topi (y := jabs (r2 - r4)) rfl ?_
  exact h_iret C hr hk hH hS rfl (by cases h; rfl) dX7_keptApart_16
theorem c_X7_keptApart {l : Launch} {ω : WW} {q : Nat} {x1 : Int32} {x2 : Int32} (hq : IsS ω q) {μ : Mem} {rr : Int32} (h : fX7_keptApart q x1 x2 μ = some rr) : Con l yX7_keptApart cX7_keptApart 3 (some .int) 2 ω [.ref (wB ω + q), .int x1, .int x2] μ (some (.int rr)) μ :=
  con_of (by decide) (Nat.le_of_ble_eq_true rfl) (fun p e s m args below meth c ls C hr hk hl hH => wX7_keptApart_e hq C hr hk hH FS.rf (lv_sub hl [0, 1, 2] rfl) h)
set_option maxHeartbeats 4000000 in
set_option maxRecDepth 100000 in
theorem wX12_back_e (hW : FWM ω) (C : Cx ω p s m args c cX12_back 2 RX12) (hr : meth.sig.returnType = some .int) (hk : meth.locks = false) {rr : Int32} {μo : Mem} {x1 : Int32} {μ : Mem} {H : Heap} {locs : List Loc} {ls : Array Slot} (hH : Hd ω μ H) (hS : FS ω s H locs) (hl : lv_has ls 2 [(0, .ref (wB ω + 0)), (1, .int x1)]) (h : fX12_back x1 μ = some (rr, μo)) : W p l e (rmd 1) s m args below meth c H locs 0 0 (MQ below (QR ω (some (.int rr)) μo) args s 0 0 (wA ω)) (F0 m 0 ls []) := by
  have hx := C.1
  have hb := C.2.1
  unfold fX12_back at h
  refine lv_iload_n hx hb dX12_back_0 rfl (lv_at hl 1 rfl) ?_
  refine lv_if_lt (tgt := 12) hx hb dX12_back_1 (by decide) (fun hc => ?_) (fun hc => ?_)
  · have h := ite_t hc h
    refine lv_iconst (v := (-1)) hx hb dX12_back_12 (by decide) ?_
    exact h_iret C hr hk hH hS rfl (by cases h; rfl) dX12_back_13
  · have h := ite_f hc h
    refine lv_iload_n hx hb dX12_back_4 rfl (lv_at hl 1 rfl) ?_
    refine lv_aload_n hx hb dX12_back_5 rfl (lv_at hl 0 rfl) ?_
    refine g_1189 C hH (jM_0 hW) dX12_back_6 ?_
    refine lv_icmp_le (tgt := 14) hx hb dX12_back_9 (by decide) (fun hc => ?_) (fun hc => ?_)
    · have h := ite_t hc h
      refine lv_aload_n hx hb dX12_back_14 rfl (lv_at hl 0 rfl) ?_
      refine lv_dup hx hb dX12_back_15 rfl ?_
      refine g_1189 C hH (jM_0 hW) dX12_back_16 ?_
      refine lv_iload_n hx hb dX12_back_19 rfl (lv_at hl 1 rfl) ?_
      refine lv_isub hx hb dX12_back_20 ?_
      obtain ⟨μ1, e2, h⟩ := bd_e h
      refine p_1189 C hH hS (jM_0 hW) dX12_back_21 (fun H locs hH hS => ?_)
      have hH := Hd.to e2 hH
      refine lv_aload_n hx hb dX12_back_24 rfl (lv_at hl 0 rfl) ?_
      refine g_1189 C hH (jM_0 hW) dX12_back_25 ?_
      exact h_iret C hr hk hH hS rfl (by cases h; rfl) dX12_back_28
    · have h := ite_f hc h
      refine lv_iconst (v := (-1)) hx hb dX12_back_12 (by decide) ?_
      exact h_iret C hr hk hH hS rfl (by cases h; rfl) dX12_back_13
theorem c_X12_back {l : Launch} {ω : WW} {x1 : Int32} (hW : FWM ω) {μ : Mem} {rr : Int32} {μo : Mem} (h : fX12_back x1 μ = some (rr, μo)) : Con l yX12_back cX12_back 2 (some .int) 1 ω [.ref (wB ω + 0), .int x1] μ (some (.int rr)) μo :=
  con_of (by decide) (Nat.le_of_ble_eq_true rfl) (fun p e s m args below meth c ls C hr hk hl hH => wX12_back_e hW C hr hk hH FS.rf (lv_sub hl [0, 1] rfl) h)
set_option maxHeartbeats 4000000 in
set_option maxRecDepth 100000 in
theorem wX12_many_e (hW : FWM ω) (C : Cx ω p s m args c cX12_many 1 RX12) (hr : meth.sig.returnType = some .int) (hk : meth.locks = false) {rr : Int32} {μ : Mem} {H : Heap} {locs : List Loc} {ls : Array Slot} (hH : Hd ω μ H) (hS : FS ω s H locs) (hl : lv_has ls 1 [(0, .ref (wB ω + 0))]) (h : fX12_many μ = some rr) : W p l e (rmd 1) s m args below meth c H locs 0 0 (MQ below (QR ω (some (.int rr)) μ) args s 0 0 (wA ω)) (F0 m 0 ls []) := by
  have hx := C.1
  have hb := C.2.1
  unfold fX12_many at h
  refine lv_aload_n hx hb dX12_many_0 rfl (lv_at hl 0 rfl) ?_
  refine g_1208 (i := 9) C hH (jM_0 hW) rfl dX12_many_1 ?_
  refine lv_aload_n hx hb dX12_many_4 rfl (lv_at hl 0 rfl) ?_
  refine g_1205 C hH (jM_0 hW) dX12_many_5 ?_
  obtain ⟨b1, h⟩ := gd_e h
  refine h_iald C hH (jM_9 hW).1 (jM_9 hW).2 b1 dX12_many_8 ?_
  exact h_iret C hr hk hH hS rfl (by cases h; rfl) dX12_many_9
theorem c_X12_many {l : Launch} {ω : WW} (hW : FWM ω) {μ : Mem} {rr : Int32} (h : fX12_many μ = some rr) : Con l yX12_many cX12_many 1 (some .int) 1 ω [.ref (wB ω + 0)] μ (some (.int rr)) μ :=
  con_of (by decide) (Nat.le_of_ble_eq_true rfl) (fun p e s m args below meth c ls C hr hk hl hH => wX12_many_e hW C hr hk hH FS.rf (lv_sub hl [0] rfl) h)
set_option maxHeartbeats 4000000 in
set_option maxRecDepth 100000 in
theorem wX12_copies_s2 (hW : FWM ω) (C : Cx ω p s m args c cX12_copies 2 RX12) (hr : meth.sig.returnType = none) (hk : meth.locks = false) {μo : Mem} {x1 : Int32} {rec : Int32 → Mem → Option Mem} (hrec : ∀ (z1 : Int32) (ν : Mem) (H : Heap) (locs : List Loc) (ls : Array Slot), Hd ω ν H → FS ω s H locs → lv_has ls 2 [(0, .ref (wB ω + 0)), (1, .int z1)] → rec z1 ν = some μo → W p l e (rmd 1) s m args below meth c H locs 0 0 (MQ below (QR ω none μo) args s 0 0 (wA ω)) (F0 m 2 ls [])) {K : Mem → Option Mem} (hK : ∀ (ν : Mem) (H : Heap) (locs : List Loc) (ls : Array Slot), Hd ω ν H → FS ω s H locs → lv_has ls 2 [(0, .ref (wB ω + 0))] → K ν = some μo → W p l e (rmd 1) s m args below meth c H locs 0 0 (MQ below (QR ω none μo) args s 0 0 (wA ω)) (F0 m 26 ls [])) {μ : Mem} {H : Heap} {locs : List Loc} {ls : Array Slot} (hH : Hd ω μ H) (hS : FS ω s H locs) (hl : lv_has ls 2 [(0, .ref (wB ω + 0)), (1, .int x1)]) (h : fX12_copies_s2 rec K x1 μ = some μo) : W p l e (rmd 1) s m args below meth c H locs 0 0 (MQ below (QR ω none μo) args s 0 0 (wA ω)) (F0 m 2 ls []) := by
  have hx := C.1
  have hb := C.2.1
  unfold fX12_copies_s2 at h
  refine lv_iload_n hx hb dX12_copies_2 rfl (lv_at hl 1 rfl) ?_
  refine lv_bipush (v := 39) hx hb dX12_copies_3 (by decide) ?_
  refine lv_icmp_ge (tgt := 26) hx hb dX12_copies_5 (by decide) (fun hc => ?_) (fun hc => ?_)
  · have h := ite_t hc h
    exact hK _ H locs ls hH hS (lv_sub hl [0] rfl) h
  · have h := ite_f hc h
    refine lv_aload_n hx hb dX12_copies_8 rfl (lv_at hl 0 rfl) ?_
    refine g_1235 (i := 32) C hH (jM_0 hW) rfl dX12_copies_9 ?_
    refine lv_iload_n hx hb dX12_copies_12 rfl (lv_at hl 1 rfl) ?_
    refine lv_aload_n hx hb dX12_copies_13 rfl (lv_at hl 0 rfl) ?_
    refine g_1234 (i := 31) C hH (jM_0 hW) rfl dX12_copies_14 ?_
    refine lv_iload_n hx hb dX12_copies_17 rfl (lv_at hl 1 rfl) ?_
    obtain ⟨b1, h⟩ := gd_e h
    refine h_iald C hH (jM_31 hW).1 (jM_31 hW).2 b1 dX12_copies_18 ?_
    obtain ⟨b2, h⟩ := gd_e h
    obtain ⟨μ3, e4, h⟩ := bd_e h
    refine h_iast C hH hS (jM_32 hW).1 (jM_32 hW).2 b2 dX12_copies_19 (fun H locs hH hS => ?_)
    have hH := Hd.to e4 hH
    refine lv_iinc (v := x1 + 1) (lv' := [(1, .int (x1 + 1)), (0, .ref (wB ω + 0))]) hx hb dX12_copies_20 hl (k := 1) rfl rfl (by decide) rfl (fun ls hl => ?_)
    refine lv_goto (tgt := 2) hx hb dX12_copies_23 (by decide) ?_
    exact hrec _ _ H locs ls hH hS (lv_sub hl [1, 0] rfl) h
theorem wX12_copies_l2 (hW : FWM ω) (C : Cx ω p s m args c cX12_copies 2 RX12) (hr : meth.sig.returnType = none) (hk : meth.locks = false) {μo : Mem} {K : Mem → Option Mem} (hK : ∀ (ν : Mem) (H : Heap) (locs : List Loc) (ls : Array Slot), Hd ω ν H → FS ω s H locs → lv_has ls 2 [(0, .ref (wB ω + 0))] → K ν = some μo → W p l e (rmd 1) s m args below meth c H locs 0 0 (MQ below (QR ω none μo) args s 0 0 (wA ω)) (F0 m 26 ls [])) : ∀ (n : Nat) (x1 : Int32) (μ : Mem) (H : Heap) (locs : List Loc) (ls : Array Slot), Hd ω μ H → FS ω s H locs → lv_has ls 2 [(0, .ref (wB ω + 0)), (1, .int x1)] → fX12_copies_l2 K n x1 μ = some μo → W p l e (rmd 1) s m args below meth c H locs 0 0 (MQ below (QR ω none μo) args s 0 0 (wA ω)) (F0 m 2 ls []) := by
  intro n
  induction n with
  | zero => intro x1 μ H locs ls hH hS hl h; cases h
  | succ n ih => intro x1 μ H locs ls hH hS hl h; exact wX12_copies_s2 hW C hr hk ih hK hH hS hl h
set_option maxHeartbeats 4000000 in
set_option maxRecDepth 100000 in
theorem wX12_copies_e (hW : FWM ω) (C : Cx ω p s m args c cX12_copies 2 RX12) (hr : meth.sig.returnType = none) (hk : meth.locks = false) {μo : Mem} {μ : Mem} {H : Heap} {locs : List Loc} {ls : Array Slot} (hH : Hd ω μ H) (hS : FS ω s H locs) (hl : lv_has ls 2 [(0, .ref (wB ω + 0))]) (h : fX12_copies μ = some μo) : W p l e (rmd 1) s m args below meth c H locs 0 0 (MQ below (QR ω none μo) args s 0 0 (wA ω)) (F0 m 0 ls []) := by
  have hx := C.1
  have hb := C.2.1
  unfold fX12_copies at h
  refine lv_iconst (v := 0) hx hb dX12_copies_0 (by decide) ?_
  refine lv_istore_n (lv' := [(1, .int 0), (0, .ref (wB ω + 0))]) hx hb dX12_copies_1 rfl hl (by decide) rfl (fun ls hl => ?_)
  refine wX12_copies_l2 hW C hr hk (fun μ5 H locs ls hH hS hl h => ?_) FU _ _ H locs ls hH hS (lv_sub hl [1, 0] rfl) h
  refine lv_aload_n hx hb dX12_copies_26 rfl (lv_at hl 0 rfl) ?_
  refine lv_aload_n hx hb dX12_copies_27 rfl (lv_at hl 0 rfl) ?_
  refine g_1217 (i := 18) C hH (jM_0 hW) rfl dX12_copies_28 ?_
  refine lv_aload_n hx hb dX12_copies_31 rfl (lv_at hl 0 rfl) ?_
  refine g_1205 C hH (jM_0 hW) dX12_copies_32 ?_
  obtain ⟨b6, h⟩ := gd_e h
  refine h_iald C hH (jM_18 hW).1 (jM_18 hW).2 b6 dX12_copies_35 ?_
  obtain ⟨μ7, e8, h⟩ := bd_e h
  refine p_1236 C hH hS (jM_0 hW) dX12_copies_36 (fun H locs hH hS => ?_)
  have hH := Hd.to e8 hH
  refine lv_aload_n hx hb dX12_copies_39 rfl (lv_at hl 0 rfl) ?_
  refine lv_iconst (v := 0) hx hb dX12_copies_40 (by decide) ?_
  obtain ⟨μ9, e10, h⟩ := bd_e h
  refine p_1237 C hH hS (jM_0 hW) rfl rfl dX12_copies_41 (fun H locs hH hS => ?_)
  have hH := Hd.to e10 hH
  exact h_vret C hr hk hH hS (by cases h; rfl) dX12_copies_44
theorem c_X12_copies {l : Launch} {ω : WW} (hW : FWM ω) {μ : Mem} {μo : Mem} (h : fX12_copies μ = some μo) : Con l yX12_copies cX12_copies 2 none 1 ω [.ref (wB ω + 0)] μ none μo :=
  con_of (by decide) (Nat.le_of_ble_eq_true rfl) (fun p e s m args below meth c ls C hr hk hl hH => wX12_copies_e hW C hr hk hH FS.rf (lv_sub hl [0] rfl) h)
set_option maxHeartbeats 4000000 in
set_option maxRecDepth 100000 in
theorem wX12_panesAt_e (hW : FWM ω) (C : Cx ω p s m args c cX12_panesAt 2 RX12) (hr : meth.sig.returnType = some .int) (hk : meth.locks = false) {rr : Int32} {μ : Mem} {x1 : Int32} {H : Heap} {locs : List Loc} {ls : Array Slot} (hH : Hd ω μ H) (hS : FS ω s H locs) (hl : lv_has ls 2 [(0, .ref (wB ω + 0)), (1, .int x1)]) (h : fX12_panesAt x1 μ = some rr) : W p l e (rmd 1) s m args below meth c H locs 0 0 (MQ below (QR ω (some (.int rr)) μ) args s 0 0 (wA ω)) (F0 m 0 ls []) := by
  have hx := C.1
  have hb := C.2.1
  unfold fX12_panesAt at h
  refine lv_aload_n hx hb dX12_panesAt_0 rfl (lv_at hl 0 rfl) ?_
  refine g_1209 (i := 10) C hH (jM_0 hW) rfl dX12_panesAt_1 ?_
  refine lv_bipush (v := 6) hx hb dX12_panesAt_4 (by decide) ?_
  refine lv_aload_n hx hb dX12_panesAt_6 rfl (lv_at hl 0 rfl) ?_
  refine g_1205 C hH (jM_0 hW) dX12_panesAt_7 ?_
  refine lv_imul hx hb dX12_panesAt_10 ?_
  refine lv_iload_n hx hb dX12_panesAt_11 rfl (lv_at hl 1 rfl) ?_
  refine lv_iadd hx hb dX12_panesAt_12 ?_
  obtain ⟨b1, h⟩ := gd_e h
  refine h_iald C hH (jM_10 hW).1 (jM_10 hW).2 b1 dX12_panesAt_13 ?_
  exact h_iret C hr hk hH hS rfl (by cases h; rfl) dX12_panesAt_14
theorem c_X12_panesAt {l : Launch} {ω : WW} {x1 : Int32} (hW : FWM ω) {μ : Mem} {rr : Int32} (h : fX12_panesAt x1 μ = some rr) : Con l yX12_panesAt cX12_panesAt 2 (some .int) 1 ω [.ref (wB ω + 0), .int x1] μ (some (.int rr)) μ :=
  con_of (by decide) (Nat.le_of_ble_eq_true rfl) (fun p e s m args below meth c ls C hr hk hl hH => wX12_panesAt_e hW C hr hk hH FS.rf (lv_sub hl [0, 1] rfl) h)
set_option maxHeartbeats 4000000 in
set_option maxRecDepth 100000 in
theorem wX12_within_e (C : Cx ω p s m args c cX12_within 3 RX12) (hr : meth.sig.returnType = some .int) (hk : meth.locks = false) {rr : Int32} {μ : Mem} {x0 : Int32} {x1 : Int32} {x2 : Int32} {H : Heap} {locs : List Loc} {ls : Array Slot} (hH : Hd ω μ H) (hS : FS ω s H locs) (hl : lv_has ls 3 [(0, .int x0), (1, .int x1), (2, .int x2)]) (h : fX12_within x0 x1 x2 = some rr) : W p l e (rmd 1) s m args below meth c H locs 0 0 (MQ below (QR ω (some (.int rr)) μ) args s 0 0 (wA ω)) (F0 m 0 ls []) := by
  have hx := C.1
  have hb := C.2.1
  unfold fX12_within at h
  refine lv_iload_n hx hb dX12_within_0 rfl (lv_at hl 0 rfl) ?_
  refine lv_iload_n hx hb dX12_within_1 rfl (lv_at hl 1 rfl) ?_
  refine lv_icmp_ge (tgt := 9) hx hb dX12_within_2 (by decide) (fun hc => ?_) (fun hc => ?_)
  · have h := ite_t hc h
    refine lv_iload_n hx hb dX12_within_9 rfl (lv_at hl 0 rfl) ?_
    refine lv_iload_n hx hb dX12_within_10 rfl (lv_at hl 2 rfl) ?_
    refine lv_icmp_le (tgt := 18) hx hb dX12_within_11 (by decide) (fun hc => ?_) (fun hc => ?_)
    · have h := ite_t hc h
      refine lv_iload_n hx hb dX12_within_18 rfl (lv_at hl 0 rfl) ?_
      exact h_iret C hr hk hH hS rfl (by cases h; rfl) dX12_within_19
    · have h := ite_f hc h
      refine lv_iload_n hx hb dX12_within_14 rfl (lv_at hl 2 rfl) ?_
      refine lv_goto (tgt := 19) hx hb dX12_within_15 (by decide) ?_
      exact h_iret C hr hk hH hS rfl (by cases h; rfl) dX12_within_19
  · have h := ite_f hc h
    refine lv_iload_n hx hb dX12_within_5 rfl (lv_at hl 1 rfl) ?_
    refine lv_goto (tgt := 19) hx hb dX12_within_6 (by decide) ?_
    exact h_iret C hr hk hH hS rfl (by cases h; rfl) dX12_within_19
theorem c_X12_within {l : Launch} {ω : WW} {x0 : Int32} {x1 : Int32} {x2 : Int32} {μ : Mem} {rr : Int32} (h : fX12_within x0 x1 x2 = some rr) : Con l yX12_within cX12_within 3 (some .int) 1 ω [.int x0, .int x1, .int x2] μ (some (.int rr)) μ :=
  con_of (by decide) (Nat.le_of_ble_eq_true rfl) (fun p e s m args below meth c ls C hr hk hl hH => wX12_within_e C hr hk hH FS.rf (lv_sub hl [0, 1, 2] rfl) h)
set_option maxHeartbeats 4000000 in
set_option maxRecDepth 100000 in
theorem wX12_in_e (C : Cx ω p s m args c cX12_in 3 RX12) (hr : meth.sig.returnType = some .boolean) (hk : meth.locks = false) {rr : Int32} {μ : Mem} {x0 : Int32} {x1 : Int32} {x2 : Int32} {H : Heap} {locs : List Loc} {ls : Array Slot} (hH : Hd ω μ H) (hS : FS ω s H locs) (hl : lv_has ls 3 [(0, .int x0), (1, .int x1), (2, .int x2)]) (h : fX12_in x0 x1 x2 = some rr) : W p l e (rmd 1) s m args below meth c H locs 0 0 (MQ below (QR ω (some (.int rr)) μ) args s 0 0 (wA ω)) (F0 m 0 ls []) := by
  have hx := C.1
  have hb := C.2.1
  unfold fX12_in at h
  refine lv_iload_n hx hb dX12_in_0 rfl (lv_at hl 0 rfl) ?_
  refine lv_iload_n hx hb dX12_in_1 rfl (lv_at hl 1 rfl) ?_
  refine lv_icmp_lt (tgt := 14) hx hb dX12_in_2 (by decide) (fun hc => ?_) (fun hc => ?_)
  · have h := ite_t hc h
    refine lv_iconst (v := 0) hx hb dX12_in_14 (by decide) ?_
    exact h_zret (y := 0) C hr hk hH hS rfl (by cases h; rfl) dX12_in_15
  · have h := ite_f hc h
    refine lv_iload_n hx hb dX12_in_5 rfl (lv_at hl 0 rfl) ?_
    refine lv_iload_n hx hb dX12_in_6 rfl (lv_at hl 2 rfl) ?_
    refine lv_icmp_gt (tgt := 14) hx hb dX12_in_7 (by decide) (fun hc => ?_) (fun hc => ?_)
    · have h := ite_t hc h
      refine lv_iconst (v := 0) hx hb dX12_in_14 (by decide) ?_
      exact h_zret (y := 0) C hr hk hH hS rfl (by cases h; rfl) dX12_in_15
    · have h := ite_f hc h
      refine lv_iconst (v := 1) hx hb dX12_in_10 (by decide) ?_
      refine lv_goto (tgt := 15) hx hb dX12_in_11 (by decide) ?_
      exact h_zret (y := 1) C hr hk hH hS rfl (by cases h; rfl) dX12_in_15
theorem c_X12_in {l : Launch} {ω : WW} {x0 : Int32} {x1 : Int32} {x2 : Int32} {μ : Mem} {rr : Int32} (h : fX12_in x0 x1 x2 = some rr) : Con l yX12_in cX12_in 3 (some .boolean) 1 ω [.int x0, .int x1, .int x2] μ (some (.int rr)) μ :=
  con_of (by decide) (Nat.le_of_ble_eq_true rfl) (fun p e s m args below meth c ls C hr hk hl hH => wX12_in_e C hr hk hH FS.rf (lv_sub hl [0, 1, 2] rfl) h)
set_option maxHeartbeats 4000000 in
set_option maxRecDepth 100000 in
theorem wX12_isHouse_e (hW : FWM ω) (C : Cx ω p s m args c cX12_isHouse 2 RX12) (hr : meth.sig.returnType = some .boolean) (hk : meth.locks = false) {rr : Int32} {μ : Mem} {x1 : Int32} {H : Heap} {locs : List Loc} {ls : Array Slot} (hH : Hd ω μ H) (hS : FS ω s H locs) (hl : lv_has ls 2 [(0, .ref (wB ω + 0)), (1, .int x1)]) (h : fX12_isHouse x1 μ = some rr) : W p l e (rmd 2) s m args below meth c H locs 0 0 (MQ below (QR ω (some (.int rr)) μ) args s 0 0 (wA ω)) (F0 m 0 ls []) := by
  have hx := C.1
  have hb := C.2.1
  unfold fX12_isHouse at h
  refine lv_iload_n hx hb dX12_isHouse_0 rfl (lv_at hl 1 rfl) ?_
  refine lv_iconst (v := 0) hx hb dX12_isHouse_1 (by decide) ?_
  refine lv_aload_n hx hb dX12_isHouse_2 rfl (lv_at hl 0 rfl) ?_
  obtain ⟨r2, e1, h⟩ := b1_e h
  refine cVi (as := []) (rest := [.int 0, .int x1]) (c_X12_many hW e1) C hl.1 hH hS rfl (jM_0 hW) rfl wd_30 wd_1182 mw_X12_many wd_1180 rfl (rm_ok (by decide) (by decide)) (Nat.le_of_ble_eq_true rfl) ⟨Nat.zero_le _, Nat.zero_le _⟩ (by decide) dX12_isHouse_3 (fun H locs hH hS => ?_)
  refine lv_iconst (v := 1) hx hb dX12_isHouse_6 (by decide) ?_
  refine lv_isub hx hb dX12_isHouse_7 ?_
  obtain ⟨r4, e3, h⟩ := b1_e h
  refine cSi (as := [.int x1, .int 0, .int (r2 - 1)]) (rest := []) (c_X12_in e3) C hl.1 hH hS rfl wd_1506 mw_X12_in wd_1505 rfl (rm_ok (by decide) (by decide)) (Nat.le_of_ble_eq_true rfl) ⟨Nat.zero_le _, Nat.zero_le _⟩ dX12_isHouse_8 (fun H locs hH hS => ?_)
  exact h_zret (y := r4 &&& 1) C hr hk hH hS rfl (by cases h; rfl) dX12_isHouse_11
theorem c_X12_isHouse {l : Launch} {ω : WW} {x1 : Int32} (hW : FWM ω) {μ : Mem} {rr : Int32} (h : fX12_isHouse x1 μ = some rr) : Con l yX12_isHouse cX12_isHouse 2 (some .boolean) 2 ω [.ref (wB ω + 0), .int x1] μ (some (.int rr)) μ :=
  con_of (by decide) (Nat.le_of_ble_eq_true rfl) (fun p e s m args below meth c ls C hr hk hl hH => wX12_isHouse_e hW C hr hk hH FS.rf (lv_sub hl [0, 1] rfl) h)
end WK0
