theorem dX11_pipes_0 : decode cX11_pipes 0 = .ok (.iconst 0, 1) := by decide +kernel
theorem dX11_pipes_1 : decode cX11_pipes 1 = .ok (.istore_n 1, 1) := by decide +kernel
theorem dX11_pipes_2 : decode cX11_pipes 2 = .ok (.iconst 1, 1) := by decide +kernel
theorem dX11_pipes_3 : decode cX11_pipes 3 = .ok (.istore_n 2, 1) := by decide +kernel
theorem dX11_pipes_4 : decode cX11_pipes 4 = .ok (.iconst 1, 1) := by decide +kernel
theorem dX11_pipes_5 : decode cX11_pipes 5 = .ok (.istore_n 3, 1) := by decide +kernel
theorem dX11_pipes_6 : decode cX11_pipes 6 = .ok (.iload_n 3, 1) := by decide +kernel
theorem dX11_pipes_7 : decode cX11_pipes 7 = .ok (.aload_n 0, 1) := by decide +kernel
theorem dX11_pipes_8 : decode cX11_pipes 8 = .ok (.getfield 23, 3) := by decide +kernel
theorem dX11_pipes_11 : decode cX11_pipes 11 = .ok (.getfield 158, 3) := by decide +kernel
theorem dX11_pipes_14 : decode cX11_pipes 14 = .ok (.if_icmp .ge 33, 3) := by decide +kernel
theorem dX11_pipes_17 : decode cX11_pipes 17 = .ok (.aload_n 0, 1) := by decide +kernel
theorem dX11_pipes_18 : decode cX11_pipes 18 = .ok (.iload_n 2, 1) := by decide +kernel
theorem dX11_pipes_19 : decode cX11_pipes 19 = .ok (.invokevirtual 297, 3) := by decide +kernel
theorem dX11_pipes_22 : decode cX11_pipes 22 = .ok (.istore 4, 2) := by decide +kernel
theorem dX11_pipes_24 : decode cX11_pipes 24 = .ok (.iload_n 1, 1) := by decide +kernel
theorem dX11_pipes_25 : decode cX11_pipes 25 = .ok (.aload_n 0, 1) := by decide +kernel
theorem dX11_pipes_26 : decode cX11_pipes 26 = .ok (.iload 4, 2) := by decide +kernel
theorem dX11_pipes_28 : decode cX11_pipes 28 = .ok (.iload_n 2, 1) := by decide +kernel
theorem dX11_pipes_29 : decode cX11_pipes 29 = .ok (.invokevirtual 300, 3) := by decide +kernel
theorem dX11_pipes_32 : decode cX11_pipes 32 = .ok (.iadd, 1) := by decide +kernel
theorem dX11_pipes_33 : decode cX11_pipes 33 = .ok (.istore_n 1, 1) := by decide +kernel
theorem dX11_pipes_34 : decode cX11_pipes 34 = .ok (.iload_n 2, 1) := by decide +kernel
theorem dX11_pipes_35 : decode cX11_pipes 35 = .ok (.iconst 1, 1) := by decide +kernel
theorem dX11_pipes_36 : decode cX11_pipes 36 = .ok (.iload 4, 2) := by decide +kernel
theorem dX11_pipes_38 : decode cX11_pipes 38 = .ok (.ishl, 1) := by decide +kernel
theorem dX11_pipes_39 : decode cX11_pipes 39 = .ok (.ior, 1) := by decide +kernel
theorem dX11_pipes_40 : decode cX11_pipes 40 = .ok (.istore_n 2, 1) := by decide +kernel
theorem dX11_pipes_41 : decode cX11_pipes 41 = .ok (.iinc 3 1, 3) := by decide +kernel
theorem dX11_pipes_44 : decode cX11_pipes 44 = .ok (.goto (-38), 3) := by decide +kernel
theorem dX11_pipes_47 : decode cX11_pipes 47 = .ok (.iload_n 1, 1) := by decide +kernel
theorem dX11_pipes_48 : decode cX11_pipes 48 = .ok (.ireturn, 1) := by decide +kernel
theorem dX11_place_0 : decode cX11_place 0 = .ok (.aload_n 0, 1) := by decide +kernel
theorem dX11_place_1 : decode cX11_place 1 = .ok (.getfield 102, 3) := by decide +kernel
theorem dX11_place_4 : decode cX11_place 4 = .ok (.ireturn, 1) := by decide +kernel
theorem dX11_plan_0 : decode cX11_plan 0 = .ok (.iload_n 1, 1) := by decide +kernel
theorem dX11_plan_1 : decode cX11_plan 1 = .ok (.ifCond .lt 18, 3) := by decide +kernel
theorem dX11_plan_4 : decode cX11_plan 4 = .ok (.iload_n 1, 1) := by decide +kernel
theorem dX11_plan_5 : decode cX11_plan 5 = .ok (.bipush 10, 2) := by decide +kernel
theorem dX11_plan_7 : decode cX11_plan 7 = .ok (.if_icmp .gt 12, 3) := by decide +kernel
theorem dX11_plan_10 : decode cX11_plan 10 = .ok (.iload_n 2, 1) := by decide +kernel
theorem dX11_plan_11 : decode cX11_plan 11 = .ok (.ifCond .lt 8, 3) := by decide +kernel
theorem dX11_plan_14 : decode cX11_plan 14 = .ok (.iload_n 2, 1) := by decide +kernel
theorem dX11_plan_15 : decode cX11_plan 15 = .ok (.iconst 2, 1) := by decide +kernel
theorem dX11_plan_16 : decode cX11_plan 16 = .ok (.if_icmp .le 5, 3) := by decide +kernel
theorem dX11_plan_19 : decode cX11_plan 19 = .ok (.iconst (-1), 1) := by decide +kernel
theorem dX11_plan_20 : decode cX11_plan 20 = .ok (.ireturn, 1) := by decide +kernel
theorem dX11_plan_21 : decode cX11_plan 21 = .ok (.aload_n 0, 1) := by decide +kernel
theorem dX11_plan_22 : decode cX11_plan 22 = .ok (.getfield 95, 3) := by decide +kernel
theorem dX11_plan_25 : decode cX11_plan 25 = .ok (.iconst 0, 1) := by decide +kernel
theorem dX11_plan_26 : decode cX11_plan 26 = .ok (.iconst (-1), 1) := by decide +kernel
theorem dX11_plan_27 : decode cX11_plan 27 = .ok (.iastore, 1) := by decide +kernel
theorem dX11_plan_28 : decode cX11_plan 28 = .ok (.aload_n 0, 1) := by decide +kernel
theorem dX11_plan_29 : decode cX11_plan 29 = .ok (.getfield 57, 3) := by decide +kernel
theorem dX11_plan_32 : decode cX11_plan 32 = .ok (.aload_n 0, 1) := by decide +kernel
theorem dX11_plan_33 : decode cX11_plan 33 = .ok (.getfield 23, 3) := by decide +kernel
theorem dX11_plan_36 : decode cX11_plan 36 = .ok (.aload_n 0, 1) := by decide +kernel
theorem dX11_plan_37 : decode cX11_plan 37 = .ok (.getfield 30, 3) := by decide +kernel
theorem dX11_plan_40 : decode cX11_plan 40 = .ok (.iload_n 1, 1) := by decide +kernel
theorem dX11_plan_41 : decode cX11_plan 41 = .ok (.invokevirtual 235, 3) := by decide +kernel
theorem dX11_plan_44 : decode cX11_plan 44 = .ok (.iconst 0, 1) := by decide +kernel
theorem dX11_plan_45 : decode cX11_plan 45 = .ok (.istore_n 3, 1) := by decide +kernel
theorem dX11_plan_46 : decode cX11_plan 46 = .ok (.iload_n 3, 1) := by decide +kernel
theorem dX11_plan_47 : decode cX11_plan 47 = .ok (.iload_n 1, 1) := by decide +kernel
theorem dX11_plan_48 : decode cX11_plan 48 = .ok (.if_icmp .gt 119, 3) := by decide +kernel
theorem dX11_plan_51 : decode cX11_plan 51 = .ok (.aload_n 0, 1) := by decide +kernel
theorem dX11_plan_52 : decode cX11_plan 52 = .ok (.getfield 57, 3) := by decide +kernel
theorem dX11_plan_55 : decode cX11_plan 55 = .ok (.iload_n 3, 1) := by decide +kernel
theorem dX11_plan_56 : decode cX11_plan 56 = .ok (.invokevirtual 242, 3) := by decide +kernel
theorem dX11_plan_59 : decode cX11_plan 59 = .ok (.aload_n 0, 1) := by decide +kernel
theorem dX11_plan_60 : decode cX11_plan 60 = .ok (.getfield 57, 3) := by decide +kernel
theorem dX11_plan_63 : decode cX11_plan 63 = .ok (.aload_n 0, 1) := by decide +kernel
theorem dX11_plan_64 : decode cX11_plan 64 = .ok (.getfield 23, 3) := by decide +kernel
theorem dX11_plan_67 : decode cX11_plan 67 = .ok (.aload_n 0, 1) := by decide +kernel
theorem dX11_plan_68 : decode cX11_plan 68 = .ok (.getfield 30, 3) := by decide +kernel
theorem dX11_plan_71 : decode cX11_plan 71 = .ok (.aload_n 0, 1) := by decide +kernel
theorem dX11_plan_72 : decode cX11_plan 72 = .ok (.getfield 39, 3) := by decide +kernel
theorem dX11_plan_75 : decode cX11_plan 75 = .ok (.invokevirtual 251, 3) := by decide +kernel
theorem dX11_plan_78 : decode cX11_plan 78 = .ok (.aload_n 0, 1) := by decide +kernel
theorem dX11_plan_79 : decode cX11_plan 79 = .ok (.getfield 61, 3) := by decide +kernel
theorem dX11_plan_82 : decode cX11_plan 82 = .ok (.aload_n 0, 1) := by decide +kernel
theorem dX11_plan_83 : decode cX11_plan 83 = .ok (.getfield 23, 3) := by decide +kernel
theorem dX11_plan_86 : decode cX11_plan 86 = .ok (.aload_n 0, 1) := by decide +kernel
theorem dX11_plan_87 : decode cX11_plan 87 = .ok (.getfield 39, 3) := by decide +kernel
theorem dX11_plan_90 : decode cX11_plan 90 = .ok (.iload_n 1, 1) := by decide +kernel
theorem dX11_plan_91 : decode cX11_plan 91 = .ok (.iload_n 3, 1) := by decide +kernel
theorem dX11_plan_92 : decode cX11_plan 92 = .ok (.isub, 1) := by decide +kernel
theorem dX11_plan_93 : decode cX11_plan 93 = .ok (.invokevirtual 235, 3) := by decide +kernel
theorem dX11_plan_96 : decode cX11_plan 96 = .ok (.iconst 0, 1) := by decide +kernel
theorem dX11_plan_97 : decode cX11_plan 97 = .ok (.istore 4, 2) := by decide +kernel
theorem dX11_plan_99 : decode cX11_plan 99 = .ok (.iload 4, 2) := by decide +kernel
theorem dX11_plan_101 : decode cX11_plan 101 = .ok (.iload_n 1, 1) := by decide +kernel
theorem dX11_plan_102 : decode cX11_plan 102 = .ok (.iload_n 3, 1) := by decide +kernel
theorem dX11_plan_103 : decode cX11_plan 103 = .ok (.isub, 1) := by decide +kernel
theorem dX11_plan_104 : decode cX11_plan 104 = .ok (.if_icmp .gt 57, 3) := by decide +kernel
theorem dX11_plan_107 : decode cX11_plan 107 = .ok (.aload_n 0, 1) := by decide +kernel
theorem dX11_plan_108 : decode cX11_plan 108 = .ok (.iload 4, 2) := by decide +kernel
theorem dX11_plan_110 : decode cX11_plan 110 = .ok (.iload_n 1, 1) := by decide +kernel
theorem dX11_plan_111 : decode cX11_plan 111 = .ok (.iload_n 3, 1) := by decide +kernel
theorem dX11_plan_112 : decode cX11_plan 112 = .ok (.isub, 1) := by decide +kernel
theorem dX11_plan_113 : decode cX11_plan 113 = .ok (.iload 4, 2) := by decide +kernel
theorem dX11_plan_115 : decode cX11_plan 115 = .ok (.isub, 1) := by decide +kernel
theorem dX11_plan_116 : decode cX11_plan 116 = .ok (.invokevirtual 255, 3) := by decide +kernel
theorem dX11_plan_119 : decode cX11_plan 119 = .ok (.istore 5, 2) := by decide +kernel
theorem dX11_plan_121 : decode cX11_plan 121 = .ok (.iload 5, 2) := by decide +kernel
theorem dX11_plan_123 : decode cX11_plan 123 = .ok (.aload_n 0, 1) := by decide +kernel
theorem dX11_plan_124 : decode cX11_plan 124 = .ok (.getfield 95, 3) := by decide +kernel
theorem dX11_plan_127 : decode cX11_plan 127 = .ok (.iconst 0, 1) := by decide +kernel
theorem dX11_plan_128 : decode cX11_plan 128 = .ok (.iaload, 1) := by decide +kernel
theorem dX11_plan_129 : decode cX11_plan 129 = .ok (.if_icmp .le 26, 3) := by decide +kernel
theorem dX11_plan_132 : decode cX11_plan 132 = .ok (.aload_n 0, 1) := by decide +kernel
theorem dX11_plan_133 : decode cX11_plan 133 = .ok (.getfield 95, 3) := by decide +kernel
theorem dX11_plan_136 : decode cX11_plan 136 = .ok (.iconst 0, 1) := by decide +kernel
theorem dX11_plan_137 : decode cX11_plan 137 = .ok (.iload 5, 2) := by decide +kernel
theorem dX11_plan_139 : decode cX11_plan 139 = .ok (.iastore, 1) := by decide +kernel
theorem dX11_plan_140 : decode cX11_plan 140 = .ok (.aload_n 0, 1) := by decide +kernel
theorem dX11_plan_141 : decode cX11_plan 141 = .ok (.getfield 95, 3) := by decide +kernel
theorem dX11_plan_144 : decode cX11_plan 144 = .ok (.iconst 1, 1) := by decide +kernel
theorem dX11_plan_145 : decode cX11_plan 145 = .ok (.iload_n 3, 1) := by decide +kernel
theorem dX11_plan_146 : decode cX11_plan 146 = .ok (.iastore, 1) := by decide +kernel
theorem dX11_plan_147 : decode cX11_plan 147 = .ok (.aload_n 0, 1) := by decide +kernel
theorem dX11_plan_148 : decode cX11_plan 148 = .ok (.getfield 95, 3) := by decide +kernel
theorem dX11_plan_151 : decode cX11_plan 151 = .ok (.iconst 2, 1) := by decide +kernel
theorem dX11_plan_152 : decode cX11_plan 152 = .ok (.iload 4, 2) := by decide +kernel
theorem dX11_plan_154 : decode cX11_plan 154 = .ok (.iastore, 1) := by decide +kernel
theorem dX11_plan_155 : decode cX11_plan 155 = .ok (.iinc 4 1, 3) := by decide +kernel
theorem dX11_plan_158 : decode cX11_plan 158 = .ok (.goto (-59), 3) := by decide +kernel
theorem dX11_plan_161 : decode cX11_plan 161 = .ok (.iinc 3 1, 3) := by decide +kernel
theorem dX11_plan_164 : decode cX11_plan 164 = .ok (.goto (-118), 3) := by decide +kernel
theorem dX11_plan_167 : decode cX11_plan 167 = .ok (.aload_n 0, 1) := by decide +kernel
theorem dX11_plan_168 : decode cX11_plan 168 = .ok (.getfield 95, 3) := by decide +kernel
theorem dX11_plan_171 : decode cX11_plan 171 = .ok (.iload_n 2, 1) := by decide +kernel
theorem dX11_plan_172 : decode cX11_plan 172 = .ok (.iaload, 1) := by decide +kernel
theorem dX11_plan_173 : decode cX11_plan 173 = .ok (.ireturn, 1) := by decide +kernel
theorem dX8_isBlank_0 : decode cX8_isBlank 0 = .ok (.iload_n 0, 1) := by decide +kernel
theorem dX8_isBlank_1 : decode cX8_isBlank 1 = .ok (.bipush 9, 2) := by decide +kernel
theorem dX8_isBlank_3 : decode cX8_isBlank 3 = .ok (.if_icmp .eq 21, 3) := by decide +kernel
theorem dX8_isBlank_6 : decode cX8_isBlank 6 = .ok (.iload_n 0, 1) := by decide +kernel
theorem dX8_isBlank_7 : decode cX8_isBlank 7 = .ok (.bipush 10, 2) := by decide +kernel
theorem dX8_isBlank_9 : decode cX8_isBlank 9 = .ok (.if_icmp .eq 15, 3) := by decide +kernel
theorem dX8_isBlank_12 : decode cX8_isBlank 12 = .ok (.iload_n 0, 1) := by decide +kernel
theorem dX8_isBlank_13 : decode cX8_isBlank 13 = .ok (.bipush 13, 2) := by decide +kernel
theorem dX8_isBlank_15 : decode cX8_isBlank 15 = .ok (.if_icmp .eq 9, 3) := by decide +kernel
theorem dX8_isBlank_18 : decode cX8_isBlank 18 = .ok (.iload_n 0, 1) := by decide +kernel
theorem dX8_isBlank_19 : decode cX8_isBlank 19 = .ok (.bipush 32, 2) := by decide +kernel
theorem dX8_isBlank_21 : decode cX8_isBlank 21 = .ok (.if_icmp .ne 7, 3) := by decide +kernel
theorem dX8_isBlank_24 : decode cX8_isBlank 24 = .ok (.iconst 1, 1) := by decide +kernel
theorem dX8_isBlank_25 : decode cX8_isBlank 25 = .ok (.goto 4, 3) := by decide +kernel
theorem dX8_isBlank_28 : decode cX8_isBlank 28 = .ok (.iconst 0, 1) := by decide +kernel
theorem dX8_isBlank_29 : decode cX8_isBlank 29 = .ok (.ireturn, 1) := by decide +kernel
theorem dX8_endOfBlanks_0 : decode cX8_endOfBlanks 0 = .ok (.iload_n 2, 1) := by decide +kernel
theorem dX8_endOfBlanks_1 : decode cX8_endOfBlanks 1 = .ok (.istore_n 3, 1) := by decide +kernel
theorem dX8_endOfBlanks_2 : decode cX8_endOfBlanks 2 = .ok (.iload_n 3, 1) := by decide +kernel
theorem dX8_endOfBlanks_3 : decode cX8_endOfBlanks 3 = .ok (.iload_n 1, 1) := by decide +kernel
theorem dX8_endOfBlanks_4 : decode cX8_endOfBlanks 4 = .ok (.if_icmp .ge 18, 3) := by decide +kernel
theorem dX8_endOfBlanks_7 : decode cX8_endOfBlanks 7 = .ok (.aload_n 0, 1) := by decide +kernel
theorem dX8_endOfBlanks_8 : decode cX8_endOfBlanks 8 = .ok (.iload_n 3, 1) := by decide +kernel
theorem dX8_endOfBlanks_9 : decode cX8_endOfBlanks 9 = .ok (.baload, 1) := by decide +kernel
theorem dX8_endOfBlanks_10 : decode cX8_endOfBlanks 10 = .ok (.invokestatic 54, 3) := by decide +kernel
theorem dX8_endOfBlanks_13 : decode cX8_endOfBlanks 13 = .ok (.ifCond .eq 9, 3) := by decide +kernel
theorem dX8_endOfBlanks_16 : decode cX8_endOfBlanks 16 = .ok (.iinc 3 1, 3) := by decide +kernel
theorem dX8_endOfBlanks_19 : decode cX8_endOfBlanks 19 = .ok (.goto (-17), 3) := by decide +kernel
theorem dX8_endOfBlanks_22 : decode cX8_endOfBlanks 22 = .ok (.iload_n 3, 1) := by decide +kernel
theorem dX8_endOfBlanks_23 : decode cX8_endOfBlanks 23 = .ok (.ireturn, 1) := by decide +kernel
theorem dX8_isLetter_0 : decode cX8_isLetter 0 = .ok (.iload_n 0, 1) := by decide +kernel
theorem dX8_isLetter_1 : decode cX8_isLetter 1 = .ok (.bipush 97, 2) := by decide +kernel
theorem dX8_isLetter_3 : decode cX8_isLetter 3 = .ok (.if_icmp .lt 13, 3) := by decide +kernel
theorem dX8_isLetter_6 : decode cX8_isLetter 6 = .ok (.iload_n 0, 1) := by decide +kernel
theorem dX8_isLetter_7 : decode cX8_isLetter 7 = .ok (.bipush 122, 2) := by decide +kernel
theorem dX8_isLetter_9 : decode cX8_isLetter 9 = .ok (.if_icmp .gt 7, 3) := by decide +kernel
theorem dX8_isLetter_12 : decode cX8_isLetter 12 = .ok (.iconst 1, 1) := by decide +kernel
theorem dX8_isLetter_13 : decode cX8_isLetter 13 = .ok (.goto 4, 3) := by decide +kernel
theorem dX8_isLetter_16 : decode cX8_isLetter 16 = .ok (.iconst 0, 1) := by decide +kernel
theorem dX8_isLetter_17 : decode cX8_isLetter 17 = .ok (.ireturn, 1) := by decide +kernel
theorem dX8_isDigit_0 : decode cX8_isDigit 0 = .ok (.iload_n 0, 1) := by decide +kernel
theorem dX8_isDigit_1 : decode cX8_isDigit 1 = .ok (.bipush 48, 2) := by decide +kernel
theorem dX8_isDigit_3 : decode cX8_isDigit 3 = .ok (.if_icmp .lt 13, 3) := by decide +kernel
theorem dX8_isDigit_6 : decode cX8_isDigit 6 = .ok (.iload_n 0, 1) := by decide +kernel
theorem dX8_isDigit_7 : decode cX8_isDigit 7 = .ok (.bipush 57, 2) := by decide +kernel
theorem dX8_isDigit_9 : decode cX8_isDigit 9 = .ok (.if_icmp .gt 7, 3) := by decide +kernel
theorem dX8_isDigit_12 : decode cX8_isDigit 12 = .ok (.iconst 1, 1) := by decide +kernel
theorem dX8_isDigit_13 : decode cX8_isDigit 13 = .ok (.goto 4, 3) := by decide +kernel
theorem dX8_isDigit_16 : decode cX8_isDigit 16 = .ok (.iconst 0, 1) := by decide +kernel
theorem dX8_isDigit_17 : decode cX8_isDigit 17 = .ok (.ireturn, 1) := by decide +kernel
theorem dX8_endOfRun_0 : decode cX8_endOfRun 0 = .ok (.iload_n 2, 1) := by decide +kernel
theorem dX8_endOfRun_1 : decode cX8_endOfRun 1 = .ok (.iload_n 1, 1) := by decide +kernel
theorem dX8_endOfRun_2 : decode cX8_endOfRun 2 = .ok (.if_icmp .lt 5, 3) := by decide +kernel
theorem dX8_endOfRun_5 : decode cX8_endOfRun 5 = .ok (.iload_n 2, 1) := by decide +kernel
theorem dX8_endOfRun_6 : decode cX8_endOfRun 6 = .ok (.ireturn, 1) := by decide +kernel
theorem dX8_endOfRun_7 : decode cX8_endOfRun 7 = .ok (.iload_n 2, 1) := by decide +kernel
theorem dX8_endOfRun_8 : decode cX8_endOfRun 8 = .ok (.iconst 1, 1) := by decide +kernel
theorem dX8_endOfRun_9 : decode cX8_endOfRun 9 = .ok (.iadd, 1) := by decide +kernel
theorem dX8_endOfRun_10 : decode cX8_endOfRun 10 = .ok (.istore_n 3, 1) := by decide +kernel
theorem dX8_endOfRun_11 : decode cX8_endOfRun 11 = .ok (.aload_n 0, 1) := by decide +kernel
theorem dX8_endOfRun_12 : decode cX8_endOfRun 12 = .ok (.iload_n 2, 1) := by decide +kernel
theorem dX8_endOfRun_13 : decode cX8_endOfRun 13 = .ok (.baload, 1) := by decide +kernel
theorem dX8_endOfRun_14 : decode cX8_endOfRun 14 = .ok (.invokestatic 58, 3) := by decide +kernel
theorem dX8_endOfRun_17 : decode cX8_endOfRun 17 = .ok (.ifCond .eq 23, 3) := by decide +kernel
theorem dX8_endOfRun_20 : decode cX8_endOfRun 20 = .ok (.iload_n 3, 1) := by decide +kernel
theorem dX8_endOfRun_21 : decode cX8_endOfRun 21 = .ok (.iload_n 1, 1) := by decide +kernel
theorem dX8_endOfRun_22 : decode cX8_endOfRun 22 = .ok (.if_icmp .ge 47, 3) := by decide +kernel
theorem dX8_endOfRun_25 : decode cX8_endOfRun 25 = .ok (.aload_n 0, 1) := by decide +kernel
theorem dX8_endOfRun_26 : decode cX8_endOfRun 26 = .ok (.iload_n 3, 1) := by decide +kernel
theorem dX8_endOfRun_27 : decode cX8_endOfRun 27 = .ok (.baload, 1) := by decide +kernel
theorem dX8_endOfRun_28 : decode cX8_endOfRun 28 = .ok (.invokestatic 58, 3) := by decide +kernel
theorem dX8_endOfRun_31 : decode cX8_endOfRun 31 = .ok (.ifCond .eq 38, 3) := by decide +kernel
theorem dX8_endOfRun_34 : decode cX8_endOfRun 34 = .ok (.iinc 3 1, 3) := by decide +kernel
theorem dX8_endOfRun_37 : decode cX8_endOfRun 37 = .ok (.goto (-17), 3) := by decide +kernel
theorem dX8_endOfRun_40 : decode cX8_endOfRun 40 = .ok (.aload_n 0, 1) := by decide +kernel
theorem dX8_endOfRun_41 : decode cX8_endOfRun 41 = .ok (.iload_n 2, 1) := by decide +kernel
theorem dX8_endOfRun_42 : decode cX8_endOfRun 42 = .ok (.baload, 1) := by decide +kernel
theorem dX8_endOfRun_43 : decode cX8_endOfRun 43 = .ok (.invokestatic 61, 3) := by decide +kernel
theorem dX8_endOfRun_46 : decode cX8_endOfRun 46 = .ok (.ifCond .eq 23, 3) := by decide +kernel
theorem dX8_endOfRun_49 : decode cX8_endOfRun 49 = .ok (.iload_n 3, 1) := by decide +kernel
theorem dX8_endOfRun_50 : decode cX8_endOfRun 50 = .ok (.iload_n 1, 1) := by decide +kernel
theorem dX8_endOfRun_51 : decode cX8_endOfRun 51 = .ok (.if_icmp .ge 18, 3) := by decide +kernel
theorem dX8_endOfRun_54 : decode cX8_endOfRun 54 = .ok (.aload_n 0, 1) := by decide +kernel
theorem dX8_endOfRun_55 : decode cX8_endOfRun 55 = .ok (.iload_n 3, 1) := by decide +kernel
theorem dX8_endOfRun_56 : decode cX8_endOfRun 56 = .ok (.baload, 1) := by decide +kernel
theorem dX8_endOfRun_57 : decode cX8_endOfRun 57 = .ok (.invokestatic 61, 3) := by decide +kernel
theorem dX8_endOfRun_60 : decode cX8_endOfRun 60 = .ok (.ifCond .eq 9, 3) := by decide +kernel
theorem dX8_endOfRun_63 : decode cX8_endOfRun 63 = .ok (.iinc 3 1, 3) := by decide +kernel
theorem dX8_endOfRun_66 : decode cX8_endOfRun 66 = .ok (.goto (-17), 3) := by decide +kernel
theorem dX8_endOfRun_69 : decode cX8_endOfRun 69 = .ok (.iload_n 3, 1) := by decide +kernel
theorem dX8_endOfRun_70 : decode cX8_endOfRun 70 = .ok (.ireturn, 1) := by decide +kernel
theorem dX8_nameOf_0 : decode cX8_nameOf 0 = .ok (.lconst 0, 1) := by decide +kernel
theorem dX8_nameOf_1 : decode cX8_nameOf 1 = .ok (.lstore_n 3, 1) := by decide +kernel
theorem dX8_nameOf_2 : decode cX8_nameOf 2 = .ok (.iload_n 1, 1) := by decide +kernel
theorem dX8_nameOf_3 : decode cX8_nameOf 3 = .ok (.istore 5, 2) := by decide +kernel
theorem dX8_nameOf_5 : decode cX8_nameOf 5 = .ok (.iload 5, 2) := by decide +kernel
theorem dX8_nameOf_7 : decode cX8_nameOf 7 = .ok (.iload_n 2, 1) := by decide +kernel
theorem dX8_nameOf_8 : decode cX8_nameOf 8 = .ok (.if_icmp .ge 26, 3) := by decide +kernel
theorem dX8_nameOf_11 : decode cX8_nameOf 11 = .ok (.lload_n 3, 1) := by decide +kernel
theorem dX8_nameOf_12 : decode cX8_nameOf 12 = .ok (.ldc2_w 27, 3) := by decide +kernel
theorem dX8_nameOf_15 : decode cX8_nameOf 15 = .ok (.lmul, 1) := by decide +kernel
theorem dX8_nameOf_16 : decode cX8_nameOf 16 = .ok (.aload_n 0, 1) := by decide +kernel
theorem dX8_nameOf_17 : decode cX8_nameOf 17 = .ok (.iload 5, 2) := by decide +kernel
theorem dX8_nameOf_19 : decode cX8_nameOf 19 = .ok (.baload, 1) := by decide +kernel
theorem dX8_nameOf_20 : decode cX8_nameOf 20 = .ok (.bipush 97, 2) := by decide +kernel
theorem dX8_nameOf_22 : decode cX8_nameOf 22 = .ok (.isub, 1) := by decide +kernel
theorem dX8_nameOf_23 : decode cX8_nameOf 23 = .ok (.iconst 1, 1) := by decide +kernel
theorem dX8_nameOf_24 : decode cX8_nameOf 24 = .ok (.iadd, 1) := by decide +kernel
theorem dX8_nameOf_25 : decode cX8_nameOf 25 = .ok (.i2l, 1) := by decide +kernel
theorem dX8_nameOf_26 : decode cX8_nameOf 26 = .ok (.ladd, 1) := by decide +kernel
theorem dX8_nameOf_27 : decode cX8_nameOf 27 = .ok (.lstore_n 3, 1) := by decide +kernel
theorem dX8_nameOf_28 : decode cX8_nameOf 28 = .ok (.iinc 5 1, 3) := by decide +kernel
theorem dX8_nameOf_31 : decode cX8_nameOf 31 = .ok (.goto (-26), 3) := by decide +kernel
theorem dX8_nameOf_34 : decode cX8_nameOf 34 = .ok (.lload_n 3, 1) := by decide +kernel
theorem dX8_nameOf_35 : decode cX8_nameOf 35 = .ok (.lreturn, 1) := by decide +kernel
theorem dX8_kindOfName_0 : decode cX8_kindOfName 0 = .ok (.iconst 0, 1) := by decide +kernel
theorem dX8_kindOfName_1 : decode cX8_kindOfName 1 = .ok (.istore_n 3, 1) := by decide +kernel
theorem dX8_kindOfName_2 : decode cX8_kindOfName 2 = .ok (.iload_n 3, 1) := by decide +kernel
theorem dX8_kindOfName_3 : decode cX8_kindOfName 3 = .ok (.bipush 21, 2) := by decide +kernel
theorem dX8_kindOfName_5 : decode cX8_kindOfName 5 = .ok (.if_icmp .ge 22, 3) := by decide +kernel
theorem dX8_kindOfName_8 : decode cX8_kindOfName 8 = .ok (.aload_n 0, 1) := by decide +kernel
theorem dX8_kindOfName_9 : decode cX8_kindOfName 9 = .ok (.getfield 11, 3) := by decide +kernel
theorem dX8_kindOfName_12 : decode cX8_kindOfName 12 = .ok (.iload_n 3, 1) := by decide +kernel
theorem dX8_kindOfName_13 : decode cX8_kindOfName 13 = .ok (.laload, 1) := by decide +kernel
theorem dX8_kindOfName_14 : decode cX8_kindOfName 14 = .ok (.lload_n 1, 1) := by decide +kernel
theorem dX8_kindOfName_15 : decode cX8_kindOfName 15 = .ok (.lcmp, 1) := by decide +kernel
theorem dX8_kindOfName_16 : decode cX8_kindOfName 16 = .ok (.ifCond .ne 5, 3) := by decide +kernel
theorem dX8_kindOfName_19 : decode cX8_kindOfName 19 = .ok (.iload_n 3, 1) := by decide +kernel
theorem dX8_kindOfName_20 : decode cX8_kindOfName 20 = .ok (.ireturn, 1) := by decide +kernel
theorem dX8_kindOfName_21 : decode cX8_kindOfName 21 = .ok (.iinc 3 1, 3) := by decide +kernel
theorem dX8_kindOfName_24 : decode cX8_kindOfName 24 = .ok (.goto (-22), 3) := by decide +kernel
theorem dX8_kindOfName_27 : decode cX8_kindOfName 27 = .ok (.bipush 21, 2) := by decide +kernel
theorem dX8_kindOfName_29 : decode cX8_kindOfName 29 = .ok (.ireturn, 1) := by decide +kernel
theorem dX8_numberOf_0 : decode cX8_numberOf 0 = .ok (.lconst 0, 1) := by decide +kernel
theorem dX8_numberOf_1 : decode cX8_numberOf 1 = .ok (.lstore_n 3, 1) := by decide +kernel
theorem dX8_numberOf_2 : decode cX8_numberOf 2 = .ok (.iload_n 1, 1) := by decide +kernel
theorem dX8_numberOf_3 : decode cX8_numberOf 3 = .ok (.istore 5, 2) := by decide +kernel
theorem dX8_numberOf_5 : decode cX8_numberOf 5 = .ok (.iload 5, 2) := by decide +kernel
theorem dX8_numberOf_7 : decode cX8_numberOf 7 = .ok (.iload_n 2, 1) := by decide +kernel
theorem dX8_numberOf_8 : decode cX8_numberOf 8 = .ok (.if_icmp .ge 24, 3) := by decide +kernel
theorem dX8_numberOf_11 : decode cX8_numberOf 11 = .ok (.lload_n 3, 1) := by decide +kernel
theorem dX8_numberOf_12 : decode cX8_numberOf 12 = .ok (.ldc2_w 81, 3) := by decide +kernel
theorem dX8_numberOf_15 : decode cX8_numberOf 15 = .ok (.lmul, 1) := by decide +kernel
theorem dX8_numberOf_16 : decode cX8_numberOf 16 = .ok (.aload_n 0, 1) := by decide +kernel
theorem dX8_numberOf_17 : decode cX8_numberOf 17 = .ok (.iload 5, 2) := by decide +kernel
theorem dX8_numberOf_19 : decode cX8_numberOf 19 = .ok (.baload, 1) := by decide +kernel
theorem dX8_numberOf_20 : decode cX8_numberOf 20 = .ok (.bipush 48, 2) := by decide +kernel
theorem dX8_numberOf_22 : decode cX8_numberOf 22 = .ok (.isub, 1) := by decide +kernel
theorem dX8_numberOf_23 : decode cX8_numberOf 23 = .ok (.i2l, 1) := by decide +kernel
theorem dX8_numberOf_24 : decode cX8_numberOf 24 = .ok (.ladd, 1) := by decide +kernel
theorem dX8_numberOf_25 : decode cX8_numberOf 25 = .ok (.lstore_n 3, 1) := by decide +kernel
theorem dX8_numberOf_26 : decode cX8_numberOf 26 = .ok (.iinc 5 1, 3) := by decide +kernel
theorem dX8_numberOf_29 : decode cX8_numberOf 29 = .ok (.goto (-24), 3) := by decide +kernel
theorem dX8_numberOf_32 : decode cX8_numberOf 32 = .ok (.lload_n 3, 1) := by decide +kernel
theorem dX8_numberOf_33 : decode cX8_numberOf 33 = .ok (.lreturn, 1) := by decide +kernel
theorem dX8_putToken_0 : decode cX8_putToken 0 = .ok (.aload_n 0, 1) := by decide +kernel
theorem dX8_putToken_1 : decode cX8_putToken 1 = .ok (.getfield 36, 3) := by decide +kernel
theorem dX8_putToken_4 : decode cX8_putToken 4 = .ok (.aload_n 0, 1) := by decide +kernel
theorem dX8_putToken_5 : decode cX8_putToken 5 = .ok (.getfield 39, 3) := by decide +kernel
theorem dX8_putToken_8 : decode cX8_putToken 8 = .ok (.iload_n 2, 1) := by decide +kernel
theorem dX8_putToken_9 : decode cX8_putToken 9 = .ok (.iastore, 1) := by decide +kernel
theorem dX8_putToken_10 : decode cX8_putToken 10 = .ok (.aload_n 0, 1) := by decide +kernel
theorem dX8_putToken_11 : decode cX8_putToken 11 = .ok (.getfield 33, 3) := by decide +kernel
theorem dX8_putToken_14 : decode cX8_putToken 14 = .ok (.aload_n 0, 1) := by decide +kernel
theorem dX8_putToken_15 : decode cX8_putToken 15 = .ok (.getfield 39, 3) := by decide +kernel
theorem dX8_putToken_18 : decode cX8_putToken 18 = .ok (.lconst 0, 1) := by decide +kernel
theorem dX8_putToken_19 : decode cX8_putToken 19 = .ok (.lastore, 1) := by decide +kernel
theorem dX8_putToken_20 : decode cX8_putToken 20 = .ok (.iload_n 2, 1) := by decide +kernel
theorem dX8_putToken_21 : decode cX8_putToken 21 = .ok (.iload_n 3, 1) := by decide +kernel
theorem dX8_putToken_22 : decode cX8_putToken 22 = .ok (.if_icmp .ne 17, 3) := by decide +kernel
theorem dX8_putToken_25 : decode cX8_putToken 25 = .ok (.aload_n 0, 1) := by decide +kernel
theorem dX8_putToken_26 : decode cX8_putToken 26 = .ok (.getfield 29, 3) := by decide +kernel
theorem dX8_putToken_29 : decode cX8_putToken 29 = .ok (.aload_n 0, 1) := by decide +kernel
theorem dX8_putToken_30 : decode cX8_putToken 30 = .ok (.getfield 39, 3) := by decide +kernel
theorem dX8_putToken_33 : decode cX8_putToken 33 = .ok (.bipush 23, 2) := by decide +kernel
theorem dX8_putToken_35 : decode cX8_putToken 35 = .ok (.iastore, 1) := by decide +kernel
theorem dX8_putToken_36 : decode cX8_putToken 36 = .ok (.goto 148, 3) := by decide +kernel
theorem dX8_putToken_39 : decode cX8_putToken 39 = .ok (.aload_n 1, 1) := by decide +kernel
theorem dX8_putToken_40 : decode cX8_putToken 40 = .ok (.iload_n 2, 1) := by decide +kernel
theorem dX8_putToken_41 : decode cX8_putToken 41 = .ok (.baload, 1) := by decide +kernel
theorem dX8_putToken_42 : decode cX8_putToken 42 = .ok (.invokestatic 58, 3) := by decide +kernel
theorem dX8_putToken_45 : decode cX8_putToken 45 = .ok (.ifCond .eq 56, 3) := by decide +kernel
theorem dX8_putToken_48 : decode cX8_putToken 48 = .ok (.aload_n 0, 1) := by decide +kernel
theorem dX8_putToken_49 : decode cX8_putToken 49 = .ok (.getfield 33, 3) := by decide +kernel
theorem dX8_putToken_52 : decode cX8_putToken 52 = .ok (.aload_n 0, 1) := by decide +kernel
theorem dX8_putToken_53 : decode cX8_putToken 53 = .ok (.getfield 39, 3) := by decide +kernel
theorem dX8_putToken_56 : decode cX8_putToken 56 = .ok (.aload_n 1, 1) := by decide +kernel
theorem dX8_putToken_57 : decode cX8_putToken 57 = .ok (.iload_n 2, 1) := by decide +kernel
theorem dX8_putToken_58 : decode cX8_putToken 58 = .ok (.iload_n 3, 1) := by decide +kernel
theorem dX8_putToken_59 : decode cX8_putToken 59 = .ok (.invokestatic 64, 3) := by decide +kernel
theorem dX8_putToken_62 : decode cX8_putToken 62 = .ok (.lastore, 1) := by decide +kernel
theorem dX8_putToken_63 : decode cX8_putToken 63 = .ok (.aload_n 0, 1) := by decide +kernel
theorem dX8_putToken_64 : decode cX8_putToken 64 = .ok (.getfield 29, 3) := by decide +kernel
theorem dX8_putToken_67 : decode cX8_putToken 67 = .ok (.aload_n 0, 1) := by decide +kernel
theorem dX8_putToken_68 : decode cX8_putToken 68 = .ok (.getfield 39, 3) := by decide +kernel
theorem dX8_putToken_71 : decode cX8_putToken 71 = .ok (.iload_n 3, 1) := by decide +kernel
theorem dX8_putToken_72 : decode cX8_putToken 72 = .ok (.iload_n 2, 1) := by decide +kernel
theorem dX8_putToken_73 : decode cX8_putToken 73 = .ok (.isub, 1) := by decide +kernel
theorem dX8_putToken_74 : decode cX8_putToken 74 = .ok (.bipush 8, 2) := by decide +kernel
theorem dX8_putToken_76 : decode cX8_putToken 76 = .ok (.if_icmp .le 8, 3) := by decide +kernel
theorem dX8_putToken_79 : decode cX8_putToken 79 = .ok (.bipush 24, 2) := by decide +kernel
theorem dX8_putToken_81 : decode cX8_putToken 81 = .ok (.goto 16, 3) := by decide +kernel
theorem dX8_putToken_84 : decode cX8_putToken 84 = .ok (.aload_n 0, 1) := by decide +kernel
theorem dX8_putToken_85 : decode cX8_putToken 85 = .ok (.aload_n 0, 1) := by decide +kernel
theorem dX8_putToken_86 : decode cX8_putToken 86 = .ok (.getfield 33, 3) := by decide +kernel
theorem dX8_putToken_89 : decode cX8_putToken 89 = .ok (.aload_n 0, 1) := by decide +kernel
theorem dX8_putToken_90 : decode cX8_putToken 90 = .ok (.getfield 39, 3) := by decide +kernel
theorem dX8_putToken_93 : decode cX8_putToken 93 = .ok (.laload, 1) := by decide +kernel
theorem dX8_putToken_94 : decode cX8_putToken 94 = .ok (.invokevirtual 68, 3) := by decide +kernel
theorem dX8_putToken_97 : decode cX8_putToken 97 = .ok (.iastore, 1) := by decide +kernel
theorem dX8_putToken_98 : decode cX8_putToken 98 = .ok (.goto 86, 3) := by decide +kernel
theorem dX8_putToken_101 : decode cX8_putToken 101 = .ok (.aload_n 1, 1) := by decide +kernel
theorem dX8_putToken_102 : decode cX8_putToken 102 = .ok (.iload_n 2, 1) := by decide +kernel
theorem dX8_putToken_103 : decode cX8_putToken 103 = .ok (.baload, 1) := by decide +kernel
theorem dX8_putToken_104 : decode cX8_putToken 104 = .ok (.invokestatic 61, 3) := by decide +kernel
theorem dX8_putToken_107 : decode cX8_putToken 107 = .ok (.ifCond .eq 44, 3) := by decide +kernel
theorem dX8_putToken_110 : decode cX8_putToken 110 = .ok (.aload_n 0, 1) := by decide +kernel
theorem dX8_putToken_111 : decode cX8_putToken 111 = .ok (.getfield 33, 3) := by decide +kernel
theorem dX8_putToken_114 : decode cX8_putToken 114 = .ok (.aload_n 0, 1) := by decide +kernel
theorem dX8_putToken_115 : decode cX8_putToken 115 = .ok (.getfield 39, 3) := by decide +kernel
theorem dX8_putToken_118 : decode cX8_putToken 118 = .ok (.aload_n 1, 1) := by decide +kernel
theorem dX8_putToken_119 : decode cX8_putToken 119 = .ok (.iload_n 2, 1) := by decide +kernel
theorem dX8_putToken_120 : decode cX8_putToken 120 = .ok (.iload_n 3, 1) := by decide +kernel
theorem dX8_putToken_121 : decode cX8_putToken 121 = .ok (.invokestatic 72, 3) := by decide +kernel
theorem dX8_putToken_124 : decode cX8_putToken 124 = .ok (.lastore, 1) := by decide +kernel
theorem dX8_putToken_125 : decode cX8_putToken 125 = .ok (.aload_n 0, 1) := by decide +kernel
theorem dX8_putToken_126 : decode cX8_putToken 126 = .ok (.getfield 29, 3) := by decide +kernel
theorem dX8_putToken_129 : decode cX8_putToken 129 = .ok (.aload_n 0, 1) := by decide +kernel
theorem dX8_putToken_130 : decode cX8_putToken 130 = .ok (.getfield 39, 3) := by decide +kernel
theorem dX8_putToken_133 : decode cX8_putToken 133 = .ok (.iload_n 3, 1) := by decide +kernel
theorem dX8_putToken_134 : decode cX8_putToken 134 = .ok (.iload_n 2, 1) := by decide +kernel
theorem dX8_putToken_135 : decode cX8_putToken 135 = .ok (.isub, 1) := by decide +kernel
theorem dX8_putToken_136 : decode cX8_putToken 136 = .ok (.iconst 4, 1) := by decide +kernel
theorem dX8_putToken_137 : decode cX8_putToken 137 = .ok (.if_icmp .le 8, 3) := by decide +kernel
theorem dX8_putToken_140 : decode cX8_putToken 140 = .ok (.bipush 24, 2) := by decide +kernel
theorem dX8_putToken_142 : decode cX8_putToken 142 = .ok (.goto 5, 3) := by decide +kernel
theorem dX8_putToken_145 : decode cX8_putToken 145 = .ok (.bipush 22, 2) := by decide +kernel
theorem dX8_putToken_147 : decode cX8_putToken 147 = .ok (.iastore, 1) := by decide +kernel
theorem dX8_putToken_148 : decode cX8_putToken 148 = .ok (.goto 36, 3) := by decide +kernel
theorem dX8_putToken_151 : decode cX8_putToken 151 = .ok (.aload_n 0, 1) := by decide +kernel
theorem dX8_putToken_152 : decode cX8_putToken 152 = .ok (.getfield 29, 3) := by decide +kernel
theorem dX8_putToken_155 : decode cX8_putToken 155 = .ok (.aload_n 0, 1) := by decide +kernel
theorem dX8_putToken_156 : decode cX8_putToken 156 = .ok (.getfield 39, 3) := by decide +kernel
theorem dX8_putToken_159 : decode cX8_putToken 159 = .ok (.ldc 75, 2) := by decide +kernel
theorem dX8_putToken_161 : decode cX8_putToken 161 = .ok (.aload_n 1, 1) := by decide +kernel
theorem dX8_putToken_162 : decode cX8_putToken 162 = .ok (.iload_n 2, 1) := by decide +kernel
theorem dX8_putToken_163 : decode cX8_putToken 163 = .ok (.baload, 1) := by decide +kernel
theorem dX8_putToken_164 : decode cX8_putToken 164 = .ok (.sipush 255, 3) := by decide +kernel
theorem dX8_putToken_167 : decode cX8_putToken 167 = .ok (.iand, 1) := by decide +kernel
theorem dX8_putToken_168 : decode cX8_putToken 168 = .ok (.i2c, 1) := by decide +kernel
theorem dX8_putToken_169 : decode cX8_putToken 169 = .ok (.invokevirtual 77, 3) := by decide +kernel
theorem dX8_putToken_172 : decode cX8_putToken 172 = .ok (.ifCond .lt 9, 3) := by decide +kernel
theorem dX8_putToken_175 : decode cX8_putToken 175 = .ok (.aload_n 1, 1) := by decide +kernel
theorem dX8_putToken_176 : decode cX8_putToken 176 = .ok (.iload_n 2, 1) := by decide +kernel
theorem dX8_putToken_177 : decode cX8_putToken 177 = .ok (.baload, 1) := by decide +kernel
theorem dX8_putToken_178 : decode cX8_putToken 178 = .ok (.goto 5, 3) := by decide +kernel
theorem dX8_putToken_181 : decode cX8_putToken 181 = .ok (.bipush 24, 2) := by decide +kernel
theorem dX8_putToken_183 : decode cX8_putToken 183 = .ok (.iastore, 1) := by decide +kernel
theorem dX8_putToken_184 : decode cX8_putToken 184 = .ok (.aload_n 0, 1) := by decide +kernel
theorem dX8_putToken_185 : decode cX8_putToken 185 = .ok (.dup, 1) := by decide +kernel
theorem dX8_putToken_186 : decode cX8_putToken 186 = .ok (.getfield 39, 3) := by decide +kernel
theorem dX8_putToken_189 : decode cX8_putToken 189 = .ok (.iconst 1, 1) := by decide +kernel
theorem dX8_putToken_190 : decode cX8_putToken 190 = .ok (.iadd, 1) := by decide +kernel
theorem dX8_putToken_191 : decode cX8_putToken 191 = .ok (.putfield 39, 3) := by decide +kernel
theorem dX8_putToken_194 : decode cX8_putToken 194 = .ok (.return_, 1) := by decide +kernel
theorem dX8_split_0 : decode cX8_split 0 = .ok (.aload_n 0, 1) := by decide +kernel
theorem dX8_split_1 : decode cX8_split 1 = .ok (.iconst 0, 1) := by decide +kernel
theorem dX8_split_2 : decode cX8_split 2 = .ok (.putfield 39, 3) := by decide +kernel
theorem dX8_split_5 : decode cX8_split 5 = .ok (.iconst 0, 1) := by decide +kernel
theorem dX8_split_6 : decode cX8_split 6 = .ok (.istore_n 3, 1) := by decide +kernel
theorem dX8_split_7 : decode cX8_split 7 = .ok (.iconst 0, 1) := by decide +kernel
theorem dX8_split_8 : decode cX8_split 8 = .ok (.istore 4, 2) := by decide +kernel
theorem dX8_split_10 : decode cX8_split 10 = .ok (.iload 4, 2) := by decide +kernel
theorem dX8_split_12 : decode cX8_split 12 = .ok (.sipush 400, 3) := by decide +kernel
theorem dX8_split_15 : decode cX8_split 15 = .ok (.if_icmp .gt 60, 3) := by decide +kernel
theorem dX8_split_18 : decode cX8_split 18 = .ok (.aload_n 1, 1) := by decide +kernel
theorem dX8_split_19 : decode cX8_split 19 = .ok (.iload_n 2, 1) := by decide +kernel
theorem dX8_split_20 : decode cX8_split 20 = .ok (.iload_n 3, 1) := by decide +kernel
theorem dX8_split_21 : decode cX8_split 21 = .ok (.invokestatic 43, 3) := by decide +kernel
theorem dX8_split_24 : decode cX8_split 24 = .ok (.istore_n 3, 1) := by decide +kernel
theorem dX8_split_25 : decode cX8_split 25 = .ok (.aload_n 1, 1) := by decide +kernel
theorem dX8_split_26 : decode cX8_split 26 = .ok (.iload_n 2, 1) := by decide +kernel
theorem dX8_split_27 : decode cX8_split 27 = .ok (.iload_n 3, 1) := by decide +kernel
theorem dX8_split_28 : decode cX8_split 28 = .ok (.invokestatic 47, 3) := by decide +kernel
theorem dX8_split_31 : decode cX8_split 31 = .ok (.istore 5, 2) := by decide +kernel
theorem dX8_split_33 : decode cX8_split 33 = .ok (.aload_n 0, 1) := by decide +kernel
theorem dX8_split_34 : decode cX8_split 34 = .ok (.aload_n 1, 1) := by decide +kernel
theorem dX8_split_35 : decode cX8_split 35 = .ok (.iload_n 3, 1) := by decide +kernel
theorem dX8_split_36 : decode cX8_split 36 = .ok (.iload 5, 2) := by decide +kernel
theorem dX8_split_38 : decode cX8_split 38 = .ok (.invokevirtual 50, 3) := by decide +kernel
theorem dX8_split_41 : decode cX8_split 41 = .ok (.aload_n 0, 1) := by decide +kernel
theorem dX8_split_42 : decode cX8_split 42 = .ok (.getfield 29, 3) := by decide +kernel
theorem dX8_split_45 : decode cX8_split 45 = .ok (.iload 4, 2) := by decide +kernel
theorem dX8_split_47 : decode cX8_split 47 = .ok (.iaload, 1) := by decide +kernel
theorem dX8_split_48 : decode cX8_split 48 = .ok (.bipush 23, 2) := by decide +kernel
theorem dX8_split_50 : decode cX8_split 50 = .ok (.if_icmp .eq 15, 3) := by decide +kernel
theorem dX8_split_53 : decode cX8_split 53 = .ok (.aload_n 0, 1) := by decide +kernel
theorem dX8_split_54 : decode cX8_split 54 = .ok (.getfield 29, 3) := by decide +kernel
theorem dX8_split_57 : decode cX8_split 57 = .ok (.iload 4, 2) := by decide +kernel
theorem dX8_split_59 : decode cX8_split 59 = .ok (.iaload, 1) := by decide +kernel
theorem dX8_split_60 : decode cX8_split 60 = .ok (.bipush 24, 2) := by decide +kernel
theorem dX8_split_62 : decode cX8_split 62 = .ok (.if_icmp .ne 4, 3) := by decide +kernel
theorem dX8_split_65 : decode cX8_split 65 = .ok (.return_, 1) := by decide +kernel
theorem dX8_split_66 : decode cX8_split 66 = .ok (.iload 5, 2) := by decide +kernel
theorem dX8_split_68 : decode cX8_split 68 = .ok (.istore_n 3, 1) := by decide +kernel
theorem dX8_split_69 : decode cX8_split 69 = .ok (.iinc 4 1, 3) := by decide +kernel
theorem dX8_split_72 : decode cX8_split 72 = .ok (.goto (-62), 3) := by decide +kernel
theorem dX8_split_75 : decode cX8_split 75 = .ok (.return_, 1) := by decide +kernel
theorem dX1_begin_0 : decode cX1_begin 0 = .ok (.iload_n 1, 1) := by decide +kernel
theorem dX1_begin_1 : decode cX1_begin 1 = .ok (.ifCond .lt 18, 3) := by decide +kernel
theorem dX1_begin_4 : decode cX1_begin 4 = .ok (.iload_n 1, 1) := by decide +kernel
theorem dX1_begin_5 : decode cX1_begin 5 = .ok (.iconst 4, 1) := by decide +kernel
theorem dX1_begin_6 : decode cX1_begin 6 = .ok (.if_icmp .ge 13, 3) := by decide +kernel
theorem dX1_begin_9 : decode cX1_begin 9 = .ok (.aload_n 0, 1) := by decide +kernel
theorem dX1_begin_10 : decode cX1_begin 10 = .ok (.getfield 18, 3) := by decide +kernel
theorem dX1_begin_13 : decode cX1_begin 13 = .ok (.iload_n 1, 1) := by decide +kernel
theorem dX1_begin_14 : decode cX1_begin 14 = .ok (.aload_n 0, 1) := by decide +kernel
theorem dX1_begin_15 : decode cX1_begin 15 = .ok (.getfield 27, 3) := by decide +kernel
theorem dX1_begin_18 : decode cX1_begin 18 = .ok (.iastore, 1) := by decide +kernel
theorem dX1_begin_19 : decode cX1_begin 19 = .ok (.return_, 1) := by decide +kernel
theorem dX1_append_0 : decode cX1_append 0 = .ok (.aload_n 0, 1) := by decide +kernel
theorem dX1_append_1 : decode cX1_append 1 = .ok (.getfield 27, 3) := by decide +kernel
theorem dX1_append_4 : decode cX1_append 4 = .ok (.sipush 416, 3) := by decide +kernel
theorem dX1_append_7 : decode cX1_append 7 = .ok (.if_icmp .ge 33, 3) := by decide +kernel
theorem dX1_append_10 : decode cX1_append 10 = .ok (.aload_n 0, 1) := by decide +kernel
theorem dX1_append_11 : decode cX1_append 11 = .ok (.getfield 11, 3) := by decide +kernel
theorem dX1_append_14 : decode cX1_append 14 = .ok (.aload_n 0, 1) := by decide +kernel
theorem dX1_append_15 : decode cX1_append 15 = .ok (.getfield 27, 3) := by decide +kernel
theorem dX1_append_18 : decode cX1_append 18 = .ok (.iload_n 1, 1) := by decide +kernel
theorem dX1_append_19 : decode cX1_append 19 = .ok (.iastore, 1) := by decide +kernel
theorem dX1_append_20 : decode cX1_append 20 = .ok (.aload_n 0, 1) := by decide +kernel
theorem dX1_append_21 : decode cX1_append 21 = .ok (.getfield 15, 3) := by decide +kernel
theorem dX1_append_24 : decode cX1_append 24 = .ok (.aload_n 0, 1) := by decide +kernel
theorem dX1_append_25 : decode cX1_append 25 = .ok (.getfield 27, 3) := by decide +kernel
theorem dX1_append_28 : decode cX1_append 28 = .ok (.iload_n 2, 1) := by decide +kernel
theorem dX1_append_29 : decode cX1_append 29 = .ok (.iastore, 1) := by decide +kernel
theorem dX1_append_30 : decode cX1_append 30 = .ok (.aload_n 0, 1) := by decide +kernel
theorem dX1_append_31 : decode cX1_append 31 = .ok (.dup, 1) := by decide +kernel
theorem dX1_append_32 : decode cX1_append 32 = .ok (.getfield 27, 3) := by decide +kernel
theorem dX1_append_35 : decode cX1_append 35 = .ok (.iconst 1, 1) := by decide +kernel
theorem dX1_append_36 : decode cX1_append 36 = .ok (.iadd, 1) := by decide +kernel
theorem dX1_append_37 : decode cX1_append 37 = .ok (.putfield 27, 3) := by decide +kernel
theorem dX1_append_40 : decode cX1_append 40 = .ok (.return_, 1) := by decide +kernel
theorem dX1_setUntold_0 : decode cX1_setUntold 0 = .ok (.aload_n 0, 1) := by decide +kernel
theorem dX1_setUntold_1 : decode cX1_setUntold 1 = .ok (.iconst 0, 1) := by decide +kernel
theorem dX1_setUntold_2 : decode cX1_setUntold 2 = .ok (.putfield 27, 3) := by decide +kernel
theorem dX1_setUntold_5 : decode cX1_setUntold 5 = .ok (.aload_n 0, 1) := by decide +kernel
theorem dX1_setUntold_6 : decode cX1_setUntold 6 = .ok (.iconst 0, 1) := by decide +kernel
theorem dX1_setUntold_7 : decode cX1_setUntold 7 = .ok (.invokevirtual 31, 3) := by decide +kernel
theorem dX1_setUntold_10 : decode cX1_setUntold 10 = .ok (.aload_n 0, 1) := by decide +kernel
theorem dX1_setUntold_11 : decode cX1_setUntold 11 = .ok (.iconst 1, 1) := by decide +kernel
theorem dX1_setUntold_12 : decode cX1_setUntold 12 = .ok (.iconst 0, 1) := by decide +kernel
theorem dX1_setUntold_13 : decode cX1_setUntold 13 = .ok (.invokevirtual 37, 3) := by decide +kernel
theorem dX1_setUntold_16 : decode cX1_setUntold 16 = .ok (.aload_n 0, 1) := by decide +kernel
theorem dX1_setUntold_17 : decode cX1_setUntold 17 = .ok (.bipush 9, 2) := by decide +kernel
theorem dX1_setUntold_19 : decode cX1_setUntold 19 = .ok (.iconst 1, 1) := by decide +kernel
theorem dX1_setUntold_20 : decode cX1_setUntold 20 = .ok (.invokevirtual 37, 3) := by decide +kernel
theorem dX1_setUntold_23 : decode cX1_setUntold 23 = .ok (.aload_n 0, 1) := by decide +kernel
theorem dX1_setUntold_24 : decode cX1_setUntold 24 = .ok (.bipush 10, 2) := by decide +kernel
theorem dX1_setUntold_26 : decode cX1_setUntold 26 = .ok (.iconst 0, 1) := by decide +kernel
theorem dX1_setUntold_27 : decode cX1_setUntold 27 = .ok (.invokevirtual 37, 3) := by decide +kernel
theorem dX1_setUntold_30 : decode cX1_setUntold 30 = .ok (.aload_n 0, 1) := by decide +kernel
theorem dX1_setUntold_31 : decode cX1_setUntold 31 = .ok (.bipush 15, 2) := by decide +kernel
theorem dX1_setUntold_33 : decode cX1_setUntold 33 = .ok (.iconst 0, 1) := by decide +kernel
theorem dX1_setUntold_34 : decode cX1_setUntold 34 = .ok (.invokevirtual 37, 3) := by decide +kernel
theorem dX1_setUntold_37 : decode cX1_setUntold 37 = .ok (.aload_n 0, 1) := by decide +kernel
theorem dX1_setUntold_38 : decode cX1_setUntold 38 = .ok (.iconst 1, 1) := by decide +kernel
theorem dX1_setUntold_39 : decode cX1_setUntold 39 = .ok (.invokevirtual 31, 3) := by decide +kernel
theorem dX1_setUntold_42 : decode cX1_setUntold 42 = .ok (.aload_n 0, 1) := by decide +kernel
theorem dX1_setUntold_43 : decode cX1_setUntold 43 = .ok (.bipush 9, 2) := by decide +kernel
theorem dX1_setUntold_45 : decode cX1_setUntold 45 = .ok (.iconst 5, 1) := by decide +kernel
theorem dX1_setUntold_46 : decode cX1_setUntold 46 = .ok (.invokevirtual 37, 3) := by decide +kernel
theorem dX1_setUntold_49 : decode cX1_setUntold 49 = .ok (.aload_n 0, 1) := by decide +kernel
theorem dX1_setUntold_50 : decode cX1_setUntold 50 = .ok (.bipush 15, 2) := by decide +kernel
theorem dX1_setUntold_52 : decode cX1_setUntold 52 = .ok (.iconst 0, 1) := by decide +kernel
theorem dX1_setUntold_53 : decode cX1_setUntold 53 = .ok (.invokevirtual 37, 3) := by decide +kernel
theorem dX1_setUntold_56 : decode cX1_setUntold 56 = .ok (.aload_n 0, 1) := by decide +kernel
theorem dX1_setUntold_57 : decode cX1_setUntold 57 = .ok (.iconst 2, 1) := by decide +kernel
theorem dX1_setUntold_58 : decode cX1_setUntold 58 = .ok (.invokevirtual 31, 3) := by decide +kernel
theorem dX1_setUntold_61 : decode cX1_setUntold 61 = .ok (.aload_n 0, 1) := by decide +kernel
theorem dX1_setUntold_62 : decode cX1_setUntold 62 = .ok (.bipush 9, 2) := by decide +kernel
theorem dX1_setUntold_64 : decode cX1_setUntold 64 = .ok (.iconst 1, 1) := by decide +kernel
theorem dX1_setUntold_65 : decode cX1_setUntold 65 = .ok (.invokevirtual 37, 3) := by decide +kernel
theorem dX1_setUntold_68 : decode cX1_setUntold 68 = .ok (.aload_n 0, 1) := by decide +kernel
theorem dX1_setUntold_69 : decode cX1_setUntold 69 = .ok (.bipush 15, 2) := by decide +kernel
theorem dX1_setUntold_71 : decode cX1_setUntold 71 = .ok (.iconst 0, 1) := by decide +kernel
theorem dX1_setUntold_72 : decode cX1_setUntold 72 = .ok (.invokevirtual 37, 3) := by decide +kernel
theorem dX1_setUntold_75 : decode cX1_setUntold 75 = .ok (.aload_n 0, 1) := by decide +kernel
theorem dX1_setUntold_76 : decode cX1_setUntold 76 = .ok (.iconst 3, 1) := by decide +kernel
theorem dX1_setUntold_77 : decode cX1_setUntold 77 = .ok (.invokevirtual 31, 3) := by decide +kernel
theorem dX1_setUntold_80 : decode cX1_setUntold 80 = .ok (.aload_n 0, 1) := by decide +kernel
theorem dX1_setUntold_81 : decode cX1_setUntold 81 = .ok (.bipush 9, 2) := by decide +kernel
theorem dX1_setUntold_83 : decode cX1_setUntold 83 = .ok (.iconst 1, 1) := by decide +kernel
theorem dX1_setUntold_84 : decode cX1_setUntold 84 = .ok (.invokevirtual 37, 3) := by decide +kernel
theorem dX1_setUntold_87 : decode cX1_setUntold 87 = .ok (.aload_n 0, 1) := by decide +kernel
theorem dX1_setUntold_88 : decode cX1_setUntold 88 = .ok (.bipush 15, 2) := by decide +kernel
theorem dX1_setUntold_90 : decode cX1_setUntold 90 = .ok (.iconst 0, 1) := by decide +kernel
theorem dX1_setUntold_91 : decode cX1_setUntold 91 = .ok (.invokevirtual 37, 3) := by decide +kernel
theorem dX1_setUntold_94 : decode cX1_setUntold 94 = .ok (.return_, 1) := by decide +kernel
theorem dX3_setUntold_0 : decode cX3_setUntold 0 = .ok (.aload_n 0, 1) := by decide +kernel
theorem dX3_setUntold_1 : decode cX3_setUntold 1 = .ok (.getfield 18, 3) := by decide +kernel
theorem dX3_setUntold_4 : decode cX3_setUntold 4 = .ok (.invokevirtual 25, 3) := by decide +kernel
theorem dX3_setUntold_7 : decode cX3_setUntold 7 = .ok (.aload_n 0, 1) := by decide +kernel
theorem dX3_setUntold_8 : decode cX3_setUntold 8 = .ok (.iconst 0, 1) := by decide +kernel
theorem dX3_setUntold_9 : decode cX3_setUntold 9 = .ok (.putfield 26, 3) := by decide +kernel
theorem dX3_setUntold_12 : decode cX3_setUntold 12 = .ok (.aload_n 0, 1) := by decide +kernel
theorem dX3_setUntold_13 : decode cX3_setUntold 13 = .ok (.bipush 20, 2) := by decide +kernel
theorem dX3_setUntold_15 : decode cX3_setUntold 15 = .ok (.putfield 30, 3) := by decide +kernel
theorem dX3_setUntold_18 : decode cX3_setUntold 18 = .ok (.aload_n 0, 1) := by decide +kernel
theorem dX3_setUntold_19 : decode cX3_setUntold 19 = .ok (.bipush 20, 2) := by decide +kernel
theorem dX3_setUntold_21 : decode cX3_setUntold 21 = .ok (.putfield 33, 3) := by decide +kernel
theorem dX3_setUntold_24 : decode cX3_setUntold 24 = .ok (.aload_n 0, 1) := by decide +kernel
theorem dX3_setUntold_25 : decode cX3_setUntold 25 = .ok (.iconst 0, 1) := by decide +kernel
theorem dX3_setUntold_26 : decode cX3_setUntold 26 = .ok (.putfield 36, 3) := by decide +kernel
theorem dX3_setUntold_29 : decode cX3_setUntold 29 = .ok (.aload_n 0, 1) := by decide +kernel
theorem dX3_setUntold_30 : decode cX3_setUntold 30 = .ok (.iconst 0, 1) := by decide +kernel
theorem dX3_setUntold_31 : decode cX3_setUntold 31 = .ok (.putfield 39, 3) := by decide +kernel
theorem dX3_setUntold_34 : decode cX3_setUntold 34 = .ok (.return_, 1) := by decide +kernel
theorem dX4_refuse_0 : decode cX4_refuse 0 = .ok (.aload_n 0, 1) := by decide +kernel
theorem dX4_refuse_1 : decode cX4_refuse 1 = .ok (.iload_n 1, 1) := by decide +kernel
theorem dX4_refuse_2 : decode cX4_refuse 2 = .ok (.putfield 40, 3) := by decide +kernel
theorem dX4_refuse_5 : decode cX4_refuse 5 = .ok (.aload_n 0, 1) := by decide +kernel
theorem dX4_refuse_6 : decode cX4_refuse 6 = .ok (.aload_n 0, 1) := by decide +kernel
theorem dX4_refuse_7 : decode cX4_refuse 7 = .ok (.getfield 12, 3) := by decide +kernel
theorem dX4_refuse_10 : decode cX4_refuse 10 = .ok (.getfield 138, 3) := by decide +kernel
theorem dX4_refuse_13 : decode cX4_refuse 13 = .ok (.aload_n 0, 1) := by decide +kernel
theorem dX4_refuse_14 : decode cX4_refuse 14 = .ok (.getfield 36, 3) := by decide +kernel
theorem dX4_refuse_17 : decode cX4_refuse 17 = .ok (.iaload, 1) := by decide +kernel
theorem dX4_refuse_18 : decode cX4_refuse 18 = .ok (.putfield 43, 3) := by decide +kernel
theorem dX4_refuse_21 : decode cX4_refuse 21 = .ok (.iconst 0, 1) := by decide +kernel
theorem dX4_refuse_22 : decode cX4_refuse 22 = .ok (.ireturn, 1) := by decide +kernel
theorem dX4_take_0 : decode cX4_take 0 = .ok (.aload_n 0, 1) := by decide +kernel
theorem dX4_take_1 : decode cX4_take 1 = .ok (.getfield 12, 3) := by decide +kernel
theorem dX4_take_4 : decode cX4_take 4 = .ok (.getfield 46, 3) := by decide +kernel
theorem dX4_take_7 : decode cX4_take 7 = .ok (.aload_n 0, 1) := by decide +kernel
theorem dX4_take_8 : decode cX4_take 8 = .ok (.getfield 36, 3) := by decide +kernel
theorem dX4_take_11 : decode cX4_take 11 = .ok (.iaload, 1) := by decide +kernel
theorem dX4_take_12 : decode cX4_take 12 = .ok (.iload_n 1, 1) := by decide +kernel
theorem dX4_take_13 : decode cX4_take 13 = .ok (.if_icmp .ne 25, 3) := by decide +kernel
theorem dX4_take_16 : decode cX4_take 16 = .ok (.aload_n 0, 1) := by decide +kernel
theorem dX4_take_17 : decode cX4_take 17 = .ok (.getfield 36, 3) := by decide +kernel
theorem dX4_take_20 : decode cX4_take 20 = .ok (.sipush 400, 3) := by decide +kernel
theorem dX4_take_23 : decode cX4_take 23 = .ok (.if_icmp .ge 15, 3) := by decide +kernel
theorem dX4_take_26 : decode cX4_take 26 = .ok (.aload_n 0, 1) := by decide +kernel
theorem dX4_take_27 : decode cX4_take 27 = .ok (.dup, 1) := by decide +kernel
theorem dX4_take_28 : decode cX4_take 28 = .ok (.getfield 36, 3) := by decide +kernel
theorem dX4_take_31 : decode cX4_take 31 = .ok (.iconst 1, 1) := by decide +kernel
theorem dX4_take_32 : decode cX4_take 32 = .ok (.iadd, 1) := by decide +kernel
theorem dX4_take_33 : decode cX4_take 33 = .ok (.putfield 36, 3) := by decide +kernel
theorem dX4_take_36 : decode cX4_take 36 = .ok (.iconst 1, 1) := by decide +kernel
theorem dX4_take_37 : decode cX4_take 37 = .ok (.ireturn, 1) := by decide +kernel
theorem dX4_take_38 : decode cX4_take 38 = .ok (.aload_n 0, 1) := by decide +kernel
theorem dX4_take_39 : decode cX4_take 39 = .ok (.aload_n 0, 1) := by decide +kernel
theorem dX4_take_40 : decode cX4_take 40 = .ok (.getfield 12, 3) := by decide +kernel
theorem dX4_take_43 : decode cX4_take 43 = .ok (.getfield 46, 3) := by decide +kernel
theorem dX4_take_46 : decode cX4_take 46 = .ok (.aload_n 0, 1) := by decide +kernel
theorem dX4_take_47 : decode cX4_take 47 = .ok (.getfield 36, 3) := by decide +kernel
theorem dX4_take_50 : decode cX4_take 50 = .ok (.iaload, 1) := by decide +kernel
theorem dX4_take_51 : decode cX4_take 51 = .ok (.iload_n 1, 1) := by decide +kernel
theorem dX4_take_52 : decode cX4_take 52 = .ok (.if_icmp .ne 7, 3) := by decide +kernel
theorem dX4_take_55 : decode cX4_take 55 = .ok (.iconst 2, 1) := by decide +kernel
theorem dX4_take_56 : decode cX4_take 56 = .ok (.goto 4, 3) := by decide +kernel
theorem dX4_take_59 : decode cX4_take 59 = .ok (.iconst 1, 1) := by decide +kernel
theorem dX4_take_60 : decode cX4_take 60 = .ok (.putfield 40, 3) := by decide +kernel
theorem dX4_take_63 : decode cX4_take 63 = .ok (.aload_n 0, 1) := by decide +kernel
theorem dX4_take_64 : decode cX4_take 64 = .ok (.aload_n 0, 1) := by decide +kernel
theorem dX4_take_65 : decode cX4_take 65 = .ok (.getfield 12, 3) := by decide +kernel
theorem dX4_take_68 : decode cX4_take 68 = .ok (.getfield 138, 3) := by decide +kernel
theorem dX4_take_71 : decode cX4_take 71 = .ok (.aload_n 0, 1) := by decide +kernel
theorem dX4_take_72 : decode cX4_take 72 = .ok (.getfield 36, 3) := by decide +kernel
theorem dX4_take_75 : decode cX4_take 75 = .ok (.iaload, 1) := by decide +kernel
theorem dX4_take_76 : decode cX4_take 76 = .ok (.putfield 43, 3) := by decide +kernel
theorem dX4_take_79 : decode cX4_take 79 = .ok (.iconst 0, 1) := by decide +kernel
theorem dX4_take_80 : decode cX4_take 80 = .ok (.ireturn, 1) := by decide +kernel
section WK4
variable {p : Program} {l : Launch} {e : Env} {s : State} {m : MethodId} {args : Array Value} {below : List Frame} {meth : Method} {c : Code} {ω : WW}

set_option maxHeartbeats 4000000 in
set_option maxRecDepth 100000 in
theorem wX11_pipes_s6 (hW : FWC ω) (C : Cx ω p s m args c cX11_pipes 5 RX11) (hr : meth.sig.returnType = some .int) (hk : meth.locks = false) {rr : Int32} {μ : Mem} {x1 : Int32} {x2 : Int32} {x3 : Int32} {rec : Int32 → Int32 → Int32 → Option Int32} (hrec : ∀ (z1 : Int32) (z2 : Int32) (z3 : Int32) (H : Heap) (locs : List Loc) (ls : Array Slot), Hd ω μ H → FS ω s H locs → lv_has ls 5 [(0, .ref (wB ω + 1)), (1, .int z1), (2, .int z2), (3, .int z3)] → rec z1 z2 z3 = some rr → W p l e (rmd 6) s m args below meth c H locs 0 0 (MQ below (QR ω (some (.int rr)) μ) args s 0 0 (wA ω)) (F0 m 6 ls [])) {H : Heap} {locs : List Loc} {ls : Array Slot} (hH : Hd ω μ H) (hS : FS ω s H locs) (hl : lv_has ls 5 [(0, .ref (wB ω + 1)), (1, .int x1), (2, .int x2), (3, .int x3)]) (h : fX11_pipes_s6 rec x1 x2 x3 μ = some rr) : W p l e (rmd 6) s m args below meth c H locs 0 0 (MQ below (QR ω (some (.int rr)) μ) args s 0 0 (wA ω)) (F0 m 6 ls []) := by
  have hx := C.1
  have hb := C.2.1
  unfold fX11_pipes_s6 at h
  refine lv_iload_n hx hb dX11_pipes_6 rfl (lv_at hl 3 rfl) ?_
  refine lv_aload_n hx hb dX11_pipes_7 rfl (lv_at hl 0 rfl) ?_
  refine g_476 (i := 17) C hH (jC_1 hW) rfl dX11_pipes_8 ?_
  refine g_265 C hH (jC_17 hW) dX11_pipes_11 ?_
  refine lv_icmp_ge (tgt := 47) hx hb dX11_pipes_14 (by decide) (fun hc => ?_) (fun hc => ?_)
  · have h := ite_t hc h
    refine lv_iload_n hx hb dX11_pipes_47 rfl (lv_at hl 1 rfl) ?_
    exact h_iret C hr hk hH hS rfl (by cases h; rfl) dX11_pipes_48
  · have h := ite_f hc h
    refine lv_aload_n hx hb dX11_pipes_17 rfl (lv_at hl 0 rfl) ?_
    refine lv_iload_n hx hb dX11_pipes_18 rfl (lv_at hl 2 rfl) ?_
    obtain ⟨r2, e1, h⟩ := b1_e h
    refine cVi (as := [.int x2]) (rest := []) (c_X11_nearestToJoined hW e1) C hl.1 hH hS rfl (jC_1 hW) rfl wd_25 wd_1061 mw_X11_nearestToJoined wd_1059 rfl (rm_ok (by decide) (by decide)) (Nat.le_of_ble_eq_true rfl) ⟨Nat.zero_le _, Nat.zero_le _⟩ (by decide) dX11_pipes_19 (fun H locs hH hS => ?_)
    refine lv_istore (lv' := [(4, .int r2), (0, .ref (wB ω + 1)), (1, .int x1), (2, .int x2), (3, .int x3)]) hx hb dX11_pipes_22 hl (by decide) rfl (fun ls hl => ?_)
    refine lv_iload_n hx hb dX11_pipes_24 rfl (lv_at hl 2 rfl) ?_
    refine lv_aload_n hx hb dX11_pipes_25 rfl (lv_at hl 1 rfl) ?_
    refine lv_iload hx hb dX11_pipes_26 (lv_at hl 0 rfl) ?_
    refine lv_iload_n hx hb dX11_pipes_28 rfl (lv_at hl 3 rfl) ?_
    obtain ⟨r4, e3, h⟩ := b1_e h
    refine cVi (as := [.int r2, .int x2]) (rest := [.int x1]) (c_X11_distanceToJoined hW e3) C hl.1 hH hS rfl (jC_1 hW) rfl wd_26 wd_1066 mw_X11_distanceToJoined wd_1064 rfl (rm_ok (by decide) (by decide)) (Nat.le_of_ble_eq_true rfl) ⟨Nat.zero_le _, Nat.zero_le _⟩ (by decide) dX11_pipes_29 (fun H locs hH hS => ?_)
    refine lv_iadd hx hb dX11_pipes_32 ?_
    obtain ⟨y5, e6, h⟩ := bd_e h
    refine h_topi e6 ?_
    refine lv_istore_n (lv' := [(1, .int y5), (4, .int r2), (0, .ref (wB ω + 1)), (2, .int x2), (3, .int x3)]) hx hb dX11_pipes_33 rfl hl (by decide) rfl (fun ls hl => ?_)
    refine lv_iload_n hx hb dX11_pipes_34 rfl (lv_at hl 3 rfl) ?_
    refine lv_iconst (v := 1) hx hb dX11_pipes_35 (by decide) ?_
    refine lv_iload hx hb dX11_pipes_36 (lv_at hl 1 rfl) ?_
    refine lv_ishl hx hb dX11_pipes_38 ?_
    refine lv_ior hx hb dX11_pipes_39 ?_
    obtain ⟨y7, e8, h⟩ := bd_e h
    refine h_topi e8 ?_
    refine lv_istore_n (lv' := [(2, .int y7), (1, .int y5), (4, .int r2), (0, .ref (wB ω + 1)), (3, .int x3)]) hx hb dX11_pipes_40 rfl hl (by decide) rfl (fun ls hl => ?_)
    refine lv_iinc (v := x3 + 1) (lv' := [(3, .int (x3 + 1)), (2, .int y7), (1, .int y5), (4, .int r2), (0, .ref (wB ω + 1))]) hx hb dX11_pipes_41 hl (k := 4) rfl rfl (by decide) rfl (fun ls hl => ?_)
    refine lv_goto (tgt := 6) hx hb dX11_pipes_44 (by decide) ?_
    exact hrec _ _ _ H locs ls hH hS (lv_sub hl [4, 2, 1, 0] rfl) h
theorem wX11_pipes_l6 (hW : FWC ω) (C : Cx ω p s m args c cX11_pipes 5 RX11) (hr : meth.sig.returnType = some .int) (hk : meth.locks = false) {rr : Int32} {μ : Mem} : ∀ (n : Nat) (x1 : Int32) (x2 : Int32) (x3 : Int32) (H : Heap) (locs : List Loc) (ls : Array Slot), Hd ω μ H → FS ω s H locs → lv_has ls 5 [(0, .ref (wB ω + 1)), (1, .int x1), (2, .int x2), (3, .int x3)] → fX11_pipes_l6 μ n x1 x2 x3 = some rr → W p l e (rmd 6) s m args below meth c H locs 0 0 (MQ below (QR ω (some (.int rr)) μ) args s 0 0 (wA ω)) (F0 m 6 ls []) := by
  intro n
  induction n with
  | zero => intro x1 x2 x3 H locs ls hH hS hl h; cases h
  | succ n ih => intro x1 x2 x3 H locs ls hH hS hl h; exact wX11_pipes_s6 hW C hr hk ih hH hS hl h
set_option maxHeartbeats 4000000 in
set_option maxRecDepth 100000 in
theorem wX11_pipes_e (hW : FWC ω) (C : Cx ω p s m args c cX11_pipes 5 RX11) (hr : meth.sig.returnType = some .int) (hk : meth.locks = false) {rr : Int32} {μ : Mem} {H : Heap} {locs : List Loc} {ls : Array Slot} (hH : Hd ω μ H) (hS : FS ω s H locs) (hl : lv_has ls 5 [(0, .ref (wB ω + 1))]) (h : fX11_pipes μ = some rr) : W p l e (rmd 6) s m args below meth c H locs 0 0 (MQ below (QR ω (some (.int rr)) μ) args s 0 0 (wA ω)) (F0 m 0 ls []) := by
  have hx := C.1
  have hb := C.2.1
  unfold fX11_pipes at h
  refine lv_iconst (v := 0) hx hb dX11_pipes_0 (by decide) ?_
  refine lv_istore_n (lv' := [(1, .int 0), (0, .ref (wB ω + 1))]) hx hb dX11_pipes_1 rfl hl (by decide) rfl (fun ls hl => ?_)
  refine lv_iconst (v := 1) hx hb dX11_pipes_2 (by decide) ?_
  refine lv_istore_n (lv' := [(2, .int 1), (1, .int 0), (0, .ref (wB ω + 1))]) hx hb dX11_pipes_3 rfl hl (by decide) rfl (fun ls hl => ?_)
  refine lv_iconst (v := 1) hx hb dX11_pipes_4 (by decide) ?_
  refine lv_istore_n (lv' := [(3, .int 1), (2, .int 1), (1, .int 0), (0, .ref (wB ω + 1))]) hx hb dX11_pipes_5 rfl hl (by decide) rfl (fun ls hl => ?_)
  exact wX11_pipes_l6 hW C hr hk FU _ _ _ H locs ls hH hS (lv_sub hl [3, 2, 1, 0] rfl) h
theorem c_X11_pipes {l : Launch} {ω : WW} (hW : FWC ω) {μ : Mem} {rr : Int32} (h : fX11_pipes μ = some rr) : Con l yX11_pipes cX11_pipes 5 (some .int) 6 ω [.ref (wB ω + 1)] μ (some (.int rr)) μ :=
  con_of (by decide) (Nat.le_of_ble_eq_true rfl) (fun p e s m args below meth c ls C hr hk hl hH hS => wX11_pipes_e hW C hr hk hH hS (lv_sub hl [0] rfl) h)
set_option maxHeartbeats 4000000 in
set_option maxRecDepth 100000 in
theorem wX11_place_e (hW : FWC ω) (C : Cx ω p s m args c cX11_place 1 RX11) (hr : meth.sig.returnType = some .int) (hk : meth.locks = false) {rr : Int32} {μ : Mem} {H : Heap} {locs : List Loc} {ls : Array Slot} (hH : Hd ω μ H) (hS : FS ω s H locs) (hl : lv_has ls 1 [(0, .ref (wB ω + 1))]) (h : fX11_place μ = some rr) : W p l e (rmd 1) s m args below meth c H locs 0 0 (MQ below (QR ω (some (.int rr)) μ) args s 0 0 (wA ω)) (F0 m 0 ls []) := by
  have hx := C.1
  have hb := C.2.1
  unfold fX11_place at h
  refine lv_aload_n hx hb dX11_place_0 rfl (lv_at hl 0 rfl) ?_
  refine g_490 C hH (jC_1 hW) dX11_place_1 ?_
  exact h_iret C hr hk hH hS rfl (by cases h; rfl) dX11_place_4
theorem c_X11_place {l : Launch} {ω : WW} (hW : FWC ω) {μ : Mem} {rr : Int32} (h : fX11_place μ = some rr) : Con l yX11_place cX11_place 1 (some .int) 1 ω [.ref (wB ω + 1)] μ (some (.int rr)) μ :=
  con_of (by decide) (Nat.le_of_ble_eq_true rfl) (fun p e s m args below meth c ls C hr hk hl hH hS => wX11_place_e hW C hr hk hH hS (lv_sub hl [0] rfl) h)
set_option maxHeartbeats 4000000 in
set_option maxRecDepth 100000 in
theorem wX11_plan_s99 (hW : FWC ω) (C : Cx ω p s m args c cX11_plan 6 RX11) (hr : meth.sig.returnType = some .int) (hk : meth.locks = false) {rr : Int32} {μo : Mem} {x1 : Int32} {x2 : Int32} {x3 : Int32} {x4 : Int32} {rec : Int32 → Mem → Option (Int32 × Mem)} (hrec : ∀ (z4 : Int32) (ν : Mem) (H : Heap) (locs : List Loc) (ls : Array Slot), Hd ω ν H → FS ω s H locs → lv_has ls 6 [(0, .ref (wB ω + 1)), (1, .int x1), (2, .int x2), (3, .int x3), (4, .int z4)] → rec z4 ν = some (rr, μo) → W p l e (rmd 8) s m args below meth c H locs 0 0 (MQ below (QR ω (some (.int rr)) μo) args s 0 0 (wA ω)) (F0 m 99 ls [])) {K : Mem → Option (Int32 × Mem)} (hK : ∀ (ν : Mem) (H : Heap) (locs : List Loc) (ls : Array Slot), Hd ω ν H → FS ω s H locs → lv_has ls 6 [(0, .ref (wB ω + 1)), (1, .int x1), (2, .int x2), (3, .int x3)] → K ν = some (rr, μo) → W p l e (rmd 8) s m args below meth c H locs 0 0 (MQ below (QR ω (some (.int rr)) μo) args s 0 0 (wA ω)) (F0 m 161 ls [])) {μ : Mem} {H : Heap} {locs : List Loc} {ls : Array Slot} (hH : Hd ω μ H) (hS : FS ω s H locs) (hl : lv_has ls 6 [(0, .ref (wB ω + 1)), (1, .int x1), (2, .int x2), (3, .int x3), (4, .int x4)]) (h : fX11_plan_s99 rec K x1 x3 x4 μ = some (rr, μo)) : W p l e (rmd 8) s m args below meth c H locs 0 0 (MQ below (QR ω (some (.int rr)) μo) args s 0 0 (wA ω)) (F0 m 99 ls []) := by
  have hx := C.1
  have hb := C.2.1
  unfold fX11_plan_s99 at h
  refine lv_iload hx hb dX11_plan_99 (lv_at hl 4 rfl) ?_
  refine lv_iload_n hx hb dX11_plan_101 rfl (lv_at hl 1 rfl) ?_
  refine lv_iload_n hx hb dX11_plan_102 rfl (lv_at hl 3 rfl) ?_
  refine lv_isub hx hb dX11_plan_103 ?_
  refine lv_icmp_gt (tgt := 161) hx hb dX11_plan_104 (by decide) (fun hc => ?_) (fun hc => ?_)
  · have h := ite_t hc h
    exact hK _ H locs ls hH hS (lv_sub hl [0, 1, 2, 3] rfl) h
  · have h := ite_f hc h
    refine lv_aload_n hx hb dX11_plan_107 rfl (lv_at hl 0 rfl) ?_
    refine lv_iload hx hb dX11_plan_108 (lv_at hl 4 rfl) ?_
    refine lv_iload_n hx hb dX11_plan_110 rfl (lv_at hl 1 rfl) ?_
    refine lv_iload_n hx hb dX11_plan_111 rfl (lv_at hl 3 rfl) ?_
    refine lv_isub hx hb dX11_plan_112 ?_
    refine lv_iload hx hb dX11_plan_113 (lv_at hl 4 rfl) ?_
    refine lv_isub hx hb dX11_plan_115 ?_
    obtain ⟨r14, μ13, e12, h⟩ := b2_e h
    refine cVi (as := [.int x4, .int ((x1 - x3) - x4)]) (rest := []) (c_X11_keptByPlan hW e12) C hl.1 hH hS rfl (jC_1 hW) rfl wd_20 wd_967 mw_X11_keptByPlan wd_965 rfl (rm_ok (by decide) (by decide)) (Nat.le_of_ble_eq_true rfl) ⟨Nat.zero_le _, Nat.zero_le _⟩ (by decide) dX11_plan_116 (fun H locs hH hS => ?_)
    refine lv_istore (lv' := [(5, .int r14), (0, .ref (wB ω + 1)), (1, .int x1), (2, .int x2), (3, .int x3), (4, .int x4)]) hx hb dX11_plan_119 hl (by decide) rfl (fun ls hl => ?_)
    refine lv_iload hx hb dX11_plan_121 (lv_at hl 0 rfl) ?_
    refine lv_aload_n hx hb dX11_plan_123 rfl (lv_at hl 1 rfl) ?_
    refine g_488 (i := 190) C hH (jC_1 hW) rfl dX11_plan_124 ?_
    refine lv_iconst (v := 0) hx hb dX11_plan_127 (by decide) ?_
    refine h_iald C hH (jC_190 hW).1 (jC_190 hW).2.1 (by decide) dX11_plan_128 ?_
    refine h_topi (y := μ13.1 190 0) rfl ?_
    refine lv_icmp_le (tgt := 155) hx hb dX11_plan_129 (by decide) (fun hc => ?_) (fun hc => ?_)
    · have h := ite_t hc h
      refine lv_iinc (v := x4 + 1) (lv' := [(4, .int (x4 + 1)), (5, .int r14), (0, .ref (wB ω + 1)), (1, .int x1), (2, .int x2), (3, .int x3)]) hx hb dX11_plan_155 hl (k := 5) rfl rfl (by decide) rfl (fun ls hl => ?_)
      refine lv_goto (tgt := 99) hx hb dX11_plan_158 (by decide) ?_
      exact hrec _ _ H locs ls hH hS (lv_sub hl [2, 3, 4, 5, 0] rfl) h
    · have h := ite_f hc h
      refine lv_aload_n hx hb dX11_plan_132 rfl (lv_at hl 1 rfl) ?_
      refine g_488 (i := 190) C hH (jC_1 hW) rfl dX11_plan_133 ?_
      refine lv_iconst (v := 0) hx hb dX11_plan_136 (by decide) ?_
      refine lv_iload hx hb dX11_plan_137 (lv_at hl 0 rfl) ?_
      obtain ⟨μ15, e16, h⟩ := bd_e h
      refine h_iast C hH hS (jC_190 hW).1 (jC_190 hW).2.1 (by decide) dX11_plan_139 (fun H locs hH hS => ?_)
      have hH := Hd.to e16 hH
      refine lv_aload_n hx hb dX11_plan_140 rfl (lv_at hl 1 rfl) ?_
      refine g_488 (i := 190) C hH (jC_1 hW) rfl dX11_plan_141 ?_
      refine lv_iconst (v := 1) hx hb dX11_plan_144 (by decide) ?_
      refine lv_iload_n hx hb dX11_plan_145 rfl (lv_at hl 4 rfl) ?_
      obtain ⟨μ17, e18, h⟩ := bd_e h
      refine h_iast C hH hS (jC_190 hW).1 (jC_190 hW).2.1 (by decide) dX11_plan_146 (fun H locs hH hS => ?_)
      have hH := Hd.to e18 hH
      refine lv_aload_n hx hb dX11_plan_147 rfl (lv_at hl 1 rfl) ?_
      refine g_488 (i := 190) C hH (jC_1 hW) rfl dX11_plan_148 ?_
      refine lv_iconst (v := 2) hx hb dX11_plan_151 (by decide) ?_
      refine lv_iload hx hb dX11_plan_152 (lv_at hl 5 rfl) ?_
      obtain ⟨μ19, e20, h⟩ := bd_e h
      refine h_iast C hH hS (jC_190 hW).1 (jC_190 hW).2.1 (by decide) dX11_plan_154 (fun H locs hH hS => ?_)
      have hH := Hd.to e20 hH
      refine lv_iinc (v := x4 + 1) (lv' := [(4, .int (x4 + 1)), (5, .int r14), (0, .ref (wB ω + 1)), (1, .int x1), (2, .int x2), (3, .int x3)]) hx hb dX11_plan_155 hl (k := 5) rfl rfl (by decide) rfl (fun ls hl => ?_)
      refine lv_goto (tgt := 99) hx hb dX11_plan_158 (by decide) ?_
      exact hrec _ _ H locs ls hH hS (lv_sub hl [2, 3, 4, 5, 0] rfl) h
theorem wX11_plan_l99 (hW : FWC ω) (C : Cx ω p s m args c cX11_plan 6 RX11) (hr : meth.sig.returnType = some .int) (hk : meth.locks = false) {rr : Int32} {μo : Mem} {x1 : Int32} {x3 : Int32} {x2 : Int32} {K : Mem → Option (Int32 × Mem)} (hK : ∀ (ν : Mem) (H : Heap) (locs : List Loc) (ls : Array Slot), Hd ω ν H → FS ω s H locs → lv_has ls 6 [(0, .ref (wB ω + 1)), (1, .int x1), (2, .int x2), (3, .int x3)] → K ν = some (rr, μo) → W p l e (rmd 8) s m args below meth c H locs 0 0 (MQ below (QR ω (some (.int rr)) μo) args s 0 0 (wA ω)) (F0 m 161 ls [])) : ∀ (n : Nat) (x4 : Int32) (μ : Mem) (H : Heap) (locs : List Loc) (ls : Array Slot), Hd ω μ H → FS ω s H locs → lv_has ls 6 [(0, .ref (wB ω + 1)), (1, .int x1), (2, .int x2), (3, .int x3), (4, .int x4)] → fX11_plan_l99 K x1 x3 n x4 μ = some (rr, μo) → W p l e (rmd 8) s m args below meth c H locs 0 0 (MQ below (QR ω (some (.int rr)) μo) args s 0 0 (wA ω)) (F0 m 99 ls []) := by
  intro n
  induction n with
  | zero => intro x4 μ H locs ls hH hS hl h; cases h
  | succ n ih => intro x4 μ H locs ls hH hS hl h; exact wX11_plan_s99 hW C hr hk ih hK hH hS hl h
set_option maxHeartbeats 4000000 in
set_option maxRecDepth 100000 in
theorem wX11_plan_s46 (hW : FWC ω) (C : Cx ω p s m args c cX11_plan 6 RX11) (hr : meth.sig.returnType = some .int) (hk : meth.locks = false) {rr : Int32} {μo : Mem} {x1 : Int32} {x2 : Int32} {x3 : Int32} {rec : Int32 → Mem → Option (Int32 × Mem)} (hrec : ∀ (z3 : Int32) (ν : Mem) (H : Heap) (locs : List Loc) (ls : Array Slot), Hd ω ν H → FS ω s H locs → lv_has ls 6 [(0, .ref (wB ω + 1)), (1, .int x1), (2, .int x2), (3, .int z3)] → rec z3 ν = some (rr, μo) → W p l e (rmd 8) s m args below meth c H locs 0 0 (MQ below (QR ω (some (.int rr)) μo) args s 0 0 (wA ω)) (F0 m 46 ls [])) {μ : Mem} {H : Heap} {locs : List Loc} {ls : Array Slot} (hH : Hd ω μ H) (hS : FS ω s H locs) (hl : lv_has ls 6 [(0, .ref (wB ω + 1)), (1, .int x1), (2, .int x2), (3, .int x3)]) (h : fX11_plan_s46 rec x1 x2 x3 μ = some (rr, μo)) : W p l e (rmd 8) s m args below meth c H locs 0 0 (MQ below (QR ω (some (.int rr)) μo) args s 0 0 (wA ω)) (F0 m 46 ls []) := by
  have hx := C.1
  have hb := C.2.1
  unfold fX11_plan_s46 at h
  refine lv_iload_n hx hb dX11_plan_46 rfl (lv_at hl 3 rfl) ?_
  refine lv_iload_n hx hb dX11_plan_47 rfl (lv_at hl 1 rfl) ?_
  refine lv_icmp_gt (tgt := 167) hx hb dX11_plan_48 (by decide) (fun hc => ?_) (fun hc => ?_)
  · have h := ite_t hc h
    refine lv_aload_n hx hb dX11_plan_167 rfl (lv_at hl 0 rfl) ?_
    refine g_488 (i := 190) C hH (jC_1 hW) rfl dX11_plan_168 ?_
    refine lv_iload_n hx hb dX11_plan_171 rfl (lv_at hl 2 rfl) ?_
    obtain ⟨b5, h⟩ := gd_e h
    refine h_iald C hH (jC_190 hW).1 (jC_190 hW).2.1 b5 dX11_plan_172 ?_
    exact h_iret C hr hk hH hS rfl (by cases h; rfl) dX11_plan_173
  · have h := ite_f hc h
    refine lv_aload_n hx hb dX11_plan_51 rfl (lv_at hl 0 rfl) ?_
    refine g_481 (i := 120) C hH (jC_1 hW) rfl dX11_plan_52 ?_
    refine lv_iload_n hx hb dX11_plan_55 rfl (lv_at hl 3 rfl) ?_
    obtain ⟨μ7, e6, h⟩ := b1_e h
    refine cVv (as := [.int x3]) (rest := []) (c_X6_shareOut (hC_120 hW) e6) C hl.1 hH hS rfl (jC_120 hW) rfl wd_942 wd_941 mw_X6_shareOut wd_940 rfl (rm_ok (by decide) (by decide)) (Nat.le_of_ble_eq_true rfl) ⟨Nat.zero_le _, Nat.zero_le _⟩ (by decide) dX11_plan_56 (fun H locs hH hS => ?_)
    refine lv_aload_n hx hb dX11_plan_59 rfl (lv_at hl 0 rfl) ?_
    refine g_481 (i := 120) C hH (jC_1 hW) rfl dX11_plan_60 ?_
    refine lv_aload_n hx hb dX11_plan_63 rfl (lv_at hl 0 rfl) ?_
    refine g_476 (i := 17) C hH (jC_1 hW) rfl dX11_plan_64 ?_
    refine lv_aload_n hx hb dX11_plan_67 rfl (lv_at hl 0 rfl) ?_
    refine g_477 (i := 24) C hH (jC_1 hW) rfl dX11_plan_68 ?_
    refine lv_aload_n hx hb dX11_plan_71 rfl (lv_at hl 0 rfl) ?_
    refine g_478 (i := 26) C hH (jC_1 hW) rfl dX11_plan_72 ?_
    obtain ⟨μ9, e8, h⟩ := b1_e h
    refine cVv (as := [.ref (wB ω + 17), .ref (wB ω + 24), .ref (wB ω + 26)]) (rest := []) (c_X6_burnGiven (hC_120 hW) (qC_17 hW) (sC_24 hW) (sC_26 hW) e8) C hl.1 hH hS rfl (jC_120 hW) rfl wd_962 wd_961 mw_X6_burnGiven wd_960 rfl (rm_ok (by decide) (by decide)) (Nat.le_of_ble_eq_true rfl) ⟨Nat.zero_le _, Nat.zero_le _⟩ (by decide) dX11_plan_75 (fun H locs hH hS => ?_)
    refine lv_aload_n hx hb dX11_plan_78 rfl (lv_at hl 0 rfl) ?_
    refine g_482 (i := 139) C hH (jC_1 hW) rfl dX11_plan_79 ?_
    refine lv_aload_n hx hb dX11_plan_82 rfl (lv_at hl 0 rfl) ?_
    refine g_476 (i := 17) C hH (jC_1 hW) rfl dX11_plan_83 ?_
    refine lv_aload_n hx hb dX11_plan_86 rfl (lv_at hl 0 rfl) ?_
    refine g_478 (i := 26) C hH (jC_1 hW) rfl dX11_plan_87 ?_
    refine lv_iload_n hx hb dX11_plan_90 rfl (lv_at hl 1 rfl) ?_
    refine lv_iload_n hx hb dX11_plan_91 rfl (lv_at hl 3 rfl) ?_
    refine lv_isub hx hb dX11_plan_92 ?_
    obtain ⟨μ11, e10, h⟩ := b1_e h
    refine cVv (as := [.ref (wB ω + 17), .ref (wB ω + 26), .int (x1 - x3)]) (rest := []) (c_X6_weigh (hC_139 hW) (qC_17 hW) (sC_26 hW) e10) C hl.1 hH hS rfl (jC_139 hW) rfl wd_926 wd_925 mw_X6_weigh wd_924 rfl (rm_ok (by decide) (by decide)) (Nat.le_of_ble_eq_true rfl) ⟨Nat.zero_le _, Nat.zero_le _⟩ (by decide) dX11_plan_93 (fun H locs hH hS => ?_)
    refine lv_iconst (v := 0) hx hb dX11_plan_96 (by decide) ?_
    refine lv_istore (lv' := [(4, .int 0), (0, .ref (wB ω + 1)), (1, .int x1), (2, .int x2), (3, .int x3)]) hx hb dX11_plan_97 hl (by decide) rfl (fun ls hl => ?_)
    refine wX11_plan_l99 hW C hr hk (fun μ21 H locs ls hH hS hl h => ?_) FU _ _ H locs ls hH hS (lv_sub hl [1, 2, 3, 4, 0] rfl) h
    refine lv_iinc (v := x3 + 1) (lv' := [(3, .int (x3 + 1)), (0, .ref (wB ω + 1)), (1, .int x1), (2, .int x2)]) hx hb dX11_plan_161 hl (k := 3) rfl rfl (by decide) rfl (fun ls hl => ?_)
    refine lv_goto (tgt := 46) hx hb dX11_plan_164 (by decide) ?_
    exact hrec _ _ H locs ls hH hS (lv_sub hl [1, 2, 3, 0] rfl) h
theorem wX11_plan_l46 (hW : FWC ω) (C : Cx ω p s m args c cX11_plan 6 RX11) (hr : meth.sig.returnType = some .int) (hk : meth.locks = false) {rr : Int32} {μo : Mem} {x1 : Int32} {x2 : Int32} : ∀ (n : Nat) (x3 : Int32) (μ : Mem) (H : Heap) (locs : List Loc) (ls : Array Slot), Hd ω μ H → FS ω s H locs → lv_has ls 6 [(0, .ref (wB ω + 1)), (1, .int x1), (2, .int x2), (3, .int x3)] → fX11_plan_l46 x1 x2 n x3 μ = some (rr, μo) → W p l e (rmd 8) s m args below meth c H locs 0 0 (MQ below (QR ω (some (.int rr)) μo) args s 0 0 (wA ω)) (F0 m 46 ls []) := by
  intro n
  induction n with
  | zero => intro x3 μ H locs ls hH hS hl h; cases h
  | succ n ih => intro x3 μ H locs ls hH hS hl h; exact wX11_plan_s46 hW C hr hk ih hH hS hl h
set_option maxHeartbeats 4000000 in
set_option maxRecDepth 100000 in
theorem wX11_plan_e (hW : FWC ω) (C : Cx ω p s m args c cX11_plan 6 RX11) (hr : meth.sig.returnType = some .int) (hk : meth.locks = false) {rr : Int32} {μo : Mem} {x1 : Int32} {x2 : Int32} {μ : Mem} {H : Heap} {locs : List Loc} {ls : Array Slot} (hH : Hd ω μ H) (hS : FS ω s H locs) (hl : lv_has ls 6 [(0, .ref (wB ω + 1)), (1, .int x1), (2, .int x2)]) (h : fX11_plan x1 x2 μ = some (rr, μo)) : W p l e (rmd 8) s m args below meth c H locs 0 0 (MQ below (QR ω (some (.int rr)) μo) args s 0 0 (wA ω)) (F0 m 0 ls []) := by
  have hx := C.1
  have hb := C.2.1
  unfold fX11_plan at h
  refine lv_iload_n hx hb dX11_plan_0 rfl (lv_at hl 1 rfl) ?_
  refine lv_if_lt (tgt := 19) hx hb dX11_plan_1 (by decide) (fun hc => ?_) (fun hc => ?_)
  · have h := ite_t hc h
    refine lv_iconst (v := (-1)) hx hb dX11_plan_19 (by decide) ?_
    exact h_iret C hr hk hH hS rfl (by cases h; rfl) dX11_plan_20
  · have h := ite_f hc h
    refine lv_iload_n hx hb dX11_plan_4 rfl (lv_at hl 1 rfl) ?_
    refine lv_bipush (v := 10) hx hb dX11_plan_5 (by decide) ?_
    refine lv_icmp_gt (tgt := 19) hx hb dX11_plan_7 (by decide) (fun hc => ?_) (fun hc => ?_)
    · have h := ite_t hc h
      refine lv_iconst (v := (-1)) hx hb dX11_plan_19 (by decide) ?_
      exact h_iret C hr hk hH hS rfl (by cases h; rfl) dX11_plan_20
    · have h := ite_f hc h
      refine lv_iload_n hx hb dX11_plan_10 rfl (lv_at hl 2 rfl) ?_
      refine lv_if_lt (tgt := 19) hx hb dX11_plan_11 (by decide) (fun hc => ?_) (fun hc => ?_)
      · have h := ite_t hc h
        refine lv_iconst (v := (-1)) hx hb dX11_plan_19 (by decide) ?_
        exact h_iret C hr hk hH hS rfl (by cases h; rfl) dX11_plan_20
      · have h := ite_f hc h
        refine lv_iload_n hx hb dX11_plan_14 rfl (lv_at hl 2 rfl) ?_
        refine lv_iconst (v := 2) hx hb dX11_plan_15 (by decide) ?_
        refine lv_icmp_le (tgt := 21) hx hb dX11_plan_16 (by decide) (fun hc => ?_) (fun hc => ?_)
        · have h := ite_t hc h
          refine lv_aload_n hx hb dX11_plan_21 rfl (lv_at hl 0 rfl) ?_
          refine g_488 (i := 190) C hH (jC_1 hW) rfl dX11_plan_22 ?_
          refine lv_iconst (v := 0) hx hb dX11_plan_25 (by decide) ?_
          refine lv_iconst (v := (-1)) hx hb dX11_plan_26 (by decide) ?_
          obtain ⟨μ1, e2, h⟩ := bd_e h
          refine h_iast C hH hS (jC_190 hW).1 (jC_190 hW).2.1 (by decide) dX11_plan_27 (fun H locs hH hS => ?_)
          have hH := Hd.to e2 hH
          refine lv_aload_n hx hb dX11_plan_28 rfl (lv_at hl 0 rfl) ?_
          refine g_481 (i := 120) C hH (jC_1 hW) rfl dX11_plan_29 ?_
          refine lv_aload_n hx hb dX11_plan_32 rfl (lv_at hl 0 rfl) ?_
          refine g_476 (i := 17) C hH (jC_1 hW) rfl dX11_plan_33 ?_
          refine lv_aload_n hx hb dX11_plan_36 rfl (lv_at hl 0 rfl) ?_
          refine g_477 (i := 24) C hH (jC_1 hW) rfl dX11_plan_37 ?_
          refine lv_iload_n hx hb dX11_plan_40 rfl (lv_at hl 1 rfl) ?_
          obtain ⟨μ4, e3, h⟩ := b1_e h
          refine cVv (as := [.ref (wB ω + 17), .ref (wB ω + 24), .int x1]) (rest := []) (c_X6_weigh (hC_120 hW) (qC_17 hW) (sC_24 hW) e3) C hl.1 hH hS rfl (jC_120 hW) rfl wd_926 wd_925 mw_X6_weigh wd_924 rfl (rm_ok (by decide) (by decide)) (Nat.le_of_ble_eq_true rfl) ⟨Nat.zero_le _, Nat.zero_le _⟩ (by decide) dX11_plan_41 (fun H locs hH hS => ?_)
          refine lv_iconst (v := 0) hx hb dX11_plan_44 (by decide) ?_
          refine lv_istore_n (lv' := [(3, .int 0), (0, .ref (wB ω + 1)), (1, .int x1), (2, .int x2)]) hx hb dX11_plan_45 rfl hl (by decide) rfl (fun ls hl => ?_)
          exact wX11_plan_l46 hW C hr hk FU _ _ H locs ls hH hS (lv_sub hl [1, 2, 3, 0] rfl) h
        · have h := ite_f hc h
          refine lv_iconst (v := (-1)) hx hb dX11_plan_19 (by decide) ?_
          exact h_iret C hr hk hH hS rfl (by cases h; rfl) dX11_plan_20
theorem c_X11_plan {l : Launch} {ω : WW} {x1 : Int32} {x2 : Int32} (hW : FWC ω) {μ : Mem} {rr : Int32} {μo : Mem} (h : fX11_plan x1 x2 μ = some (rr, μo)) : Con l yX11_plan cX11_plan 6 (some .int) 8 ω [.ref (wB ω + 1), .int x1, .int x2] μ (some (.int rr)) μo :=
  con_of (by decide) (Nat.le_of_ble_eq_true rfl) (fun p e s m args below meth c ls C hr hk hl hH hS => wX11_plan_e hW C hr hk hH hS (lv_sub hl [0, 1, 2] rfl) h)
set_option maxHeartbeats 4000000 in
set_option maxRecDepth 100000 in
theorem wX8_isBlank_e (C : Cx ω p s m args c cX8_isBlank 1 RX8) (hr : meth.sig.returnType = some .boolean) (hk : meth.locks = false) {rr : Int32} {μ : Mem} {x0 : Int32} {H : Heap} {locs : List Loc} {ls : Array Slot} (hH : Hd ω μ H) (hS : FS ω s H locs) (hl : lv_has ls 1 [(0, .int x0)]) (h : fX8_isBlank x0 = some rr) : W p l e (rmd 1) s m args below meth c H locs 0 0 (MQ below (QR ω (some (.int rr)) μ) args s 0 0 (wA ω)) (F0 m 0 ls []) := by
  have hx := C.1
  have hb := C.2.1
  unfold fX8_isBlank at h
  refine lv_iload_n hx hb dX8_isBlank_0 rfl (lv_at hl 0 rfl) ?_
  refine lv_bipush (v := 9) hx hb dX8_isBlank_1 (by decide) ?_
  refine lv_icmp_eq (tgt := 24) hx hb dX8_isBlank_3 (by decide) (fun hc => ?_) (fun hc => ?_)
  · have h := ite_t hc h
    refine lv_iconst (v := 1) hx hb dX8_isBlank_24 (by decide) ?_
    refine lv_goto (tgt := 29) hx hb dX8_isBlank_25 (by decide) ?_
    exact h_zret (y := 1) C hr hk hH hS rfl (by cases h; rfl) dX8_isBlank_29
  · have h := ite_f hc h
    refine lv_iload_n hx hb dX8_isBlank_6 rfl (lv_at hl 0 rfl) ?_
    refine lv_bipush (v := 10) hx hb dX8_isBlank_7 (by decide) ?_
    refine lv_icmp_eq (tgt := 24) hx hb dX8_isBlank_9 (by decide) (fun hc => ?_) (fun hc => ?_)
    · have h := ite_t hc h
      refine lv_iconst (v := 1) hx hb dX8_isBlank_24 (by decide) ?_
      refine lv_goto (tgt := 29) hx hb dX8_isBlank_25 (by decide) ?_
      exact h_zret (y := 1) C hr hk hH hS rfl (by cases h; rfl) dX8_isBlank_29
    · have h := ite_f hc h
      refine lv_iload_n hx hb dX8_isBlank_12 rfl (lv_at hl 0 rfl) ?_
      refine lv_bipush (v := 13) hx hb dX8_isBlank_13 (by decide) ?_
      refine lv_icmp_eq (tgt := 24) hx hb dX8_isBlank_15 (by decide) (fun hc => ?_) (fun hc => ?_)
      · have h := ite_t hc h
        refine lv_iconst (v := 1) hx hb dX8_isBlank_24 (by decide) ?_
        refine lv_goto (tgt := 29) hx hb dX8_isBlank_25 (by decide) ?_
        exact h_zret (y := 1) C hr hk hH hS rfl (by cases h; rfl) dX8_isBlank_29
      · have h := ite_f hc h
        refine lv_iload_n hx hb dX8_isBlank_18 rfl (lv_at hl 0 rfl) ?_
        refine lv_bipush (v := 32) hx hb dX8_isBlank_19 (by decide) ?_
        refine lv_icmp_ne (tgt := 28) hx hb dX8_isBlank_21 (by decide) (fun hc => ?_) (fun hc => ?_)
        · have h := ite_f hc h
          refine lv_iconst (v := 0) hx hb dX8_isBlank_28 (by decide) ?_
          exact h_zret (y := 0) C hr hk hH hS rfl (by cases h; rfl) dX8_isBlank_29
        · have h := ite_t hc h
          refine lv_iconst (v := 1) hx hb dX8_isBlank_24 (by decide) ?_
          refine lv_goto (tgt := 29) hx hb dX8_isBlank_25 (by decide) ?_
          exact h_zret (y := 1) C hr hk hH hS rfl (by cases h; rfl) dX8_isBlank_29
theorem c_X8_isBlank {l : Launch} {ω : WW} {x0 : Int32} {μ : Mem} {rr : Int32} (h : fX8_isBlank x0 = some rr) : Con l yX8_isBlank cX8_isBlank 1 (some .boolean) 1 ω [.int x0] μ (some (.int rr)) μ :=
  con_of (by decide) (Nat.le_of_ble_eq_true rfl) (fun p e s m args below meth c ls C hr hk hl hH hS => wX8_isBlank_e C hr hk hH hS (lv_sub hl [0] rfl) h)
set_option maxHeartbeats 4000000 in
set_option maxRecDepth 100000 in
theorem wX8_endOfBlanks_s2 {q0 : Nat} (hq0 : Is ω q0 102 2000) (C : Cx ω p s m args c cX8_endOfBlanks 4 RX8) (hr : meth.sig.returnType = some .int) (hk : meth.locks = false) {rr : Int32} {μ : Mem} {x1 : Int32} {x3 : Int32} {rec : Int32 → Option Int32} (hrec : ∀ (z3 : Int32) (H : Heap) (locs : List Loc) (ls : Array Slot), Hd ω μ H → FS ω s H locs → lv_has ls 4 [(0, .ref (wB ω + q0)), (1, .int x1), (3, .int z3)] → rec z3 = some rr → W p l e (rmd 2) s m args below meth c H locs 0 0 (MQ below (QR ω (some (.int rr)) μ) args s 0 0 (wA ω)) (F0 m 2 ls [])) {H : Heap} {locs : List Loc} {ls : Array Slot} (hH : Hd ω μ H) (hS : FS ω s H locs) (hl : lv_has ls 4 [(0, .ref (wB ω + q0)), (1, .int x1), (3, .int x3)]) (h : fX8_endOfBlanks_s2 rec q0 x1 x3 μ = some rr) : W p l e (rmd 2) s m args below meth c H locs 0 0 (MQ below (QR ω (some (.int rr)) μ) args s 0 0 (wA ω)) (F0 m 2 ls []) := by
  have hx := C.1
  have hb := C.2.1
  unfold fX8_endOfBlanks_s2 at h
  refine lv_iload_n hx hb dX8_endOfBlanks_2 rfl (lv_at hl 2 rfl) ?_
  refine lv_iload_n hx hb dX8_endOfBlanks_3 rfl (lv_at hl 1 rfl) ?_
  refine lv_icmp_ge (tgt := 22) hx hb dX8_endOfBlanks_4 (by decide) (fun hc => ?_) (fun hc => ?_)
  · have h := ite_t hc h
    refine lv_iload_n hx hb dX8_endOfBlanks_22 rfl (lv_at hl 2 rfl) ?_
    exact h_iret C hr hk hH hS rfl (by cases h; rfl) dX8_endOfBlanks_23
  · have h := ite_f hc h
    refine lv_aload_n hx hb dX8_endOfBlanks_7 rfl (lv_at hl 0 rfl) ?_
    refine lv_iload_n hx hb dX8_endOfBlanks_8 rfl (lv_at hl 2 rfl) ?_
    obtain ⟨b1, h⟩ := gd_e h
    refine h_bald C hH hq0.1 hq0.2.1 b1 dX8_endOfBlanks_9 ?_
    obtain ⟨r3, e2, h⟩ := b1_e h
    refine cSi (as := [.int (μ.1 q0 x3.toNatClampNeg)]) (rest := []) (c_X8_isBlank e2) C hl.1 hH hS rfl wd_554 mw_X8_isBlank wd_553 rfl (rm_ok (by decide) (by decide)) (Nat.le_of_ble_eq_true rfl) ⟨Nat.zero_le _, Nat.zero_le _⟩ dX8_endOfBlanks_10 (fun H locs hH hS => ?_)
    refine lv_if_eq (tgt := 22) hx hb dX8_endOfBlanks_13 (by decide) (fun hc => ?_) (fun hc => ?_)
    · have h := ite_t hc h
      refine lv_iload_n hx hb dX8_endOfBlanks_22 rfl (lv_at hl 2 rfl) ?_
      exact h_iret C hr hk hH hS rfl (by cases h; rfl) dX8_endOfBlanks_23
    · have h := ite_f hc h
      refine lv_iinc (v := x3 + 1) (lv' := [(3, .int (x3 + 1)), (0, .ref (wB ω + q0)), (1, .int x1)]) hx hb dX8_endOfBlanks_16 hl (k := 2) rfl rfl (by decide) rfl (fun ls hl => ?_)
      refine lv_goto (tgt := 2) hx hb dX8_endOfBlanks_19 (by decide) ?_
      exact hrec _ H locs ls hH hS (lv_sub hl [1, 2, 0] rfl) h
theorem wX8_endOfBlanks_l2 {q0 : Nat} (hq0 : Is ω q0 102 2000) (C : Cx ω p s m args c cX8_endOfBlanks 4 RX8) (hr : meth.sig.returnType = some .int) (hk : meth.locks = false) {rr : Int32} {μ : Mem} {x1 : Int32} : ∀ (n : Nat) (x3 : Int32) (H : Heap) (locs : List Loc) (ls : Array Slot), Hd ω μ H → FS ω s H locs → lv_has ls 4 [(0, .ref (wB ω + q0)), (1, .int x1), (3, .int x3)] → fX8_endOfBlanks_l2 q0 x1 μ n x3 = some rr → W p l e (rmd 2) s m args below meth c H locs 0 0 (MQ below (QR ω (some (.int rr)) μ) args s 0 0 (wA ω)) (F0 m 2 ls []) := by
  intro n
  induction n with
  | zero => intro x3 H locs ls hH hS hl h; cases h
  | succ n ih => intro x3 H locs ls hH hS hl h; exact wX8_endOfBlanks_s2 hq0 C hr hk ih hH hS hl h
set_option maxHeartbeats 4000000 in
set_option maxRecDepth 100000 in
theorem wX8_endOfBlanks_e {q0 : Nat} (hq0 : Is ω q0 102 2000) (C : Cx ω p s m args c cX8_endOfBlanks 4 RX8) (hr : meth.sig.returnType = some .int) (hk : meth.locks = false) {rr : Int32} {μ : Mem} {x1 : Int32} {x2 : Int32} {H : Heap} {locs : List Loc} {ls : Array Slot} (hH : Hd ω μ H) (hS : FS ω s H locs) (hl : lv_has ls 4 [(0, .ref (wB ω + q0)), (1, .int x1), (2, .int x2)]) (h : fX8_endOfBlanks q0 x1 x2 μ = some rr) : W p l e (rmd 2) s m args below meth c H locs 0 0 (MQ below (QR ω (some (.int rr)) μ) args s 0 0 (wA ω)) (F0 m 0 ls []) := by
  have hx := C.1
  have hb := C.2.1
  unfold fX8_endOfBlanks at h
  refine lv_iload_n hx hb dX8_endOfBlanks_0 rfl (lv_at hl 2 rfl) ?_
  refine lv_istore_n (lv' := [(3, .int x2), (0, .ref (wB ω + q0)), (1, .int x1), (2, .int x2)]) hx hb dX8_endOfBlanks_1 rfl hl (by decide) rfl (fun ls hl => ?_)
  exact wX8_endOfBlanks_l2 hq0 C hr hk FU _ H locs ls hH hS (lv_sub hl [1, 2, 0] rfl) h
theorem c_X8_endOfBlanks {l : Launch} {ω : WW} {q0 : Nat} {x1 : Int32} {x2 : Int32} (hq0 : Is ω q0 102 2000) {μ : Mem} {rr : Int32} (h : fX8_endOfBlanks q0 x1 x2 μ = some rr) : Con l yX8_endOfBlanks cX8_endOfBlanks 4 (some .int) 2 ω [.ref (wB ω + q0), .int x1, .int x2] μ (some (.int rr)) μ :=
  con_of (by decide) (Nat.le_of_ble_eq_true rfl) (fun p e s m args below meth c ls C hr hk hl hH hS => wX8_endOfBlanks_e hq0 C hr hk hH hS (lv_sub hl [0, 1, 2] rfl) h)
set_option maxHeartbeats 4000000 in
set_option maxRecDepth 100000 in
theorem wX8_isLetter_e (C : Cx ω p s m args c cX8_isLetter 1 RX8) (hr : meth.sig.returnType = some .boolean) (hk : meth.locks = false) {rr : Int32} {μ : Mem} {x0 : Int32} {H : Heap} {locs : List Loc} {ls : Array Slot} (hH : Hd ω μ H) (hS : FS ω s H locs) (hl : lv_has ls 1 [(0, .int x0)]) (h : fX8_isLetter x0 = some rr) : W p l e (rmd 1) s m args below meth c H locs 0 0 (MQ below (QR ω (some (.int rr)) μ) args s 0 0 (wA ω)) (F0 m 0 ls []) := by
  have hx := C.1
  have hb := C.2.1
  unfold fX8_isLetter at h
  refine lv_iload_n hx hb dX8_isLetter_0 rfl (lv_at hl 0 rfl) ?_
  refine lv_bipush (v := 97) hx hb dX8_isLetter_1 (by decide) ?_
  refine lv_icmp_lt (tgt := 16) hx hb dX8_isLetter_3 (by decide) (fun hc => ?_) (fun hc => ?_)
  · have h := ite_t hc h
    refine lv_iconst (v := 0) hx hb dX8_isLetter_16 (by decide) ?_
    exact h_zret (y := 0) C hr hk hH hS rfl (by cases h; rfl) dX8_isLetter_17
  · have h := ite_f hc h
    refine lv_iload_n hx hb dX8_isLetter_6 rfl (lv_at hl 0 rfl) ?_
    refine lv_bipush (v := 122) hx hb dX8_isLetter_7 (by decide) ?_
    refine lv_icmp_gt (tgt := 16) hx hb dX8_isLetter_9 (by decide) (fun hc => ?_) (fun hc => ?_)
    · have h := ite_t hc h
      refine lv_iconst (v := 0) hx hb dX8_isLetter_16 (by decide) ?_
      exact h_zret (y := 0) C hr hk hH hS rfl (by cases h; rfl) dX8_isLetter_17
    · have h := ite_f hc h
      refine lv_iconst (v := 1) hx hb dX8_isLetter_12 (by decide) ?_
      refine lv_goto (tgt := 17) hx hb dX8_isLetter_13 (by decide) ?_
      exact h_zret (y := 1) C hr hk hH hS rfl (by cases h; rfl) dX8_isLetter_17
theorem c_X8_isLetter {l : Launch} {ω : WW} {x0 : Int32} {μ : Mem} {rr : Int32} (h : fX8_isLetter x0 = some rr) : Con l yX8_isLetter cX8_isLetter 1 (some .boolean) 1 ω [.int x0] μ (some (.int rr)) μ :=
  con_of (by decide) (Nat.le_of_ble_eq_true rfl) (fun p e s m args below meth c ls C hr hk hl hH hS => wX8_isLetter_e C hr hk hH hS (lv_sub hl [0] rfl) h)
set_option maxHeartbeats 4000000 in
set_option maxRecDepth 100000 in
theorem wX8_isDigit_e (C : Cx ω p s m args c cX8_isDigit 1 RX8) (hr : meth.sig.returnType = some .boolean) (hk : meth.locks = false) {rr : Int32} {μ : Mem} {x0 : Int32} {H : Heap} {locs : List Loc} {ls : Array Slot} (hH : Hd ω μ H) (hS : FS ω s H locs) (hl : lv_has ls 1 [(0, .int x0)]) (h : fX8_isDigit x0 = some rr) : W p l e (rmd 1) s m args below meth c H locs 0 0 (MQ below (QR ω (some (.int rr)) μ) args s 0 0 (wA ω)) (F0 m 0 ls []) := by
  have hx := C.1
  have hb := C.2.1
  unfold fX8_isDigit at h
  refine lv_iload_n hx hb dX8_isDigit_0 rfl (lv_at hl 0 rfl) ?_
  refine lv_bipush (v := 48) hx hb dX8_isDigit_1 (by decide) ?_
  refine lv_icmp_lt (tgt := 16) hx hb dX8_isDigit_3 (by decide) (fun hc => ?_) (fun hc => ?_)
  · have h := ite_t hc h
    refine lv_iconst (v := 0) hx hb dX8_isDigit_16 (by decide) ?_
    exact h_zret (y := 0) C hr hk hH hS rfl (by cases h; rfl) dX8_isDigit_17
  · have h := ite_f hc h
    refine lv_iload_n hx hb dX8_isDigit_6 rfl (lv_at hl 0 rfl) ?_
    refine lv_bipush (v := 57) hx hb dX8_isDigit_7 (by decide) ?_
    refine lv_icmp_gt (tgt := 16) hx hb dX8_isDigit_9 (by decide) (fun hc => ?_) (fun hc => ?_)
    · have h := ite_t hc h
      refine lv_iconst (v := 0) hx hb dX8_isDigit_16 (by decide) ?_
      exact h_zret (y := 0) C hr hk hH hS rfl (by cases h; rfl) dX8_isDigit_17
    · have h := ite_f hc h
      refine lv_iconst (v := 1) hx hb dX8_isDigit_12 (by decide) ?_
      refine lv_goto (tgt := 17) hx hb dX8_isDigit_13 (by decide) ?_
      exact h_zret (y := 1) C hr hk hH hS rfl (by cases h; rfl) dX8_isDigit_17
theorem c_X8_isDigit {l : Launch} {ω : WW} {x0 : Int32} {μ : Mem} {rr : Int32} (h : fX8_isDigit x0 = some rr) : Con l yX8_isDigit cX8_isDigit 1 (some .boolean) 1 ω [.int x0] μ (some (.int rr)) μ :=
  con_of (by decide) (Nat.le_of_ble_eq_true rfl) (fun p e s m args below meth c ls C hr hk hl hH hS => wX8_isDigit_e C hr hk hH hS (lv_sub hl [0] rfl) h)
set_option maxHeartbeats 4000000 in
set_option maxRecDepth 100000 in
theorem wX8_endOfRun_s49 {q0 : Nat} (hq0 : Is ω q0 102 2000) (C : Cx ω p s m args c cX8_endOfRun 4 RX8) (hr : meth.sig.returnType = some .int) (hk : meth.locks = false) {rr : Int32} {μ : Mem} {x1 : Int32} {x3 : Int32} {rec : Int32 → Option Int32} (hrec : ∀ (z3 : Int32) (H : Heap) (locs : List Loc) (ls : Array Slot), Hd ω μ H → FS ω s H locs → lv_has ls 4 [(0, .ref (wB ω + q0)), (1, .int x1), (3, .int z3)] → rec z3 = some rr → W p l e (rmd 2) s m args below meth c H locs 0 0 (MQ below (QR ω (some (.int rr)) μ) args s 0 0 (wA ω)) (F0 m 49 ls [])) {H : Heap} {locs : List Loc} {ls : Array Slot} (hH : Hd ω μ H) (hS : FS ω s H locs) (hl : lv_has ls 4 [(0, .ref (wB ω + q0)), (1, .int x1), (3, .int x3)]) (h : fX8_endOfRun_s49 rec q0 x1 x3 μ = some rr) : W p l e (rmd 2) s m args below meth c H locs 0 0 (MQ below (QR ω (some (.int rr)) μ) args s 0 0 (wA ω)) (F0 m 49 ls []) := by
  have hx := C.1
  have hb := C.2.1
  unfold fX8_endOfRun_s49 at h
  refine lv_iload_n hx hb dX8_endOfRun_49 rfl (lv_at hl 2 rfl) ?_
  refine lv_iload_n hx hb dX8_endOfRun_50 rfl (lv_at hl 1 rfl) ?_
  refine lv_icmp_ge (tgt := 69) hx hb dX8_endOfRun_51 (by decide) (fun hc => ?_) (fun hc => ?_)
  · have h := ite_t hc h
    refine lv_iload_n hx hb dX8_endOfRun_69 rfl (lv_at hl 2 rfl) ?_
    exact h_iret C hr hk hH hS rfl (by cases h; rfl) dX8_endOfRun_70
  · have h := ite_f hc h
    refine lv_aload_n hx hb dX8_endOfRun_54 rfl (lv_at hl 0 rfl) ?_
    refine lv_iload_n hx hb dX8_endOfRun_55 rfl (lv_at hl 2 rfl) ?_
    obtain ⟨b9, h⟩ := gd_e h
    refine h_bald C hH hq0.1 hq0.2.1 b9 dX8_endOfRun_56 ?_
    obtain ⟨r11, e10, h⟩ := b1_e h
    refine cSi (as := [.int (μ.1 q0 x3.toNatClampNeg)]) (rest := []) (c_X8_isDigit e10) C hl.1 hH hS rfl wd_563 mw_X8_isDigit wd_562 rfl (rm_ok (by decide) (by decide)) (Nat.le_of_ble_eq_true rfl) ⟨Nat.zero_le _, Nat.zero_le _⟩ dX8_endOfRun_57 (fun H locs hH hS => ?_)
    refine lv_if_eq (tgt := 69) hx hb dX8_endOfRun_60 (by decide) (fun hc => ?_) (fun hc => ?_)
    · have h := ite_t hc h
      refine lv_iload_n hx hb dX8_endOfRun_69 rfl (lv_at hl 2 rfl) ?_
      exact h_iret C hr hk hH hS rfl (by cases h; rfl) dX8_endOfRun_70
    · have h := ite_f hc h
      refine lv_iinc (v := x3 + 1) (lv' := [(3, .int (x3 + 1)), (0, .ref (wB ω + q0)), (1, .int x1)]) hx hb dX8_endOfRun_63 hl (k := 2) rfl rfl (by decide) rfl (fun ls hl => ?_)
      refine lv_goto (tgt := 49) hx hb dX8_endOfRun_66 (by decide) ?_
      exact hrec _ H locs ls hH hS (lv_sub hl [1, 2, 0] rfl) h
theorem wX8_endOfRun_l49 {q0 : Nat} (hq0 : Is ω q0 102 2000) (C : Cx ω p s m args c cX8_endOfRun 4 RX8) (hr : meth.sig.returnType = some .int) (hk : meth.locks = false) {rr : Int32} {μ : Mem} {x1 : Int32} : ∀ (n : Nat) (x3 : Int32) (H : Heap) (locs : List Loc) (ls : Array Slot), Hd ω μ H → FS ω s H locs → lv_has ls 4 [(0, .ref (wB ω + q0)), (1, .int x1), (3, .int x3)] → fX8_endOfRun_l49 q0 x1 μ n x3 = some rr → W p l e (rmd 2) s m args below meth c H locs 0 0 (MQ below (QR ω (some (.int rr)) μ) args s 0 0 (wA ω)) (F0 m 49 ls []) := by
  intro n
  induction n with
  | zero => intro x3 H locs ls hH hS hl h; cases h
  | succ n ih => intro x3 H locs ls hH hS hl h; exact wX8_endOfRun_s49 hq0 C hr hk ih hH hS hl h
set_option maxHeartbeats 4000000 in
set_option maxRecDepth 100000 in
theorem wX8_endOfRun_s20 {q0 : Nat} (hq0 : Is ω q0 102 2000) (C : Cx ω p s m args c cX8_endOfRun 4 RX8) (hr : meth.sig.returnType = some .int) (hk : meth.locks = false) {rr : Int32} {μ : Mem} {x1 : Int32} {x3 : Int32} {rec : Int32 → Option Int32} (hrec : ∀ (z3 : Int32) (H : Heap) (locs : List Loc) (ls : Array Slot), Hd ω μ H → FS ω s H locs → lv_has ls 4 [(0, .ref (wB ω + q0)), (1, .int x1), (3, .int z3)] → rec z3 = some rr → W p l e (rmd 2) s m args below meth c H locs 0 0 (MQ below (QR ω (some (.int rr)) μ) args s 0 0 (wA ω)) (F0 m 20 ls [])) {H : Heap} {locs : List Loc} {ls : Array Slot} (hH : Hd ω μ H) (hS : FS ω s H locs) (hl : lv_has ls 4 [(0, .ref (wB ω + q0)), (1, .int x1), (3, .int x3)]) (h : fX8_endOfRun_s20 rec q0 x1 x3 μ = some rr) : W p l e (rmd 2) s m args below meth c H locs 0 0 (MQ below (QR ω (some (.int rr)) μ) args s 0 0 (wA ω)) (F0 m 20 ls []) := by
  have hx := C.1
  have hb := C.2.1
  unfold fX8_endOfRun_s20 at h
  refine lv_iload_n hx hb dX8_endOfRun_20 rfl (lv_at hl 2 rfl) ?_
  refine lv_iload_n hx hb dX8_endOfRun_21 rfl (lv_at hl 1 rfl) ?_
  refine lv_icmp_ge (tgt := 69) hx hb dX8_endOfRun_22 (by decide) (fun hc => ?_) (fun hc => ?_)
  · have h := ite_t hc h
    refine lv_iload_n hx hb dX8_endOfRun_69 rfl (lv_at hl 2 rfl) ?_
    exact h_iret C hr hk hH hS rfl (by cases h; rfl) dX8_endOfRun_70
  · have h := ite_f hc h
    refine lv_aload_n hx hb dX8_endOfRun_25 rfl (lv_at hl 0 rfl) ?_
    refine lv_iload_n hx hb dX8_endOfRun_26 rfl (lv_at hl 2 rfl) ?_
    obtain ⟨b12, h⟩ := gd_e h
    refine h_bald C hH hq0.1 hq0.2.1 b12 dX8_endOfRun_27 ?_
    obtain ⟨r14, e13, h⟩ := b1_e h
    refine cSi (as := [.int (μ.1 q0 x3.toNatClampNeg)]) (rest := []) (c_X8_isLetter e13) C hl.1 hH hS rfl wd_560 mw_X8_isLetter wd_559 rfl (rm_ok (by decide) (by decide)) (Nat.le_of_ble_eq_true rfl) ⟨Nat.zero_le _, Nat.zero_le _⟩ dX8_endOfRun_28 (fun H locs hH hS => ?_)
    refine lv_if_eq (tgt := 69) hx hb dX8_endOfRun_31 (by decide) (fun hc => ?_) (fun hc => ?_)
    · have h := ite_t hc h
      refine lv_iload_n hx hb dX8_endOfRun_69 rfl (lv_at hl 2 rfl) ?_
      exact h_iret C hr hk hH hS rfl (by cases h; rfl) dX8_endOfRun_70
    · have h := ite_f hc h
      refine lv_iinc (v := x3 + 1) (lv' := [(3, .int (x3 + 1)), (0, .ref (wB ω + q0)), (1, .int x1)]) hx hb dX8_endOfRun_34 hl (k := 2) rfl rfl (by decide) rfl (fun ls hl => ?_)
      refine lv_goto (tgt := 20) hx hb dX8_endOfRun_37 (by decide) ?_
      exact hrec _ H locs ls hH hS (lv_sub hl [1, 2, 0] rfl) h
theorem wX8_endOfRun_l20 {q0 : Nat} (hq0 : Is ω q0 102 2000) (C : Cx ω p s m args c cX8_endOfRun 4 RX8) (hr : meth.sig.returnType = some .int) (hk : meth.locks = false) {rr : Int32} {μ : Mem} {x1 : Int32} : ∀ (n : Nat) (x3 : Int32) (H : Heap) (locs : List Loc) (ls : Array Slot), Hd ω μ H → FS ω s H locs → lv_has ls 4 [(0, .ref (wB ω + q0)), (1, .int x1), (3, .int x3)] → fX8_endOfRun_l20 q0 x1 μ n x3 = some rr → W p l e (rmd 2) s m args below meth c H locs 0 0 (MQ below (QR ω (some (.int rr)) μ) args s 0 0 (wA ω)) (F0 m 20 ls []) := by
  intro n
  induction n with
  | zero => intro x3 H locs ls hH hS hl h; cases h
  | succ n ih => intro x3 H locs ls hH hS hl h; exact wX8_endOfRun_s20 hq0 C hr hk ih hH hS hl h
set_option maxHeartbeats 4000000 in
set_option maxRecDepth 100000 in
theorem wX8_endOfRun_e {q0 : Nat} (hq0 : Is ω q0 102 2000) (C : Cx ω p s m args c cX8_endOfRun 4 RX8) (hr : meth.sig.returnType = some .int) (hk : meth.locks = false) {rr : Int32} {μ : Mem} {x1 : Int32} {x2 : Int32} {H : Heap} {locs : List Loc} {ls : Array Slot} (hH : Hd ω μ H) (hS : FS ω s H locs) (hl : lv_has ls 4 [(0, .ref (wB ω + q0)), (1, .int x1), (2, .int x2)]) (h : fX8_endOfRun q0 x1 x2 μ = some rr) : W p l e (rmd 2) s m args below meth c H locs 0 0 (MQ below (QR ω (some (.int rr)) μ) args s 0 0 (wA ω)) (F0 m 0 ls []) := by
  have hx := C.1
  have hb := C.2.1
  unfold fX8_endOfRun at h
  refine lv_iload_n hx hb dX8_endOfRun_0 rfl (lv_at hl 2 rfl) ?_
  refine lv_iload_n hx hb dX8_endOfRun_1 rfl (lv_at hl 1 rfl) ?_
  refine lv_icmp_lt (tgt := 7) hx hb dX8_endOfRun_2 (by decide) (fun hc => ?_) (fun hc => ?_)
  · have h := ite_t hc h
    refine lv_iload_n hx hb dX8_endOfRun_7 rfl (lv_at hl 2 rfl) ?_
    refine lv_iconst (v := 1) hx hb dX8_endOfRun_8 (by decide) ?_
    refine lv_iadd hx hb dX8_endOfRun_9 ?_
    obtain ⟨y1, e2, h⟩ := bd_e h
    refine h_topi e2 ?_
    refine lv_istore_n (lv' := [(3, .int y1), (0, .ref (wB ω + q0)), (1, .int x1), (2, .int x2)]) hx hb dX8_endOfRun_10 rfl hl (by decide) rfl (fun ls hl => ?_)
    refine lv_aload_n hx hb dX8_endOfRun_11 rfl (lv_at hl 1 rfl) ?_
    refine lv_iload_n hx hb dX8_endOfRun_12 rfl (lv_at hl 3 rfl) ?_
    obtain ⟨b3, h⟩ := gd_e h
    refine h_bald C hH hq0.1 hq0.2.1 b3 dX8_endOfRun_13 ?_
    obtain ⟨r5, e4, h⟩ := b1_e h
    refine cSi (as := [.int (μ.1 q0 x2.toNatClampNeg)]) (rest := []) (c_X8_isLetter e4) C hl.1 hH hS rfl wd_560 mw_X8_isLetter wd_559 rfl (rm_ok (by decide) (by decide)) (Nat.le_of_ble_eq_true rfl) ⟨Nat.zero_le _, Nat.zero_le _⟩ dX8_endOfRun_14 (fun H locs hH hS => ?_)
    refine lv_if_eq (tgt := 40) hx hb dX8_endOfRun_17 (by decide) (fun hc => ?_) (fun hc => ?_)
    · have h := ite_t hc h
      refine lv_aload_n hx hb dX8_endOfRun_40 rfl (lv_at hl 1 rfl) ?_
      refine lv_iload_n hx hb dX8_endOfRun_41 rfl (lv_at hl 3 rfl) ?_
      obtain ⟨b6, h⟩ := gd_e h
      refine h_bald C hH hq0.1 hq0.2.1 b6 dX8_endOfRun_42 ?_
      obtain ⟨r8, e7, h⟩ := b1_e h
      refine cSi (as := [.int (μ.1 q0 x2.toNatClampNeg)]) (rest := []) (c_X8_isDigit e7) C hl.1 hH hS rfl wd_563 mw_X8_isDigit wd_562 rfl (rm_ok (by decide) (by decide)) (Nat.le_of_ble_eq_true rfl) ⟨Nat.zero_le _, Nat.zero_le _⟩ dX8_endOfRun_43 (fun H locs hH hS => ?_)
      refine lv_if_eq (tgt := 69) hx hb dX8_endOfRun_46 (by decide) (fun hc => ?_) (fun hc => ?_)
      · have h := ite_t hc h
        refine lv_iload_n hx hb dX8_endOfRun_69 rfl (lv_at hl 0 rfl) ?_
        exact h_iret C hr hk hH hS rfl (by cases h; rfl) dX8_endOfRun_70
      · have h := ite_f hc h
        exact wX8_endOfRun_l49 hq0 C hr hk FU _ H locs ls hH hS (lv_sub hl [1, 2, 0] rfl) h
    · have h := ite_f hc h
      exact wX8_endOfRun_l20 hq0 C hr hk FU _ H locs ls hH hS (lv_sub hl [1, 2, 0] rfl) h
  · have h := ite_f hc h
    refine lv_iload_n hx hb dX8_endOfRun_5 rfl (lv_at hl 2 rfl) ?_
    exact h_iret C hr hk hH hS rfl (by cases h; rfl) dX8_endOfRun_6
theorem c_X8_endOfRun {l : Launch} {ω : WW} {q0 : Nat} {x1 : Int32} {x2 : Int32} (hq0 : Is ω q0 102 2000) {μ : Mem} {rr : Int32} (h : fX8_endOfRun q0 x1 x2 μ = some rr) : Con l yX8_endOfRun cX8_endOfRun 4 (some .int) 2 ω [.ref (wB ω + q0), .int x1, .int x2] μ (some (.int rr)) μ :=
  con_of (by decide) (Nat.le_of_ble_eq_true rfl) (fun p e s m args below meth c ls C hr hk hl hH hS => wX8_endOfRun_e hq0 C hr hk hH hS (lv_sub hl [0, 1, 2] rfl) h)
set_option maxHeartbeats 4000000 in
set_option maxRecDepth 100000 in
theorem wX8_nameOf_s5 {q0 : Nat} (hq0 : Is ω q0 102 2000) (C : Cx ω p s m args c cX8_nameOf 6 RX8) (hr : meth.sig.returnType = some .long) (hk : meth.locks = false) {rr : Int64} {μ : Mem} {x2 : Int32} {x3 : Int64} {x5 : Int32} {rec : Int64 → Int32 → Option Int64} (hrec : ∀ (z3 : Int64) (z5 : Int32) (H : Heap) (locs : List Loc) (ls : Array Slot), Hd ω μ H → FS ω s H locs → lv_has ls 6 [(0, .ref (wB ω + q0)), (2, .int x2), (3, .long z3), (5, .int z5)] → rec z3 z5 = some rr → W p l e (rmd 1) s m args below meth c H locs 0 0 (MQ below (QR ω (some (.long rr)) μ) args s 0 0 (wA ω)) (F0 m 5 ls [])) {H : Heap} {locs : List Loc} {ls : Array Slot} (hH : Hd ω μ H) (hS : FS ω s H locs) (hl : lv_has ls 6 [(0, .ref (wB ω + q0)), (2, .int x2), (3, .long x3), (5, .int x5)]) (h : fX8_nameOf_s5 rec q0 x2 x3 x5 μ = some rr) : W p l e (rmd 1) s m args below meth c H locs 0 0 (MQ below (QR ω (some (.long rr)) μ) args s 0 0 (wA ω)) (F0 m 5 ls []) := by
  have hx := C.1
  have hb := C.2.1
  unfold fX8_nameOf_s5 at h
  refine lv_iload hx hb dX8_nameOf_5 (lv_at hl 3 rfl) ?_
  refine lv_iload_n hx hb dX8_nameOf_7 rfl (lv_at hl 1 rfl) ?_
  refine lv_icmp_ge (tgt := 34) hx hb dX8_nameOf_8 (by decide) (fun hc => ?_) (fun hc => ?_)
  · have h := ite_t hc h
    refine lv_lload_n hx hb dX8_nameOf_34 rfl (lv_at hl 2 rfl) ?_
    exact h_lret C hr hk hH hS (by cases h; rfl) dX8_nameOf_35
  · have h := ite_f hc h
    refine lv_lload_n hx hb dX8_nameOf_11 rfl (lv_at hl 2 rfl) ?_
    refine lv_ldc2 (v := 27) hx hb C.2.2.2.1 (C.2.2.2.2.1 _ (tg wd_188 rfl)) dX8_nameOf_12 ?_
    refine lv_lmul hx hb dX8_nameOf_15 ?_
    refine lv_aload_n hx hb dX8_nameOf_16 rfl (lv_at hl 0 rfl) ?_
    refine lv_iload hx hb dX8_nameOf_17 (lv_at hl 3 rfl) ?_
    obtain ⟨b1, h⟩ := gd_e h
    refine h_bald C hH hq0.1 hq0.2.1 b1 dX8_nameOf_19 ?_
    refine lv_bipush (v := 97) hx hb dX8_nameOf_20 (by decide) ?_
    refine lv_isub hx hb dX8_nameOf_22 ?_
    refine lv_iconst (v := 1) hx hb dX8_nameOf_23 (by decide) ?_
    refine lv_iadd hx hb dX8_nameOf_24 ?_
    refine lv_i2l (v := (((μ.1 q0 x5.toNatClampNeg) - 97) + 1).toInt64) hx hb dX8_nameOf_25 rfl ?_
    refine lv_ladd hx hb dX8_nameOf_26 ?_
    obtain ⟨y2, e3, h⟩ := bd_e h
    refine h_topl e3 ?_
    refine lv_lstore_n (lv' := [(3, .long y2), (0, .ref (wB ω + q0)), (2, .int x2), (5, .int x5)]) hx hb dX8_nameOf_27 rfl hl (by decide) rfl (fun ls hl => ?_)
    refine lv_iinc (v := x5 + 1) (lv' := [(5, .int (x5 + 1)), (3, .long y2), (0, .ref (wB ω + q0)), (2, .int x2)]) hx hb dX8_nameOf_28 hl (k := 3) rfl rfl (by decide) rfl (fun ls hl => ?_)
    refine lv_goto (tgt := 5) hx hb dX8_nameOf_31 (by decide) ?_
    exact hrec _ _ H locs ls hH hS (lv_sub hl [2, 3, 1, 0] rfl) h
theorem wX8_nameOf_l5 {q0 : Nat} (hq0 : Is ω q0 102 2000) (C : Cx ω p s m args c cX8_nameOf 6 RX8) (hr : meth.sig.returnType = some .long) (hk : meth.locks = false) {rr : Int64} {μ : Mem} {x2 : Int32} : ∀ (n : Nat) (x3 : Int64) (x5 : Int32) (H : Heap) (locs : List Loc) (ls : Array Slot), Hd ω μ H → FS ω s H locs → lv_has ls 6 [(0, .ref (wB ω + q0)), (2, .int x2), (3, .long x3), (5, .int x5)] → fX8_nameOf_l5 q0 x2 μ n x3 x5 = some rr → W p l e (rmd 1) s m args below meth c H locs 0 0 (MQ below (QR ω (some (.long rr)) μ) args s 0 0 (wA ω)) (F0 m 5 ls []) := by
  intro n
  induction n with
  | zero => intro x3 x5 H locs ls hH hS hl h; cases h
  | succ n ih => intro x3 x5 H locs ls hH hS hl h; exact wX8_nameOf_s5 hq0 C hr hk ih hH hS hl h
set_option maxHeartbeats 4000000 in
set_option maxRecDepth 100000 in
theorem wX8_nameOf_e {q0 : Nat} (hq0 : Is ω q0 102 2000) (C : Cx ω p s m args c cX8_nameOf 6 RX8) (hr : meth.sig.returnType = some .long) (hk : meth.locks = false) {rr : Int64} {μ : Mem} {x1 : Int32} {x2 : Int32} {H : Heap} {locs : List Loc} {ls : Array Slot} (hH : Hd ω μ H) (hS : FS ω s H locs) (hl : lv_has ls 6 [(0, .ref (wB ω + q0)), (1, .int x1), (2, .int x2)]) (h : fX8_nameOf q0 x1 x2 μ = some rr) : W p l e (rmd 1) s m args below meth c H locs 0 0 (MQ below (QR ω (some (.long rr)) μ) args s 0 0 (wA ω)) (F0 m 0 ls []) := by
  have hx := C.1
  have hb := C.2.1
  unfold fX8_nameOf at h
  refine lv_lconst (v := 0) hx hb dX8_nameOf_0 (by decide) ?_
  refine lv_lstore_n (lv' := [(3, .long 0), (0, .ref (wB ω + q0)), (1, .int x1), (2, .int x2)]) hx hb dX8_nameOf_1 rfl hl (by decide) rfl (fun ls hl => ?_)
  refine lv_iload_n hx hb dX8_nameOf_2 rfl (lv_at hl 2 rfl) ?_
  refine lv_istore (lv' := [(5, .int x1), (3, .long 0), (0, .ref (wB ω + q0)), (1, .int x1), (2, .int x2)]) hx hb dX8_nameOf_3 hl (by decide) rfl (fun ls hl => ?_)
  exact wX8_nameOf_l5 hq0 C hr hk FU _ _ H locs ls hH hS (lv_sub hl [2, 4, 1, 0] rfl) h
theorem c_X8_nameOf {l : Launch} {ω : WW} {q0 : Nat} {x1 : Int32} {x2 : Int32} (hq0 : Is ω q0 102 2000) {μ : Mem} {rr : Int64} (h : fX8_nameOf q0 x1 x2 μ = some rr) : Con l yX8_nameOf cX8_nameOf 6 (some .long) 1 ω [.ref (wB ω + q0), .int x1, .int x2] μ (some (.long rr)) μ :=
  con_of (by decide) (Nat.le_of_ble_eq_true rfl) (fun p e s m args below meth c ls C hr hk hl hH hS => wX8_nameOf_e hq0 C hr hk hH hS (lv_sub hl [0, 1, 2] rfl) h)
set_option maxHeartbeats 4000000 in
set_option maxRecDepth 100000 in
theorem wX8_kindOfName_s2 (hW : FWC ω) (C : Cx ω p s m args c cX8_kindOfName 4 RX8) (hr : meth.sig.returnType = some .int) (hk : meth.locks = false) {rr : Int32} {μ : Mem} {x1 : Int64} {x3 : Int32} {rec : Int32 → Option Int32} (hrec : ∀ (z3 : Int32) (H : Heap) (locs : List Loc) (ls : Array Slot), Hd ω μ H → FS ω s H locs → lv_has ls 4 [(0, .ref (wB ω + 4)), (1, .long x1), (3, .int z3)] → rec z3 = some rr → W p l e (rmd 1) s m args below meth c H locs 0 0 (MQ below (QR ω (some (.int rr)) μ) args s 0 0 (wA ω)) (F0 m 2 ls [])) {H : Heap} {locs : List Loc} {ls : Array Slot} (hH : Hd ω μ H) (hS : FS ω s H locs) (hl : lv_has ls 4 [(0, .ref (wB ω + 4)), (1, .long x1), (3, .int x3)]) (h : fX8_kindOfName_s2 rec x1 x3 μ = some rr) : W p l e (rmd 1) s m args below meth c H locs 0 0 (MQ below (QR ω (some (.int rr)) μ) args s 0 0 (wA ω)) (F0 m 2 ls []) := by
  have hx := C.1
  have hb := C.2.1
  unfold fX8_kindOfName_s2 at h
  refine lv_iload_n hx hb dX8_kindOfName_2 rfl (lv_at hl 2 rfl) ?_
  refine lv_bipush (v := 21) hx hb dX8_kindOfName_3 (by decide) ?_
  refine lv_icmp_ge (tgt := 27) hx hb dX8_kindOfName_5 (by decide) (fun hc => ?_) (fun hc => ?_)
  · have h := ite_t hc h
    refine lv_bipush (v := 21) hx hb dX8_kindOfName_27 (by decide) ?_
    exact h_iret C hr hk hH hS rfl (by cases h; rfl) dX8_kindOfName_29
  · have h := ite_f hc h
    refine lv_aload_n hx hb dX8_kindOfName_8 rfl (lv_at hl 0 rfl) ?_
    refine g_189 (i := 5) C hH (jC_4 hW) rfl dX8_kindOfName_9 ?_
    refine lv_iload_n hx hb dX8_kindOfName_12 rfl (lv_at hl 2 rfl) ?_
    obtain ⟨b1, h⟩ := gd_e h
    refine h_lald C hH (jC_5 hW).1 (jC_5 hW).2.1 b1 dX8_kindOfName_13 ?_
    refine lv_lload_n hx hb dX8_kindOfName_14 rfl (lv_at hl 1 rfl) ?_
    refine W.lcmp hx hb dX8_kindOfName_15 ?_
    refine lv_if_ne (tgt := 21) hx hb dX8_kindOfName_16 (by decide) (fun hc => ?_) (fun hc => ?_)
    · have h := ite_f hc h
      refine lv_iinc (v := x3 + 1) (lv' := [(3, .int (x3 + 1)), (0, .ref (wB ω + 4)), (1, .long x1)]) hx hb dX8_kindOfName_21 hl (k := 2) rfl rfl (by decide) rfl (fun ls hl => ?_)
      refine lv_goto (tgt := 2) hx hb dX8_kindOfName_24 (by decide) ?_
      exact hrec _ H locs ls hH hS (lv_sub hl [1, 2, 0] rfl) h
    · have h := ite_t hc h
      refine lv_iload_n hx hb dX8_kindOfName_19 rfl (lv_at hl 2 rfl) ?_
      exact h_iret C hr hk hH hS rfl (by cases h; rfl) dX8_kindOfName_20
theorem wX8_kindOfName_l2 (hW : FWC ω) (C : Cx ω p s m args c cX8_kindOfName 4 RX8) (hr : meth.sig.returnType = some .int) (hk : meth.locks = false) {rr : Int32} {μ : Mem} {x1 : Int64} : ∀ (n : Nat) (x3 : Int32) (H : Heap) (locs : List Loc) (ls : Array Slot), Hd ω μ H → FS ω s H locs → lv_has ls 4 [(0, .ref (wB ω + 4)), (1, .long x1), (3, .int x3)] → fX8_kindOfName_l2 x1 μ n x3 = some rr → W p l e (rmd 1) s m args below meth c H locs 0 0 (MQ below (QR ω (some (.int rr)) μ) args s 0 0 (wA ω)) (F0 m 2 ls []) := by
  intro n
  induction n with
  | zero => intro x3 H locs ls hH hS hl h; cases h
  | succ n ih => intro x3 H locs ls hH hS hl h; exact wX8_kindOfName_s2 hW C hr hk ih hH hS hl h
set_option maxHeartbeats 4000000 in
set_option maxRecDepth 100000 in
theorem wX8_kindOfName_e (hW : FWC ω) (C : Cx ω p s m args c cX8_kindOfName 4 RX8) (hr : meth.sig.returnType = some .int) (hk : meth.locks = false) {rr : Int32} {μ : Mem} {x1 : Int64} {H : Heap} {locs : List Loc} {ls : Array Slot} (hH : Hd ω μ H) (hS : FS ω s H locs) (hl : lv_has ls 4 [(0, .ref (wB ω + 4)), (1, .long x1)]) (h : fX8_kindOfName x1 μ = some rr) : W p l e (rmd 1) s m args below meth c H locs 0 0 (MQ below (QR ω (some (.int rr)) μ) args s 0 0 (wA ω)) (F0 m 0 ls []) := by
  have hx := C.1
  have hb := C.2.1
  unfold fX8_kindOfName at h
  refine lv_iconst (v := 0) hx hb dX8_kindOfName_0 (by decide) ?_
  refine lv_istore_n (lv' := [(3, .int 0), (0, .ref (wB ω + 4)), (1, .long x1)]) hx hb dX8_kindOfName_1 rfl hl (by decide) rfl (fun ls hl => ?_)
  exact wX8_kindOfName_l2 hW C hr hk FU _ H locs ls hH hS (lv_sub hl [1, 2, 0] rfl) h
theorem c_X8_kindOfName {l : Launch} {ω : WW} {x1 : Int64} (hW : FWC ω) {μ : Mem} {rr : Int32} (h : fX8_kindOfName x1 μ = some rr) : Con l yX8_kindOfName cX8_kindOfName 4 (some .int) 1 ω [.ref (wB ω + 4), .long x1] μ (some (.int rr)) μ :=
  con_of (by decide) (Nat.le_of_ble_eq_true rfl) (fun p e s m args below meth c ls C hr hk hl hH hS => wX8_kindOfName_e hW C hr hk hH hS (lv_sub hl [0, 1] rfl) h)
set_option maxHeartbeats 4000000 in
set_option maxRecDepth 100000 in
theorem wX8_numberOf_s5 {q0 : Nat} (hq0 : Is ω q0 102 2000) (C : Cx ω p s m args c cX8_numberOf 6 RX8) (hr : meth.sig.returnType = some .long) (hk : meth.locks = false) {rr : Int64} {μ : Mem} {x2 : Int32} {x3 : Int64} {x5 : Int32} {rec : Int64 → Int32 → Option Int64} (hrec : ∀ (z3 : Int64) (z5 : Int32) (H : Heap) (locs : List Loc) (ls : Array Slot), Hd ω μ H → FS ω s H locs → lv_has ls 6 [(0, .ref (wB ω + q0)), (2, .int x2), (3, .long z3), (5, .int z5)] → rec z3 z5 = some rr → W p l e (rmd 1) s m args below meth c H locs 0 0 (MQ below (QR ω (some (.long rr)) μ) args s 0 0 (wA ω)) (F0 m 5 ls [])) {H : Heap} {locs : List Loc} {ls : Array Slot} (hH : Hd ω μ H) (hS : FS ω s H locs) (hl : lv_has ls 6 [(0, .ref (wB ω + q0)), (2, .int x2), (3, .long x3), (5, .int x5)]) (h : fX8_numberOf_s5 rec q0 x2 x3 x5 μ = some rr) : W p l e (rmd 1) s m args below meth c H locs 0 0 (MQ below (QR ω (some (.long rr)) μ) args s 0 0 (wA ω)) (F0 m 5 ls []) := by
  have hx := C.1
  have hb := C.2.1
  unfold fX8_numberOf_s5 at h
  refine lv_iload hx hb dX8_numberOf_5 (lv_at hl 3 rfl) ?_
  refine lv_iload_n hx hb dX8_numberOf_7 rfl (lv_at hl 1 rfl) ?_
  refine lv_icmp_ge (tgt := 32) hx hb dX8_numberOf_8 (by decide) (fun hc => ?_) (fun hc => ?_)
  · have h := ite_t hc h
    refine lv_lload_n hx hb dX8_numberOf_32 rfl (lv_at hl 2 rfl) ?_
    exact h_lret C hr hk hH hS (by cases h; rfl) dX8_numberOf_33
  · have h := ite_f hc h
    refine lv_lload_n hx hb dX8_numberOf_11 rfl (lv_at hl 2 rfl) ?_
    refine lv_ldc2 (v := 10) hx hb C.2.2.2.1 (C.2.2.2.2.1 _ (tg wd_579 rfl)) dX8_numberOf_12 ?_
    refine lv_lmul hx hb dX8_numberOf_15 ?_
    refine lv_aload_n hx hb dX8_numberOf_16 rfl (lv_at hl 0 rfl) ?_
    refine lv_iload hx hb dX8_numberOf_17 (lv_at hl 3 rfl) ?_
    obtain ⟨b1, h⟩ := gd_e h
    refine h_bald C hH hq0.1 hq0.2.1 b1 dX8_numberOf_19 ?_
    refine lv_bipush (v := 48) hx hb dX8_numberOf_20 (by decide) ?_
    refine lv_isub hx hb dX8_numberOf_22 ?_
    refine lv_i2l (v := ((μ.1 q0 x5.toNatClampNeg) - 48).toInt64) hx hb dX8_numberOf_23 rfl ?_
    refine lv_ladd hx hb dX8_numberOf_24 ?_
    obtain ⟨y2, e3, h⟩ := bd_e h
    refine h_topl e3 ?_
    refine lv_lstore_n (lv' := [(3, .long y2), (0, .ref (wB ω + q0)), (2, .int x2), (5, .int x5)]) hx hb dX8_numberOf_25 rfl hl (by decide) rfl (fun ls hl => ?_)
    refine lv_iinc (v := x5 + 1) (lv' := [(5, .int (x5 + 1)), (3, .long y2), (0, .ref (wB ω + q0)), (2, .int x2)]) hx hb dX8_numberOf_26 hl (k := 3) rfl rfl (by decide) rfl (fun ls hl => ?_)
    refine lv_goto (tgt := 5) hx hb dX8_numberOf_29 (by decide) ?_
    exact hrec _ _ H locs ls hH hS (lv_sub hl [2, 3, 1, 0] rfl) h
theorem wX8_numberOf_l5 {q0 : Nat} (hq0 : Is ω q0 102 2000) (C : Cx ω p s m args c cX8_numberOf 6 RX8) (hr : meth.sig.returnType = some .long) (hk : meth.locks = false) {rr : Int64} {μ : Mem} {x2 : Int32} : ∀ (n : Nat) (x3 : Int64) (x5 : Int32) (H : Heap) (locs : List Loc) (ls : Array Slot), Hd ω μ H → FS ω s H locs → lv_has ls 6 [(0, .ref (wB ω + q0)), (2, .int x2), (3, .long x3), (5, .int x5)] → fX8_numberOf_l5 q0 x2 μ n x3 x5 = some rr → W p l e (rmd 1) s m args below meth c H locs 0 0 (MQ below (QR ω (some (.long rr)) μ) args s 0 0 (wA ω)) (F0 m 5 ls []) := by
  intro n
  induction n with
  | zero => intro x3 x5 H locs ls hH hS hl h; cases h
  | succ n ih => intro x3 x5 H locs ls hH hS hl h; exact wX8_numberOf_s5 hq0 C hr hk ih hH hS hl h
set_option maxHeartbeats 4000000 in
set_option maxRecDepth 100000 in
theorem wX8_numberOf_e {q0 : Nat} (hq0 : Is ω q0 102 2000) (C : Cx ω p s m args c cX8_numberOf 6 RX8) (hr : meth.sig.returnType = some .long) (hk : meth.locks = false) {rr : Int64} {μ : Mem} {x1 : Int32} {x2 : Int32} {H : Heap} {locs : List Loc} {ls : Array Slot} (hH : Hd ω μ H) (hS : FS ω s H locs) (hl : lv_has ls 6 [(0, .ref (wB ω + q0)), (1, .int x1), (2, .int x2)]) (h : fX8_numberOf q0 x1 x2 μ = some rr) : W p l e (rmd 1) s m args below meth c H locs 0 0 (MQ below (QR ω (some (.long rr)) μ) args s 0 0 (wA ω)) (F0 m 0 ls []) := by
  have hx := C.1
  have hb := C.2.1
  unfold fX8_numberOf at h
  refine lv_lconst (v := 0) hx hb dX8_numberOf_0 (by decide) ?_
  refine lv_lstore_n (lv' := [(3, .long 0), (0, .ref (wB ω + q0)), (1, .int x1), (2, .int x2)]) hx hb dX8_numberOf_1 rfl hl (by decide) rfl (fun ls hl => ?_)
  refine lv_iload_n hx hb dX8_numberOf_2 rfl (lv_at hl 2 rfl) ?_
  refine lv_istore (lv' := [(5, .int x1), (3, .long 0), (0, .ref (wB ω + q0)), (1, .int x1), (2, .int x2)]) hx hb dX8_numberOf_3 hl (by decide) rfl (fun ls hl => ?_)
  exact wX8_numberOf_l5 hq0 C hr hk FU _ _ H locs ls hH hS (lv_sub hl [2, 4, 1, 0] rfl) h
theorem c_X8_numberOf {l : Launch} {ω : WW} {q0 : Nat} {x1 : Int32} {x2 : Int32} (hq0 : Is ω q0 102 2000) {μ : Mem} {rr : Int64} (h : fX8_numberOf q0 x1 x2 μ = some rr) : Con l yX8_numberOf cX8_numberOf 6 (some .long) 1 ω [.ref (wB ω + q0), .int x1, .int x2] μ (some (.long rr)) μ :=
  con_of (by decide) (Nat.le_of_ble_eq_true rfl) (fun p e s m args below meth c ls C hr hk hl hH hS => wX8_numberOf_e hq0 C hr hk hH hS (lv_sub hl [0, 1, 2] rfl) h)
set_option maxHeartbeats 4000000 in
set_option maxRecDepth 100000 in
theorem wX8_putToken_b183 {q1 : Nat} (hW : FWC ω) (hq1 : Is ω q1 102 2000) (C : Cx ω p s m args c cX8_putToken 4 RX8) (hr : meth.sig.returnType = none) (hk : meth.locks = false) {μo : Mem} {k1 : Int32} {k2 : Int32} {μ : Mem} {H : Heap} {locs : List Loc} {ls : Array Slot} (hH : Hd ω μ H) (hS : FS ω s H locs) (hl : lv_has ls 4 [(0, .ref (wB ω + 4))]) (h : fX8_putToken_b183 q1 k1 k2 μ = some μo) : W p l e (rmd 9) s m args below meth c H locs 0 0 (MQ below (QR ω none μo) args s 0 0 (wA ω)) (F0 m 183 ls [.int k2, .int k1, .ref (wB ω + 6)]) := by
  obtain ⟨X, hE0⟩ := hW.2.2
  have hE := hE0 s C.2.2.2.2.2.2.1
  have hx := C.1
  have hb := C.2.1
  unfold fX8_putToken_b183 at h
  obtain ⟨b16, h⟩ := gd_e h
  obtain ⟨μ17, e18, h⟩ := bd_e h
  refine h_iast C hH hS (jC_6 hW).1 (jC_6 hW).2.1 b16 dX8_putToken_183 (fun H locs hH hS => ?_)
  have hH := Hd.to e18 hH
  refine lv_aload_n hx hb dX8_putToken_184 rfl (lv_at hl 0 rfl) ?_
  refine lv_dup hx hb dX8_putToken_185 rfl ?_
  refine g_196 C hH (jC_4 hW) dX8_putToken_186 ?_
  refine lv_iconst (v := 1) hx hb dX8_putToken_189 (by decide) ?_
  refine lv_iadd hx hb dX8_putToken_190 ?_
  obtain ⟨μ19, e20, h⟩ := bd_e h
  refine p_196 C hH hS (jC_4 hW) dX8_putToken_191 (fun H locs hH hS => ?_)
  have hH := Hd.to e20 hH
  exact h_vret C hr hk hH hS (by cases h; rfl) dX8_putToken_194
set_option maxHeartbeats 4000000 in
set_option maxRecDepth 100000 in
theorem wX8_putToken_b147 {q1 : Nat} (hW : FWC ω) (hq1 : Is ω q1 102 2000) (C : Cx ω p s m args c cX8_putToken 4 RX8) (hr : meth.sig.returnType = none) (hk : meth.locks = false) {μo : Mem} {k1 : Int32} {k2 : Int32} {μ : Mem} {H : Heap} {locs : List Loc} {ls : Array Slot} (hH : Hd ω μ H) (hS : FS ω s H locs) (hl : lv_has ls 4 [(0, .ref (wB ω + 4))]) (h : fX8_putToken_b147 q1 k1 k2 μ = some μo) : W p l e (rmd 9) s m args below meth c H locs 0 0 (MQ below (QR ω none μo) args s 0 0 (wA ω)) (F0 m 147 ls [.int k2, .int k1, .ref (wB ω + 6)]) := by
  obtain ⟨X, hE0⟩ := hW.2.2
  have hE := hE0 s C.2.2.2.2.2.2.1
  have hx := C.1
  have hb := C.2.1
  unfold fX8_putToken_b147 at h
  obtain ⟨b27, h⟩ := gd_e h
  obtain ⟨μ28, e29, h⟩ := bd_e h
  refine h_iast C hH hS (jC_6 hW).1 (jC_6 hW).2.1 b27 dX8_putToken_147 (fun H locs hH hS => ?_)
  have hH := Hd.to e29 hH
  refine lv_goto (tgt := 184) hx hb dX8_putToken_148 (by decide) ?_
  refine lv_aload_n hx hb dX8_putToken_184 rfl (lv_at hl 0 rfl) ?_
  refine lv_dup hx hb dX8_putToken_185 rfl ?_
  refine g_196 C hH (jC_4 hW) dX8_putToken_186 ?_
  refine lv_iconst (v := 1) hx hb dX8_putToken_189 (by decide) ?_
  refine lv_iadd hx hb dX8_putToken_190 ?_
  obtain ⟨μ30, e31, h⟩ := bd_e h
  refine p_196 C hH hS (jC_4 hW) dX8_putToken_191 (fun H locs hH hS => ?_)
  have hH := Hd.to e31 hH
  exact h_vret C hr hk hH hS (by cases h; rfl) dX8_putToken_194
set_option maxHeartbeats 4000000 in
set_option maxRecDepth 100000 in
theorem wX8_putToken_b97 {q1 : Nat} (hW : FWC ω) (hq1 : Is ω q1 102 2000) (C : Cx ω p s m args c cX8_putToken 4 RX8) (hr : meth.sig.returnType = none) (hk : meth.locks = false) {μo : Mem} {k1 : Int32} {k2 : Int32} {μ : Mem} {H : Heap} {locs : List Loc} {ls : Array Slot} (hH : Hd ω μ H) (hS : FS ω s H locs) (hl : lv_has ls 4 [(0, .ref (wB ω + 4))]) (h : fX8_putToken_b97 q1 k1 k2 μ = some μo) : W p l e (rmd 9) s m args below meth c H locs 0 0 (MQ below (QR ω none μo) args s 0 0 (wA ω)) (F0 m 97 ls [.int k2, .int k1, .ref (wB ω + 6)]) := by
  obtain ⟨X, hE0⟩ := hW.2.2
  have hE := hE0 s C.2.2.2.2.2.2.1
  have hx := C.1
  have hb := C.2.1
  unfold fX8_putToken_b97 at h
  obtain ⟨b40, h⟩ := gd_e h
  obtain ⟨μ41, e42, h⟩ := bd_e h
  refine h_iast C hH hS (jC_6 hW).1 (jC_6 hW).2.1 b40 dX8_putToken_97 (fun H locs hH hS => ?_)
  have hH := Hd.to e42 hH
  refine lv_goto (tgt := 184) hx hb dX8_putToken_98 (by decide) ?_
  refine lv_aload_n hx hb dX8_putToken_184 rfl (lv_at hl 0 rfl) ?_
  refine lv_dup hx hb dX8_putToken_185 rfl ?_
  refine g_196 C hH (jC_4 hW) dX8_putToken_186 ?_
  refine lv_iconst (v := 1) hx hb dX8_putToken_189 (by decide) ?_
  refine lv_iadd hx hb dX8_putToken_190 ?_
  obtain ⟨μ43, e44, h⟩ := bd_e h
  refine p_196 C hH hS (jC_4 hW) dX8_putToken_191 (fun H locs hH hS => ?_)
  have hH := Hd.to e44 hH
  exact h_vret C hr hk hH hS (by cases h; rfl) dX8_putToken_194
set_option maxHeartbeats 4000000 in
set_option maxRecDepth 100000 in
theorem wX8_putToken_e {q1 : Nat} (hW : FWC ω) (hq1 : Is ω q1 102 2000) (C : Cx ω p s m args c cX8_putToken 4 RX8) (hr : meth.sig.returnType = none) (hk : meth.locks = false) {μo : Mem} {x2 : Int32} {x3 : Int32} {μ : Mem} {H : Heap} {locs : List Loc} {ls : Array Slot} (hH : Hd ω μ H) (hS : FS ω s H locs) (hl : lv_has ls 4 [(0, .ref (wB ω + 4)), (1, .ref (wB ω + q1)), (2, .int x2), (3, .int x3)]) (h : fX8_putToken q1 x2 x3 μ = some μo) : W p l e (rmd 9) s m args below meth c H locs 0 0 (MQ below (QR ω none μo) args s 0 0 (wA ω)) (F0 m 0 ls []) := by
  obtain ⟨X, hE0⟩ := hW.2.2
  have hE := hE0 s C.2.2.2.2.2.2.1
  have hx := C.1
  have hb := C.2.1
  unfold fX8_putToken at h
  refine lv_aload_n hx hb dX8_putToken_0 rfl (lv_at hl 0 rfl) ?_
  refine g_194 (i := 8) C hH (jC_4 hW) rfl dX8_putToken_1 ?_
  refine lv_aload_n hx hb dX8_putToken_4 rfl (lv_at hl 0 rfl) ?_
  refine g_196 C hH (jC_4 hW) dX8_putToken_5 ?_
  refine lv_iload_n hx hb dX8_putToken_8 rfl (lv_at hl 2 rfl) ?_
  obtain ⟨b1, h⟩ := gd_e h
  obtain ⟨μ2, e3, h⟩ := bd_e h
  refine h_iast C hH hS (jC_8 hW).1 (jC_8 hW).2.1 b1 dX8_putToken_9 (fun H locs hH hS => ?_)
  have hH := Hd.to e3 hH
  refine lv_aload_n hx hb dX8_putToken_10 rfl (lv_at hl 0 rfl) ?_
  refine g_192 (i := 7) C hH (jC_4 hW) rfl dX8_putToken_11 ?_
  refine lv_aload_n hx hb dX8_putToken_14 rfl (lv_at hl 0 rfl) ?_
  refine g_196 C hH (jC_4 hW) dX8_putToken_15 ?_
  refine lv_lconst (v := 0) hx hb dX8_putToken_18 (by decide) ?_
  obtain ⟨b4, h⟩ := gd_e h
  obtain ⟨μ5, e6, h⟩ := bd_e h
  refine h_last C hH hS (jC_7 hW).1 (jC_7 hW).2.1 b4 dX8_putToken_19 (fun H locs hH hS => ?_)
  have hH := Hd.to e6 hH
  refine lv_iload_n hx hb dX8_putToken_20 rfl (lv_at hl 2 rfl) ?_
  refine lv_iload_n hx hb dX8_putToken_21 rfl (lv_at hl 3 rfl) ?_
  refine lv_icmp_ne (tgt := 39) hx hb dX8_putToken_22 (by decide) (fun hc => ?_) (fun hc => ?_)
  · have h := ite_f hc h
    refine lv_aload_n hx hb dX8_putToken_39 rfl (lv_at hl 1 rfl) ?_
    refine lv_iload_n hx hb dX8_putToken_40 rfl (lv_at hl 2 rfl) ?_
    obtain ⟨b7, h⟩ := gd_e h
    refine h_bald C hH hq1.1 hq1.2.1 b7 dX8_putToken_41 ?_
    obtain ⟨r9, e8, h⟩ := b1_e h
    refine cSi (as := [.int (μ5.1 q1 x2.toNatClampNeg)]) (rest := []) (c_X8_isLetter e8) C hl.1 hH hS rfl wd_560 mw_X8_isLetter wd_559 rfl (rm_ok (by decide) (by decide)) (Nat.le_of_ble_eq_true rfl) ⟨Nat.zero_le _, Nat.zero_le _⟩ dX8_putToken_42 (fun H locs hH hS => ?_)
    refine lv_if_eq (tgt := 101) hx hb dX8_putToken_45 (by decide) (fun hc => ?_) (fun hc => ?_)
    · have h := ite_t hc h
      refine lv_aload_n hx hb dX8_putToken_101 rfl (lv_at hl 1 rfl) ?_
      refine lv_iload_n hx hb dX8_putToken_102 rfl (lv_at hl 2 rfl) ?_
      obtain ⟨b10, h⟩ := gd_e h
      refine h_bald C hH hq1.1 hq1.2.1 b10 dX8_putToken_103 ?_
      obtain ⟨r12, e11, h⟩ := b1_e h
      refine cSi (as := [.int (μ5.1 q1 x2.toNatClampNeg)]) (rest := []) (c_X8_isDigit e11) C hl.1 hH hS rfl wd_563 mw_X8_isDigit wd_562 rfl (rm_ok (by decide) (by decide)) (Nat.le_of_ble_eq_true rfl) ⟨Nat.zero_le _, Nat.zero_le _⟩ dX8_putToken_104 (fun H locs hH hS => ?_)
      refine lv_if_eq (tgt := 151) hx hb dX8_putToken_107 (by decide) (fun hc => ?_) (fun hc => ?_)
      · have h := ite_t hc h
        refine lv_aload_n hx hb dX8_putToken_151 rfl (lv_at hl 0 rfl) ?_
        refine g_190 (i := 6) C hH (jC_4 hW) rfl dX8_putToken_152 ?_
        refine lv_aload_n hx hb dX8_putToken_155 rfl (lv_at hl 0 rfl) ?_
        refine g_196 C hH (jC_4 hW) dX8_putToken_156 ?_
        refine h_signs hE C hS dX8_putToken_159 ?_
        refine lv_aload_n hx hb dX8_putToken_161 rfl (lv_at hl 1 rfl) ?_
        refine lv_iload_n hx hb dX8_putToken_162 rfl (lv_at hl 2 rfl) ?_
        obtain ⟨b13, h⟩ := gd_e h
        refine h_bald C hH hq1.1 hq1.2.1 b13 dX8_putToken_163 ?_
        refine lv_sipush (v := 255) hx hb dX8_putToken_164 (by decide) ?_
        refine lv_iand hx hb dX8_putToken_167 ?_
        refine lv_i2c (v := (((μ5.1 q1 x2.toNatClampNeg) &&& 255).toUInt32 % 65536).toInt32) hx hb dX8_putToken_168 rfl ?_
        obtain ⟨r14, e15, h⟩ := b1_e h
        refine h_indexOf (rest := [.int (μ5.1 4 4), .ref (wB ω + 6)]) hE0 C hl.1 hH hS (by decide) (Nat.le_of_ble_eq_true rfl) e15 dX8_putToken_169 (fun H locs hH hS => ?_)
        refine lv_if_lt (tgt := 181) hx hb dX8_putToken_172 (by decide) (fun hc => ?_) (fun hc => ?_)
        · have h := ite_t hc h
          refine lv_bipush (v := 24) hx hb dX8_putToken_181 (by decide) ?_
          exact wX8_putToken_b183 hW hq1 C hr hk hH hS (lv_sub hl [0] rfl) h
        · have h := ite_f hc h
          refine lv_aload_n hx hb dX8_putToken_175 rfl (lv_at hl 1 rfl) ?_
          refine lv_iload_n hx hb dX8_putToken_176 rfl (lv_at hl 2 rfl) ?_
          obtain ⟨b21, h⟩ := gd_e h
          refine h_bald C hH hq1.1 hq1.2.1 b21 dX8_putToken_177 ?_
          refine lv_goto (tgt := 183) hx hb dX8_putToken_178 (by decide) ?_
          exact wX8_putToken_b183 hW hq1 C hr hk hH hS (lv_sub hl [0] rfl) h
      · have h := ite_f hc h
        refine lv_aload_n hx hb dX8_putToken_110 rfl (lv_at hl 0 rfl) ?_
        refine g_192 (i := 7) C hH (jC_4 hW) rfl dX8_putToken_111 ?_
        refine lv_aload_n hx hb dX8_putToken_114 rfl (lv_at hl 0 rfl) ?_
        refine g_196 C hH (jC_4 hW) dX8_putToken_115 ?_
        refine lv_aload_n hx hb dX8_putToken_118 rfl (lv_at hl 1 rfl) ?_
        refine lv_iload_n hx hb dX8_putToken_119 rfl (lv_at hl 2 rfl) ?_
        refine lv_iload_n hx hb dX8_putToken_120 rfl (lv_at hl 3 rfl) ?_
        obtain ⟨r23, e22, h⟩ := b1_e h
        refine cSl (as := [.ref (wB ω + q1), .int x2, .int x3]) (rest := [.int (μ5.1 4 4), .ref (wB ω + 7)]) (c_X8_numberOf hq1 e22) C hl.1 hH hS rfl wd_577 mw_X8_numberOf wd_576 rfl (rm_ok (by decide) (by decide)) (Nat.le_of_ble_eq_true rfl) ⟨Nat.zero_le _, Nat.zero_le _⟩ dX8_putToken_121 (fun H locs hH hS => ?_)
        obtain ⟨b24, h⟩ := gd_e h
        obtain ⟨μ25, e26, h⟩ := bd_e h
        refine h_last C hH hS (jC_7 hW).1 (jC_7 hW).2.1 b24 dX8_putToken_124 (fun H locs hH hS => ?_)
        have hH := Hd.to e26 hH
        refine lv_aload_n hx hb dX8_putToken_125 rfl (lv_at hl 0 rfl) ?_
        refine g_190 (i := 6) C hH (jC_4 hW) rfl dX8_putToken_126 ?_
        refine lv_aload_n hx hb dX8_putToken_129 rfl (lv_at hl 0 rfl) ?_
        refine g_196 C hH (jC_4 hW) dX8_putToken_130 ?_
        refine lv_iload_n hx hb dX8_putToken_133 rfl (lv_at hl 3 rfl) ?_
        refine lv_iload_n hx hb dX8_putToken_134 rfl (lv_at hl 2 rfl) ?_
        refine lv_isub hx hb dX8_putToken_135 ?_
        refine lv_iconst (v := 4) hx hb dX8_putToken_136 (by decide) ?_
        refine lv_icmp_le (tgt := 145) hx hb dX8_putToken_137 (by decide) (fun hc => ?_) (fun hc => ?_)
        · have h := ite_t hc h
          refine lv_bipush (v := 22) hx hb dX8_putToken_145 (by decide) ?_
          exact wX8_putToken_b147 hW hq1 C hr hk hH hS (lv_sub hl [0] rfl) h
        · have h := ite_f hc h
          refine lv_bipush (v := 24) hx hb dX8_putToken_140 (by decide) ?_
          refine lv_goto (tgt := 147) hx hb dX8_putToken_142 (by decide) ?_
          exact wX8_putToken_b147 hW hq1 C hr hk hH hS (lv_sub hl [0] rfl) h
    · have h := ite_f hc h
      refine lv_aload_n hx hb dX8_putToken_48 rfl (lv_at hl 0 rfl) ?_
      refine g_192 (i := 7) C hH (jC_4 hW) rfl dX8_putToken_49 ?_
      refine lv_aload_n hx hb dX8_putToken_52 rfl (lv_at hl 0 rfl) ?_
      refine g_196 C hH (jC_4 hW) dX8_putToken_53 ?_
      refine lv_aload_n hx hb dX8_putToken_56 rfl (lv_at hl 1 rfl) ?_
      refine lv_iload_n hx hb dX8_putToken_57 rfl (lv_at hl 2 rfl) ?_
      refine lv_iload_n hx hb dX8_putToken_58 rfl (lv_at hl 3 rfl) ?_
      obtain ⟨r33, e32, h⟩ := b1_e h
      refine cSl (as := [.ref (wB ω + q1), .int x2, .int x3]) (rest := [.int (μ5.1 4 4), .ref (wB ω + 7)]) (c_X8_nameOf hq1 e32) C hl.1 hH hS rfl wd_570 mw_X8_nameOf wd_569 rfl (rm_ok (by decide) (by decide)) (Nat.le_of_ble_eq_true rfl) ⟨Nat.zero_le _, Nat.zero_le _⟩ dX8_putToken_59 (fun H locs hH hS => ?_)
      obtain ⟨b34, h⟩ := gd_e h
      obtain ⟨μ35, e36, h⟩ := bd_e h
      refine h_last C hH hS (jC_7 hW).1 (jC_7 hW).2.1 b34 dX8_putToken_62 (fun H locs hH hS => ?_)
      have hH := Hd.to e36 hH
      refine lv_aload_n hx hb dX8_putToken_63 rfl (lv_at hl 0 rfl) ?_
      refine g_190 (i := 6) C hH (jC_4 hW) rfl dX8_putToken_64 ?_
      refine lv_aload_n hx hb dX8_putToken_67 rfl (lv_at hl 0 rfl) ?_
      refine g_196 C hH (jC_4 hW) dX8_putToken_68 ?_
      refine lv_iload_n hx hb dX8_putToken_71 rfl (lv_at hl 3 rfl) ?_
      refine lv_iload_n hx hb dX8_putToken_72 rfl (lv_at hl 2 rfl) ?_
      refine lv_isub hx hb dX8_putToken_73 ?_
      refine lv_bipush (v := 8) hx hb dX8_putToken_74 (by decide) ?_
      refine lv_icmp_le (tgt := 84) hx hb dX8_putToken_76 (by decide) (fun hc => ?_) (fun hc => ?_)
      · have h := ite_t hc h
        refine lv_aload_n hx hb dX8_putToken_84 rfl (lv_at hl 0 rfl) ?_
        refine lv_aload_n hx hb dX8_putToken_85 rfl (lv_at hl 0 rfl) ?_
        refine g_192 (i := 7) C hH (jC_4 hW) rfl dX8_putToken_86 ?_
        refine lv_aload_n hx hb dX8_putToken_89 rfl (lv_at hl 0 rfl) ?_
        refine g_196 C hH (jC_4 hW) dX8_putToken_90 ?_
        obtain ⟨b37, h⟩ := gd_e h
        refine h_lald C hH (jC_7 hW).1 (jC_7 hW).2.1 b37 dX8_putToken_93 ?_
        obtain ⟨r39, e38, h⟩ := b1_e h
        refine cVi (as := [.long (μ35.2 7 ((μ35.1 4 4).toNatClampNeg))]) (rest := [.int (μ35.1 4 4), .ref (wB ω + 6)]) (c_X8_kindOfName hW e38) C hl.1 hH hS rfl (jC_4 hW) rfl wd_2 wd_574 mw_X8_kindOfName wd_572 rfl (rm_ok (by decide) (by decide)) (Nat.le_of_ble_eq_true rfl) ⟨Nat.zero_le _, Nat.zero_le _⟩ (by decide) dX8_putToken_94 (fun H locs hH hS => ?_)
        exact wX8_putToken_b97 hW hq1 C hr hk hH hS (lv_sub hl [0] rfl) h
      · have h := ite_f hc h
        refine lv_bipush (v := 24) hx hb dX8_putToken_79 (by decide) ?_
        refine lv_goto (tgt := 97) hx hb dX8_putToken_81 (by decide) ?_
        exact wX8_putToken_b97 hW hq1 C hr hk hH hS (lv_sub hl [0] rfl) h
  · have h := ite_t hc h
    refine lv_aload_n hx hb dX8_putToken_25 rfl (lv_at hl 0 rfl) ?_
    refine g_190 (i := 6) C hH (jC_4 hW) rfl dX8_putToken_26 ?_
    refine lv_aload_n hx hb dX8_putToken_29 rfl (lv_at hl 0 rfl) ?_
    refine g_196 C hH (jC_4 hW) dX8_putToken_30 ?_
    refine lv_bipush (v := 23) hx hb dX8_putToken_33 (by decide) ?_
    obtain ⟨b45, h⟩ := gd_e h
    obtain ⟨μ46, e47, h⟩ := bd_e h
    refine h_iast C hH hS (jC_6 hW).1 (jC_6 hW).2.1 b45 dX8_putToken_35 (fun H locs hH hS => ?_)
    have hH := Hd.to e47 hH
    refine lv_goto (tgt := 184) hx hb dX8_putToken_36 (by decide) ?_
    refine lv_aload_n hx hb dX8_putToken_184 rfl (lv_at hl 0 rfl) ?_
    refine lv_dup hx hb dX8_putToken_185 rfl ?_
    refine g_196 C hH (jC_4 hW) dX8_putToken_186 ?_
    refine lv_iconst (v := 1) hx hb dX8_putToken_189 (by decide) ?_
    refine lv_iadd hx hb dX8_putToken_190 ?_
    obtain ⟨μ48, e49, h⟩ := bd_e h
    refine p_196 C hH hS (jC_4 hW) dX8_putToken_191 (fun H locs hH hS => ?_)
    have hH := Hd.to e49 hH
    exact h_vret C hr hk hH hS (by cases h; rfl) dX8_putToken_194
theorem c_X8_putToken {l : Launch} {ω : WW} {q1 : Nat} {x2 : Int32} {x3 : Int32} (hW : FWC ω) (hq1 : Is ω q1 102 2000) {μ : Mem} {μo : Mem} (h : fX8_putToken q1 x2 x3 μ = some μo) : Con l yX8_putToken cX8_putToken 4 none 9 ω [.ref (wB ω + 4), .ref (wB ω + q1), .int x2, .int x3] μ none μo :=
  con_of (by decide) (Nat.le_of_ble_eq_true rfl) (fun p e s m args below meth c ls C hr hk hl hH hS => wX8_putToken_e hW hq1 C hr hk hH hS (lv_sub hl [0, 1, 2, 3] rfl) h)
set_option maxHeartbeats 4000000 in
set_option maxRecDepth 100000 in
theorem wX8_split_s10 {q1 : Nat} (hW : FWC ω) (hq1 : Is ω q1 102 2000) (C : Cx ω p s m args c cX8_split 6 RX8) (hr : meth.sig.returnType = none) (hk : meth.locks = false) {μo : Mem} {x2 : Int32} {x3 : Int32} {x4 : Int32} {rec : Int32 → Int32 → Mem → Option Mem} (hrec : ∀ (z3 : Int32) (z4 : Int32) (ν : Mem) (H : Heap) (locs : List Loc) (ls : Array Slot), Hd ω ν H → FS ω s H locs → lv_has ls 6 [(0, .ref (wB ω + 4)), (1, .ref (wB ω + q1)), (2, .int x2), (3, .int z3), (4, .int z4)] → rec z3 z4 ν = some μo → W p l e (rmd 10) s m args below meth c H locs 0 0 (MQ below (QR ω none μo) args s 0 0 (wA ω)) (F0 m 10 ls [])) {μ : Mem} {H : Heap} {locs : List Loc} {ls : Array Slot} (hH : Hd ω μ H) (hS : FS ω s H locs) (hl : lv_has ls 6 [(0, .ref (wB ω + 4)), (1, .ref (wB ω + q1)), (2, .int x2), (3, .int x3), (4, .int x4)]) (h : fX8_split_s10 rec q1 x2 x3 x4 μ = some μo) : W p l e (rmd 10) s m args below meth c H locs 0 0 (MQ below (QR ω none μo) args s 0 0 (wA ω)) (F0 m 10 ls []) := by
  have hx := C.1
  have hb := C.2.1
  unfold fX8_split_s10 at h
  refine lv_iload hx hb dX8_split_10 (lv_at hl 4 rfl) ?_
  refine lv_sipush (v := 400) hx hb dX8_split_12 (by decide) ?_
  refine lv_icmp_gt (tgt := 75) hx hb dX8_split_15 (by decide) (fun hc => ?_) (fun hc => ?_)
  · have h := ite_t hc h
    exact h_vret C hr hk hH hS (by cases h; rfl) dX8_split_75
  · have h := ite_f hc h
    refine lv_aload_n hx hb dX8_split_18 rfl (lv_at hl 1 rfl) ?_
    refine lv_iload_n hx hb dX8_split_19 rfl (lv_at hl 2 rfl) ?_
    refine lv_iload_n hx hb dX8_split_20 rfl (lv_at hl 3 rfl) ?_
    obtain ⟨r4, e3, h⟩ := b1_e h
    refine cSi (as := [.ref (wB ω + q1), .int x2, .int x3]) (rest := []) (c_X8_endOfBlanks hq1 e3) C hl.1 hH hS rfl wd_551 mw_X8_endOfBlanks wd_550 rfl (rm_ok (by decide) (by decide)) (Nat.le_of_ble_eq_true rfl) ⟨Nat.zero_le _, Nat.zero_le _⟩ dX8_split_21 (fun H locs hH hS => ?_)
    refine lv_istore_n (lv' := [(3, .int r4), (0, .ref (wB ω + 4)), (1, .ref (wB ω + q1)), (2, .int x2), (4, .int x4)]) hx hb dX8_split_24 rfl hl (by decide) rfl (fun ls hl => ?_)
    refine lv_aload_n hx hb dX8_split_25 rfl (lv_at hl 2 rfl) ?_
    refine lv_iload_n hx hb dX8_split_26 rfl (lv_at hl 3 rfl) ?_
    refine lv_iload_n hx hb dX8_split_27 rfl (lv_at hl 0 rfl) ?_
    obtain ⟨r6, e5, h⟩ := b1_e h
    refine cSi (as := [.ref (wB ω + q1), .int x2, .int r4]) (rest := []) (c_X8_endOfRun hq1 e5) C hl.1 hH hS rfl wd_557 mw_X8_endOfRun wd_556 rfl (rm_ok (by decide) (by decide)) (Nat.le_of_ble_eq_true rfl) ⟨Nat.zero_le _, Nat.zero_le _⟩ dX8_split_28 (fun H locs hH hS => ?_)
    refine lv_istore (lv' := [(5, .int r6), (3, .int r4), (0, .ref (wB ω + 4)), (1, .ref (wB ω + q1)), (2, .int x2), (4, .int x4)]) hx hb dX8_split_31 hl (by decide) rfl (fun ls hl => ?_)
    refine lv_aload_n hx hb dX8_split_33 rfl (lv_at hl 2 rfl) ?_
    refine lv_aload_n hx hb dX8_split_34 rfl (lv_at hl 3 rfl) ?_
    refine lv_iload_n hx hb dX8_split_35 rfl (lv_at hl 1 rfl) ?_
    refine lv_iload hx hb dX8_split_36 (lv_at hl 0 rfl) ?_
    obtain ⟨μ8, e7, h⟩ := b1_e h
    refine cVv (as := [.ref (wB ω + q1), .int r4, .int r6]) (rest := []) (c_X8_putToken hW hq1 e7) C hl.1 hH hS rfl (jC_4 hW) rfl wd_1 wd_567 mw_X8_putToken wd_565 rfl (rm_ok (by decide) (by decide)) (Nat.le_of_ble_eq_true rfl) ⟨Nat.zero_le _, Nat.zero_le _⟩ (by decide) dX8_split_38 (fun H locs hH hS => ?_)
    refine lv_aload_n hx hb dX8_split_41 rfl (lv_at hl 2 rfl) ?_
    refine g_190 (i := 6) C hH (jC_4 hW) rfl dX8_split_42 ?_
    refine lv_iload hx hb dX8_split_45 (lv_at hl 5 rfl) ?_
    obtain ⟨b9, h⟩ := gd_e h
    refine h_iald C hH (jC_6 hW).1 (jC_6 hW).2.1 b9 dX8_split_47 ?_
    refine lv_bipush (v := 23) hx hb dX8_split_48 (by decide) ?_
    refine lv_icmp_eq (tgt := 65) hx hb dX8_split_50 (by decide) (fun hc => ?_) (fun hc => ?_)
    · have h := ite_t hc h
      exact h_vret C hr hk hH hS (by cases h; rfl) dX8_split_65
    · have h := ite_f hc h
      refine lv_aload_n hx hb dX8_split_53 rfl (lv_at hl 2 rfl) ?_
      refine g_190 (i := 6) C hH (jC_4 hW) rfl dX8_split_54 ?_
      refine lv_iload hx hb dX8_split_57 (lv_at hl 5 rfl) ?_
      obtain ⟨b10, h⟩ := gd_e h
      refine h_iald C hH (jC_6 hW).1 (jC_6 hW).2.1 b10 dX8_split_59 ?_
      refine lv_bipush (v := 24) hx hb dX8_split_60 (by decide) ?_
      refine lv_icmp_ne (tgt := 66) hx hb dX8_split_62 (by decide) (fun hc => ?_) (fun hc => ?_)
      · have h := ite_f hc h
        refine lv_iload hx hb dX8_split_66 (lv_at hl 0 rfl) ?_
        refine lv_istore_n (lv' := [(3, .int r6), (5, .int r6), (0, .ref (wB ω + 4)), (1, .ref (wB ω + q1)), (2, .int x2), (4, .int x4)]) hx hb dX8_split_68 rfl hl (by decide) rfl (fun ls hl => ?_)
        refine lv_iinc (v := x4 + 1) (lv' := [(4, .int (x4 + 1)), (3, .int r6), (5, .int r6), (0, .ref (wB ω + 4)), (1, .ref (wB ω + q1)), (2, .int x2)]) hx hb dX8_split_69 hl (k := 5) rfl rfl (by decide) rfl (fun ls hl => ?_)
        refine lv_goto (tgt := 10) hx hb dX8_split_72 (by decide) ?_
        exact hrec _ _ _ H locs ls hH hS (lv_sub hl [3, 4, 5, 1, 0] rfl) h
      · have h := ite_t hc h
        exact h_vret C hr hk hH hS (by cases h; rfl) dX8_split_65
theorem wX8_split_l10 {q1 : Nat} (hW : FWC ω) (hq1 : Is ω q1 102 2000) (C : Cx ω p s m args c cX8_split 6 RX8) (hr : meth.sig.returnType = none) (hk : meth.locks = false) {μo : Mem} {x2 : Int32} : ∀ (n : Nat) (x3 : Int32) (x4 : Int32) (μ : Mem) (H : Heap) (locs : List Loc) (ls : Array Slot), Hd ω μ H → FS ω s H locs → lv_has ls 6 [(0, .ref (wB ω + 4)), (1, .ref (wB ω + q1)), (2, .int x2), (3, .int x3), (4, .int x4)] → fX8_split_l10 q1 x2 n x3 x4 μ = some μo → W p l e (rmd 10) s m args below meth c H locs 0 0 (MQ below (QR ω none μo) args s 0 0 (wA ω)) (F0 m 10 ls []) := by
  intro n
  induction n with
  | zero => intro x3 x4 μ H locs ls hH hS hl h; cases h
  | succ n ih => intro x3 x4 μ H locs ls hH hS hl h; exact wX8_split_s10 hW hq1 C hr hk ih hH hS hl h
set_option maxHeartbeats 4000000 in
set_option maxRecDepth 100000 in
theorem wX8_split_e {q1 : Nat} (hW : FWC ω) (hq1 : Is ω q1 102 2000) (C : Cx ω p s m args c cX8_split 6 RX8) (hr : meth.sig.returnType = none) (hk : meth.locks = false) {μo : Mem} {x2 : Int32} {μ : Mem} {H : Heap} {locs : List Loc} {ls : Array Slot} (hH : Hd ω μ H) (hS : FS ω s H locs) (hl : lv_has ls 6 [(0, .ref (wB ω + 4)), (1, .ref (wB ω + q1)), (2, .int x2)]) (h : fX8_split q1 x2 μ = some μo) : W p l e (rmd 10) s m args below meth c H locs 0 0 (MQ below (QR ω none μo) args s 0 0 (wA ω)) (F0 m 0 ls []) := by
  have hx := C.1
  have hb := C.2.1
  unfold fX8_split at h
  refine lv_aload_n hx hb dX8_split_0 rfl (lv_at hl 0 rfl) ?_
  refine lv_iconst (v := 0) hx hb dX8_split_1 (by decide) ?_
  obtain ⟨μ1, e2, h⟩ := bd_e h
  refine p_196 C hH hS (jC_4 hW) dX8_split_2 (fun H locs hH hS => ?_)
  have hH := Hd.to e2 hH
  refine lv_iconst (v := 0) hx hb dX8_split_5 (by decide) ?_
  refine lv_istore_n (lv' := [(3, .int 0), (0, .ref (wB ω + 4)), (1, .ref (wB ω + q1)), (2, .int x2)]) hx hb dX8_split_6 rfl hl (by decide) rfl (fun ls hl => ?_)
  refine lv_iconst (v := 0) hx hb dX8_split_7 (by decide) ?_
  refine lv_istore (lv' := [(4, .int 0), (3, .int 0), (0, .ref (wB ω + 4)), (1, .ref (wB ω + q1)), (2, .int x2)]) hx hb dX8_split_8 hl (by decide) rfl (fun ls hl => ?_)
  exact wX8_split_l10 hW hq1 C hr hk FU _ _ _ H locs ls hH hS (lv_sub hl [2, 3, 4, 1, 0] rfl) h
theorem c_X8_split {l : Launch} {ω : WW} {q1 : Nat} {x2 : Int32} (hW : FWC ω) (hq1 : Is ω q1 102 2000) {μ : Mem} {μo : Mem} (h : fX8_split q1 x2 μ = some μo) : Con l yX8_split cX8_split 6 none 10 ω [.ref (wB ω + 4), .ref (wB ω + q1), .int x2] μ none μo :=
  con_of (by decide) (Nat.le_of_ble_eq_true rfl) (fun p e s m args below meth c ls C hr hk hl hH hS => wX8_split_e hW hq1 C hr hk hH hS (lv_sub hl [0, 1, 2] rfl) h)
set_option maxHeartbeats 4000000 in
set_option maxRecDepth 100000 in
theorem wX1_begin_e {q : Nat} (hq : IsL ω q) (C : Cx ω p s m args c cX1_begin 2 RX1) (hr : meth.sig.returnType = none) (hk : meth.locks = false) {μo : Mem} {x1 : Int32} {μ : Mem} {H : Heap} {locs : List Loc} {ls : Array Slot} (hH : Hd ω μ H) (hS : FS ω s H locs) (hl : lv_has ls 2 [(0, .ref (wB ω + q)), (1, .int x1)]) (h : fX1_begin q x1 μ = some μo) : W p l e (rmd 1) s m args below meth c H locs 0 0 (MQ below (QR ω none μo) args s 0 0 (wA ω)) (F0 m 0 ls []) := by
  have hx := C.1
  have hb := C.2.1
  unfold fX1_begin at h
  refine lv_iload_n hx hb dX1_begin_0 rfl (lv_at hl 1 rfl) ?_
  refine lv_if_lt (tgt := 19) hx hb dX1_begin_1 (by decide) (fun hc => ?_) (fun hc => ?_)
  · have h := ite_t hc h
    exact h_vret C hr hk hH hS (by cases h; rfl) dX1_begin_19
  · have h := ite_f hc h
    refine lv_iload_n hx hb dX1_begin_4 rfl (lv_at hl 1 rfl) ?_
    refine lv_iconst (v := 4) hx hb dX1_begin_5 (by decide) ?_
    refine lv_icmp_ge (tgt := 19) hx hb dX1_begin_6 (by decide) (fun hc => ?_) (fun hc => ?_)
    · have h := ite_t hc h
      exact h_vret C hr hk hH hS (by cases h; rfl) dX1_begin_19
    · have h := ite_f hc h
      refine lv_aload_n hx hb dX1_begin_9 rfl (lv_at hl 0 rfl) ?_
      refine g_237 (i := q + 3) C hH hq.1 rfl dX1_begin_10 ?_
      refine lv_iload_n hx hb dX1_begin_13 rfl (lv_at hl 1 rfl) ?_
      refine lv_aload_n hx hb dX1_begin_14 rfl (lv_at hl 0 rfl) ?_
      refine g_239 C hH hq.1 dX1_begin_15 ?_
      obtain ⟨b1, h⟩ := gd_e h
      obtain ⟨μ2, e3, h⟩ := bd_e h
      refine h_iast C hH hS hq.2.2.2.1.1 hq.2.2.2.1.2.1 b1 dX1_begin_18 (fun H locs hH hS => ?_)
      have hH := Hd.to e3 hH
      exact h_vret C hr hk hH hS (by cases h; rfl) dX1_begin_19
theorem c_X1_begin {l : Launch} {ω : WW} {q : Nat} {x1 : Int32} (hq : IsL ω q) {μ : Mem} {μo : Mem} (h : fX1_begin q x1 μ = some μo) : Con l yX1_begin cX1_begin 2 none 1 ω [.ref (wB ω + q), .int x1] μ none μo :=
  con_of (by decide) (Nat.le_of_ble_eq_true rfl) (fun p e s m args below meth c ls C hr hk hl hH hS => wX1_begin_e hq C hr hk hH hS (lv_sub hl [0, 1] rfl) h)
set_option maxHeartbeats 4000000 in
set_option maxRecDepth 100000 in
theorem wX1_append_e {q : Nat} (hq : IsL ω q) (C : Cx ω p s m args c cX1_append 3 RX1) (hr : meth.sig.returnType = none) (hk : meth.locks = false) {μo : Mem} {x1 : Int32} {x2 : Int32} {μ : Mem} {H : Heap} {locs : List Loc} {ls : Array Slot} (hH : Hd ω μ H) (hS : FS ω s H locs) (hl : lv_has ls 3 [(0, .ref (wB ω + q)), (1, .int x1), (2, .int x2)]) (h : fX1_append q x1 x2 μ = some μo) : W p l e (rmd 1) s m args below meth c H locs 0 0 (MQ below (QR ω none μo) args s 0 0 (wA ω)) (F0 m 0 ls []) := by
  have hx := C.1
  have hb := C.2.1
  unfold fX1_append at h
  refine lv_aload_n hx hb dX1_append_0 rfl (lv_at hl 0 rfl) ?_
  refine g_239 C hH hq.1 dX1_append_1 ?_
  refine lv_sipush (v := 416) hx hb dX1_append_4 (by decide) ?_
  refine lv_icmp_ge (tgt := 40) hx hb dX1_append_7 (by decide) (fun hc => ?_) (fun hc => ?_)
  · have h := ite_t hc h
    exact h_vret C hr hk hH hS (by cases h; rfl) dX1_append_40
  · have h := ite_f hc h
    refine lv_aload_n hx hb dX1_append_10 rfl (lv_at hl 0 rfl) ?_
    refine g_235 (i := q + 1) C hH hq.1 rfl dX1_append_11 ?_
    refine lv_aload_n hx hb dX1_append_14 rfl (lv_at hl 0 rfl) ?_
    refine g_239 C hH hq.1 dX1_append_15 ?_
    refine lv_iload_n hx hb dX1_append_18 rfl (lv_at hl 1 rfl) ?_
    obtain ⟨b1, h⟩ := gd_e h
    obtain ⟨μ2, e3, h⟩ := bd_e h
    refine h_iast C hH hS hq.2.1.1 hq.2.1.2.1 b1 dX1_append_19 (fun H locs hH hS => ?_)
    have hH := Hd.to e3 hH
    refine lv_aload_n hx hb dX1_append_20 rfl (lv_at hl 0 rfl) ?_
    refine g_236 (i := q + 2) C hH hq.1 rfl dX1_append_21 ?_
    refine lv_aload_n hx hb dX1_append_24 rfl (lv_at hl 0 rfl) ?_
    refine g_239 C hH hq.1 dX1_append_25 ?_
    refine lv_iload_n hx hb dX1_append_28 rfl (lv_at hl 2 rfl) ?_
    obtain ⟨b4, h⟩ := gd_e h
    obtain ⟨μ5, e6, h⟩ := bd_e h
    refine h_iast C hH hS hq.2.2.1.1 hq.2.2.1.2.1 b4 dX1_append_29 (fun H locs hH hS => ?_)
    have hH := Hd.to e6 hH
    refine lv_aload_n hx hb dX1_append_30 rfl (lv_at hl 0 rfl) ?_
    refine lv_dup hx hb dX1_append_31 rfl ?_
    refine g_239 C hH hq.1 dX1_append_32 ?_
    refine lv_iconst (v := 1) hx hb dX1_append_35 (by decide) ?_
    refine lv_iadd hx hb dX1_append_36 ?_
    obtain ⟨μ7, e8, h⟩ := bd_e h
    refine p_239 C hH hS hq.1 dX1_append_37 (fun H locs hH hS => ?_)
    have hH := Hd.to e8 hH
    exact h_vret C hr hk hH hS (by cases h; rfl) dX1_append_40
theorem c_X1_append {l : Launch} {ω : WW} {q : Nat} {x1 : Int32} {x2 : Int32} (hq : IsL ω q) {μ : Mem} {μo : Mem} (h : fX1_append q x1 x2 μ = some μo) : Con l yX1_append cX1_append 3 none 1 ω [.ref (wB ω + q), .int x1, .int x2] μ none μo :=
  con_of (by decide) (Nat.le_of_ble_eq_true rfl) (fun p e s m args below meth c ls C hr hk hl hH hS => wX1_append_e hq C hr hk hH hS (lv_sub hl [0, 1, 2] rfl) h)
set_option maxHeartbeats 4000000 in
set_option maxRecDepth 100000 in
theorem wX1_setUntold_e {q : Nat} (hq : IsL ω q) (C : Cx ω p s m args c cX1_setUntold 1 RX1) (hr : meth.sig.returnType = none) (hk : meth.locks = false) {μo : Mem} {μ : Mem} {H : Heap} {locs : List Loc} {ls : Array Slot} (hH : Hd ω μ H) (hS : FS ω s H locs) (hl : lv_has ls 1 [(0, .ref (wB ω + q))]) (h : fX1_setUntold q μ = some μo) : W p l e (rmd 2) s m args below meth c H locs 0 0 (MQ below (QR ω none μo) args s 0 0 (wA ω)) (F0 m 0 ls []) := by
  have hx := C.1
  have hb := C.2.1
  unfold fX1_setUntold at h
  refine lv_aload_n hx hb dX1_setUntold_0 rfl (lv_at hl 0 rfl) ?_
  refine lv_iconst (v := 0) hx hb dX1_setUntold_1 (by decide) ?_
  obtain ⟨μ1, e2, h⟩ := bd_e h
  refine p_239 C hH hS hq.1 dX1_setUntold_2 (fun H locs hH hS => ?_)
  have hH := Hd.to e2 hH
  refine lv_aload_n hx hb dX1_setUntold_5 rfl (lv_at hl 0 rfl) ?_
  refine lv_iconst (v := 0) hx hb dX1_setUntold_6 (by decide) ?_
  obtain ⟨μ4, e3, h⟩ := b1_e h
  refine cVv (as := [.int 0]) (rest := []) (c_X1_begin hq e3) C hl.1 hH hS rfl hq.1 rfl wd_229 wd_228 mw_X1_begin wd_227 rfl (rm_ok (by decide) (by decide)) (Nat.le_of_ble_eq_true rfl) ⟨Nat.zero_le _, Nat.zero_le _⟩ (by decide) dX1_setUntold_7 (fun H locs hH hS => ?_)
  refine lv_aload_n hx hb dX1_setUntold_10 rfl (lv_at hl 0 rfl) ?_
  refine lv_iconst (v := 1) hx hb dX1_setUntold_11 (by decide) ?_
  refine lv_iconst (v := 0) hx hb dX1_setUntold_12 (by decide) ?_
  obtain ⟨μ6, e5, h⟩ := b1_e h
  refine cVv (as := [.int 1, .int 0]) (rest := []) (c_X1_append hq e5) C hl.1 hH hS rfl hq.1 rfl wd_233 wd_232 mw_X1_append wd_231 rfl (rm_ok (by decide) (by decide)) (Nat.le_of_ble_eq_true rfl) ⟨Nat.zero_le _, Nat.zero_le _⟩ (by decide) dX1_setUntold_13 (fun H locs hH hS => ?_)
  refine lv_aload_n hx hb dX1_setUntold_16 rfl (lv_at hl 0 rfl) ?_
  refine lv_bipush (v := 9) hx hb dX1_setUntold_17 (by decide) ?_
  refine lv_iconst (v := 1) hx hb dX1_setUntold_19 (by decide) ?_
  obtain ⟨μ8, e7, h⟩ := b1_e h
  refine cVv (as := [.int 9, .int 1]) (rest := []) (c_X1_append hq e7) C hl.1 hH hS rfl hq.1 rfl wd_233 wd_232 mw_X1_append wd_231 rfl (rm_ok (by decide) (by decide)) (Nat.le_of_ble_eq_true rfl) ⟨Nat.zero_le _, Nat.zero_le _⟩ (by decide) dX1_setUntold_20 (fun H locs hH hS => ?_)
  refine lv_aload_n hx hb dX1_setUntold_23 rfl (lv_at hl 0 rfl) ?_
  refine lv_bipush (v := 10) hx hb dX1_setUntold_24 (by decide) ?_
  refine lv_iconst (v := 0) hx hb dX1_setUntold_26 (by decide) ?_
  obtain ⟨μ10, e9, h⟩ := b1_e h
  refine cVv (as := [.int 10, .int 0]) (rest := []) (c_X1_append hq e9) C hl.1 hH hS rfl hq.1 rfl wd_233 wd_232 mw_X1_append wd_231 rfl (rm_ok (by decide) (by decide)) (Nat.le_of_ble_eq_true rfl) ⟨Nat.zero_le _, Nat.zero_le _⟩ (by decide) dX1_setUntold_27 (fun H locs hH hS => ?_)
  refine lv_aload_n hx hb dX1_setUntold_30 rfl (lv_at hl 0 rfl) ?_
  refine lv_bipush (v := 15) hx hb dX1_setUntold_31 (by decide) ?_
  refine lv_iconst (v := 0) hx hb dX1_setUntold_33 (by decide) ?_
  obtain ⟨μ12, e11, h⟩ := b1_e h
  refine cVv (as := [.int 15, .int 0]) (rest := []) (c_X1_append hq e11) C hl.1 hH hS rfl hq.1 rfl wd_233 wd_232 mw_X1_append wd_231 rfl (rm_ok (by decide) (by decide)) (Nat.le_of_ble_eq_true rfl) ⟨Nat.zero_le _, Nat.zero_le _⟩ (by decide) dX1_setUntold_34 (fun H locs hH hS => ?_)
  refine lv_aload_n hx hb dX1_setUntold_37 rfl (lv_at hl 0 rfl) ?_
  refine lv_iconst (v := 1) hx hb dX1_setUntold_38 (by decide) ?_
  obtain ⟨μ14, e13, h⟩ := b1_e h
  refine cVv (as := [.int 1]) (rest := []) (c_X1_begin hq e13) C hl.1 hH hS rfl hq.1 rfl wd_229 wd_228 mw_X1_begin wd_227 rfl (rm_ok (by decide) (by decide)) (Nat.le_of_ble_eq_true rfl) ⟨Nat.zero_le _, Nat.zero_le _⟩ (by decide) dX1_setUntold_39 (fun H locs hH hS => ?_)
  refine lv_aload_n hx hb dX1_setUntold_42 rfl (lv_at hl 0 rfl) ?_
  refine lv_bipush (v := 9) hx hb dX1_setUntold_43 (by decide) ?_
  refine lv_iconst (v := 5) hx hb dX1_setUntold_45 (by decide) ?_
  obtain ⟨μ16, e15, h⟩ := b1_e h
  refine cVv (as := [.int 9, .int 5]) (rest := []) (c_X1_append hq e15) C hl.1 hH hS rfl hq.1 rfl wd_233 wd_232 mw_X1_append wd_231 rfl (rm_ok (by decide) (by decide)) (Nat.le_of_ble_eq_true rfl) ⟨Nat.zero_le _, Nat.zero_le _⟩ (by decide) dX1_setUntold_46 (fun H locs hH hS => ?_)
  refine lv_aload_n hx hb dX1_setUntold_49 rfl (lv_at hl 0 rfl) ?_
  refine lv_bipush (v := 15) hx hb dX1_setUntold_50 (by decide) ?_
  refine lv_iconst (v := 0) hx hb dX1_setUntold_52 (by decide) ?_
  obtain ⟨μ18, e17, h⟩ := b1_e h
  refine cVv (as := [.int 15, .int 0]) (rest := []) (c_X1_append hq e17) C hl.1 hH hS rfl hq.1 rfl wd_233 wd_232 mw_X1_append wd_231 rfl (rm_ok (by decide) (by decide)) (Nat.le_of_ble_eq_true rfl) ⟨Nat.zero_le _, Nat.zero_le _⟩ (by decide) dX1_setUntold_53 (fun H locs hH hS => ?_)
  refine lv_aload_n hx hb dX1_setUntold_56 rfl (lv_at hl 0 rfl) ?_
  refine lv_iconst (v := 2) hx hb dX1_setUntold_57 (by decide) ?_
  obtain ⟨μ20, e19, h⟩ := b1_e h
  refine cVv (as := [.int 2]) (rest := []) (c_X1_begin hq e19) C hl.1 hH hS rfl hq.1 rfl wd_229 wd_228 mw_X1_begin wd_227 rfl (rm_ok (by decide) (by decide)) (Nat.le_of_ble_eq_true rfl) ⟨Nat.zero_le _, Nat.zero_le _⟩ (by decide) dX1_setUntold_58 (fun H locs hH hS => ?_)
  refine lv_aload_n hx hb dX1_setUntold_61 rfl (lv_at hl 0 rfl) ?_
  refine lv_bipush (v := 9) hx hb dX1_setUntold_62 (by decide) ?_
  refine lv_iconst (v := 1) hx hb dX1_setUntold_64 (by decide) ?_
  obtain ⟨μ22, e21, h⟩ := b1_e h
  refine cVv (as := [.int 9, .int 1]) (rest := []) (c_X1_append hq e21) C hl.1 hH hS rfl hq.1 rfl wd_233 wd_232 mw_X1_append wd_231 rfl (rm_ok (by decide) (by decide)) (Nat.le_of_ble_eq_true rfl) ⟨Nat.zero_le _, Nat.zero_le _⟩ (by decide) dX1_setUntold_65 (fun H locs hH hS => ?_)
  refine lv_aload_n hx hb dX1_setUntold_68 rfl (lv_at hl 0 rfl) ?_
  refine lv_bipush (v := 15) hx hb dX1_setUntold_69 (by decide) ?_
  refine lv_iconst (v := 0) hx hb dX1_setUntold_71 (by decide) ?_
  obtain ⟨μ24, e23, h⟩ := b1_e h
  refine cVv (as := [.int 15, .int 0]) (rest := []) (c_X1_append hq e23) C hl.1 hH hS rfl hq.1 rfl wd_233 wd_232 mw_X1_append wd_231 rfl (rm_ok (by decide) (by decide)) (Nat.le_of_ble_eq_true rfl) ⟨Nat.zero_le _, Nat.zero_le _⟩ (by decide) dX1_setUntold_72 (fun H locs hH hS => ?_)
  refine lv_aload_n hx hb dX1_setUntold_75 rfl (lv_at hl 0 rfl) ?_
  refine lv_iconst (v := 3) hx hb dX1_setUntold_76 (by decide) ?_
  obtain ⟨μ26, e25, h⟩ := b1_e h
  refine cVv (as := [.int 3]) (rest := []) (c_X1_begin hq e25) C hl.1 hH hS rfl hq.1 rfl wd_229 wd_228 mw_X1_begin wd_227 rfl (rm_ok (by decide) (by decide)) (Nat.le_of_ble_eq_true rfl) ⟨Nat.zero_le _, Nat.zero_le _⟩ (by decide) dX1_setUntold_77 (fun H locs hH hS => ?_)
  refine lv_aload_n hx hb dX1_setUntold_80 rfl (lv_at hl 0 rfl) ?_
  refine lv_bipush (v := 9) hx hb dX1_setUntold_81 (by decide) ?_
  refine lv_iconst (v := 1) hx hb dX1_setUntold_83 (by decide) ?_
  obtain ⟨μ28, e27, h⟩ := b1_e h
  refine cVv (as := [.int 9, .int 1]) (rest := []) (c_X1_append hq e27) C hl.1 hH hS rfl hq.1 rfl wd_233 wd_232 mw_X1_append wd_231 rfl (rm_ok (by decide) (by decide)) (Nat.le_of_ble_eq_true rfl) ⟨Nat.zero_le _, Nat.zero_le _⟩ (by decide) dX1_setUntold_84 (fun H locs hH hS => ?_)
  refine lv_aload_n hx hb dX1_setUntold_87 rfl (lv_at hl 0 rfl) ?_
  refine lv_bipush (v := 15) hx hb dX1_setUntold_88 (by decide) ?_
  refine lv_iconst (v := 0) hx hb dX1_setUntold_90 (by decide) ?_
  obtain ⟨μ30, e29, h⟩ := b1_e h
  refine cVv (as := [.int 15, .int 0]) (rest := []) (c_X1_append hq e29) C hl.1 hH hS rfl hq.1 rfl wd_233 wd_232 mw_X1_append wd_231 rfl (rm_ok (by decide) (by decide)) (Nat.le_of_ble_eq_true rfl) ⟨Nat.zero_le _, Nat.zero_le _⟩ (by decide) dX1_setUntold_91 (fun H locs hH hS => ?_)
  exact h_vret C hr hk hH hS (by cases h; rfl) dX1_setUntold_94
theorem c_X1_setUntold {l : Launch} {ω : WW} {q : Nat} (hq : IsL ω q) {μ : Mem} {μo : Mem} (h : fX1_setUntold q μ = some μo) : Con l yX1_setUntold cX1_setUntold 1 none 2 ω [.ref (wB ω + q)] μ none μo :=
  con_of (by decide) (Nat.le_of_ble_eq_true rfl) (fun p e s m args below meth c ls C hr hk hl hH hS => wX1_setUntold_e hq C hr hk hH hS (lv_sub hl [0] rfl) h)
set_option maxHeartbeats 4000000 in
set_option maxRecDepth 100000 in
theorem wX3_setUntold_e {q : Nat} (hq : IsQ ω q) (C : Cx ω p s m args c cX3_setUntold 1 RX3) (hr : meth.sig.returnType = none) (hk : meth.locks = false) {μo : Mem} {μ : Mem} {H : Heap} {locs : List Loc} {ls : Array Slot} (hH : Hd ω μ H) (hS : FS ω s H locs) (hl : lv_has ls 1 [(0, .ref (wB ω + q))]) (h : fX3_setUntold q μ = some μo) : W p l e (rmd 3) s m args below meth c H locs 0 0 (MQ below (QR ω none μo) args s 0 0 (wA ω)) (F0 m 0 ls []) := by
  have hx := C.1
  have hb := C.2.1
  unfold fX3_setUntold at h
  refine lv_aload_n hx hb dX3_setUntold_0 rfl (lv_at hl 0 rfl) ?_
  refine g_258 (i := q + 2) C hH hq.1 rfl dX3_setUntold_1 ?_
  obtain ⟨μ2, e1, h⟩ := b1_e h
  refine cVv (as := []) (rest := []) (c_X1_setUntold hq.2.2 e1) C hl.1 hH hS rfl hq.2.2.1 rfl wd_225 wd_224 mw_X1_setUntold wd_256 rfl (rm_ok (by decide) (by decide)) (Nat.le_of_ble_eq_true rfl) ⟨Nat.zero_le _, Nat.zero_le _⟩ (by decide) dX3_setUntold_4 (fun H locs hH hS => ?_)
  refine lv_aload_n hx hb dX3_setUntold_7 rfl (lv_at hl 0 rfl) ?_
  refine lv_iconst (v := 0) hx hb dX3_setUntold_8 (by decide) ?_
  obtain ⟨μ3, e4, h⟩ := bd_e h
  refine p_261 C hH hS hq.1 dX3_setUntold_9 (fun H locs hH hS => ?_)
  have hH := Hd.to e4 hH
  refine lv_aload_n hx hb dX3_setUntold_12 rfl (lv_at hl 0 rfl) ?_
  refine lv_bipush (v := 20) hx hb dX3_setUntold_13 (by decide) ?_
  obtain ⟨μ5, e6, h⟩ := bd_e h
  refine p_267 C hH hS hq.1 dX3_setUntold_15 (fun H locs hH hS => ?_)
  have hH := Hd.to e6 hH
  refine lv_aload_n hx hb dX3_setUntold_18 rfl (lv_at hl 0 rfl) ?_
  refine lv_bipush (v := 20) hx hb dX3_setUntold_19 (by decide) ?_
  obtain ⟨μ7, e8, h⟩ := bd_e h
  refine p_270 C hH hS hq.1 dX3_setUntold_21 (fun H locs hH hS => ?_)
  have hH := Hd.to e8 hH
  refine lv_aload_n hx hb dX3_setUntold_24 rfl (lv_at hl 0 rfl) ?_
  refine lv_iconst (v := 0) hx hb dX3_setUntold_25 (by decide) ?_
  obtain ⟨μ9, e10, h⟩ := bd_e h
  refine p_273 C hH hS hq.1 dX3_setUntold_26 (fun H locs hH hS => ?_)
  have hH := Hd.to e10 hH
  refine lv_aload_n hx hb dX3_setUntold_29 rfl (lv_at hl 0 rfl) ?_
  refine lv_iconst (v := 0) hx hb dX3_setUntold_30 (by decide) ?_
  obtain ⟨μ11, e12, h⟩ := bd_e h
  refine p_275 C hH hS hq.1 dX3_setUntold_31 (fun H locs hH hS => ?_)
  have hH := Hd.to e12 hH
  exact h_vret C hr hk hH hS (by cases h; rfl) dX3_setUntold_34
theorem c_X3_setUntold {l : Launch} {ω : WW} {q : Nat} (hq : IsQ ω q) {μ : Mem} {μo : Mem} (h : fX3_setUntold q μ = some μo) : Con l yX3_setUntold cX3_setUntold 1 none 3 ω [.ref (wB ω + q)] μ none μo :=
  con_of (by decide) (Nat.le_of_ble_eq_true rfl) (fun p e s m args below meth c ls C hr hk hl hH hS => wX3_setUntold_e hq C hr hk hH hS (lv_sub hl [0] rfl) h)
set_option maxHeartbeats 4000000 in
set_option maxRecDepth 100000 in
theorem wX4_refuse_e (hW : FWC ω) (C : Cx ω p s m args c cX4_refuse 2 RX4) (hr : meth.sig.returnType = some .boolean) (hk : meth.locks = false) {rr : Int32} {μo : Mem} {x1 : Int32} {μ : Mem} {H : Heap} {locs : List Loc} {ls : Array Slot} (hH : Hd ω μ H) (hS : FS ω s H locs) (hl : lv_has ls 2 [(0, .ref (wB ω + 3)), (1, .int x1)]) (h : fX4_refuse x1 μ = some (rr, μo)) : W p l e (rmd 1) s m args below meth c H locs 0 0 (MQ below (QR ω (some (.int rr)) μo) args s 0 0 (wA ω)) (F0 m 0 ls []) := by
  have hx := C.1
  have hb := C.2.1
  unfold fX4_refuse at h
  refine lv_aload_n hx hb dX4_refuse_0 rfl (lv_at hl 0 rfl) ?_
  refine lv_iload_n hx hb dX4_refuse_1 rfl (lv_at hl 1 rfl) ?_
  obtain ⟨μ1, e2, h⟩ := bd_e h
  refine p_298 C hH hS (jC_3 hW) dX4_refuse_2 (fun H locs hH hS => ?_)
  have hH := Hd.to e2 hH
  refine lv_aload_n hx hb dX4_refuse_5 rfl (lv_at hl 0 rfl) ?_
  refine lv_aload_n hx hb dX4_refuse_6 rfl (lv_at hl 0 rfl) ?_
  refine g_293 (i := 4) C hH (jC_3 hW) rfl dX4_refuse_7 ?_
  refine g_195 (i := 8) C hH (jC_4 hW) rfl dX4_refuse_10 ?_
  refine lv_aload_n hx hb dX4_refuse_13 rfl (lv_at hl 0 rfl) ?_
  refine g_297 C hH (jC_3 hW) dX4_refuse_14 ?_
  obtain ⟨b3, h⟩ := gd_e h
  refine h_iald C hH (jC_8 hW).1 (jC_8 hW).2.1 b3 dX4_refuse_17 ?_
  obtain ⟨μ4, e5, h⟩ := bd_e h
  refine p_299 C hH hS (jC_3 hW) dX4_refuse_18 (fun H locs hH hS => ?_)
  have hH := Hd.to e5 hH
  refine lv_iconst (v := 0) hx hb dX4_refuse_21 (by decide) ?_
  exact h_zret (y := 0) C hr hk hH hS rfl (by cases h; rfl) dX4_refuse_22
theorem c_X4_refuse {l : Launch} {ω : WW} {x1 : Int32} (hW : FWC ω) {μ : Mem} {rr : Int32} {μo : Mem} (h : fX4_refuse x1 μ = some (rr, μo)) : Con l yX4_refuse cX4_refuse 2 (some .boolean) 1 ω [.ref (wB ω + 3), .int x1] μ (some (.int rr)) μo :=
  con_of (by decide) (Nat.le_of_ble_eq_true rfl) (fun p e s m args below meth c ls C hr hk hl hH hS => wX4_refuse_e hW C hr hk hH hS (lv_sub hl [0, 1] rfl) h)
set_option maxHeartbeats 4000000 in
set_option maxRecDepth 100000 in
theorem wX4_take_b60 (hW : FWC ω) (C : Cx ω p s m args c cX4_take 2 RX4) (hr : meth.sig.returnType = some .boolean) (hk : meth.locks = false) {rr : Int32} {μo : Mem} {k1 : Int32} {μ : Mem} {H : Heap} {locs : List Loc} {ls : Array Slot} (hH : Hd ω μ H) (hS : FS ω s H locs) (hl : lv_has ls 2 [(0, .ref (wB ω + 3))]) (h : fX4_take_b60 k1 μ = some (rr, μo)) : W p l e (rmd 1) s m args below meth c H locs 0 0 (MQ below (QR ω (some (.int rr)) μo) args s 0 0 (wA ω)) (F0 m 60 ls [.int k1, .ref (wB ω + 3)]) := by
  have hx := C.1
  have hb := C.2.1
  unfold fX4_take_b60 at h
  obtain ⟨μ3, e4, h⟩ := bd_e h
  refine p_298 C hH hS (jC_3 hW) dX4_take_60 (fun H locs hH hS => ?_)
  have hH := Hd.to e4 hH
  refine lv_aload_n hx hb dX4_take_63 rfl (lv_at hl 0 rfl) ?_
  refine lv_aload_n hx hb dX4_take_64 rfl (lv_at hl 0 rfl) ?_
  refine g_293 (i := 4) C hH (jC_3 hW) rfl dX4_take_65 ?_
  refine g_195 (i := 8) C hH (jC_4 hW) rfl dX4_take_68 ?_
  refine lv_aload_n hx hb dX4_take_71 rfl (lv_at hl 0 rfl) ?_
  refine g_297 C hH (jC_3 hW) dX4_take_72 ?_
  obtain ⟨b5, h⟩ := gd_e h
  refine h_iald C hH (jC_8 hW).1 (jC_8 hW).2.1 b5 dX4_take_75 ?_
  obtain ⟨μ6, e7, h⟩ := bd_e h
  refine p_299 C hH hS (jC_3 hW) dX4_take_76 (fun H locs hH hS => ?_)
  have hH := Hd.to e7 hH
  refine lv_iconst (v := 0) hx hb dX4_take_79 (by decide) ?_
  exact h_zret (y := 0) C hr hk hH hS rfl (by cases h; rfl) dX4_take_80
set_option maxHeartbeats 4000000 in
set_option maxRecDepth 100000 in
theorem wX4_take_b38 (hW : FWC ω) (C : Cx ω p s m args c cX4_take 2 RX4) (hr : meth.sig.returnType = some .boolean) (hk : meth.locks = false) {rr : Int32} {μo : Mem} {x1 : Int32} {μ : Mem} {H : Heap} {locs : List Loc} {ls : Array Slot} (hH : Hd ω μ H) (hS : FS ω s H locs) (hl : lv_has ls 2 [(0, .ref (wB ω + 3)), (1, .int x1)]) (h : fX4_take_b38 x1 μ = some (rr, μo)) : W p l e (rmd 1) s m args below meth c H locs 0 0 (MQ below (QR ω (some (.int rr)) μo) args s 0 0 (wA ω)) (F0 m 38 ls []) := by
  have hx := C.1
  have hb := C.2.1
  unfold fX4_take_b38 at h
  refine lv_aload_n hx hb dX4_take_38 rfl (lv_at hl 0 rfl) ?_
  refine lv_aload_n hx hb dX4_take_39 rfl (lv_at hl 0 rfl) ?_
  refine g_293 (i := 4) C hH (jC_3 hW) rfl dX4_take_40 ?_
  refine g_191 (i := 6) C hH (jC_4 hW) rfl dX4_take_43 ?_
  refine lv_aload_n hx hb dX4_take_46 rfl (lv_at hl 0 rfl) ?_
  refine g_297 C hH (jC_3 hW) dX4_take_47 ?_
  obtain ⟨b2, h⟩ := gd_e h
  refine h_iald C hH (jC_6 hW).1 (jC_6 hW).2.1 b2 dX4_take_50 ?_
  refine lv_iload_n hx hb dX4_take_51 rfl (lv_at hl 1 rfl) ?_
  refine lv_icmp_ne (tgt := 59) hx hb dX4_take_52 (by decide) (fun hc => ?_) (fun hc => ?_)
  · have h := ite_f hc h
    refine lv_iconst (v := 1) hx hb dX4_take_59 (by decide) ?_
    exact wX4_take_b60 hW C hr hk hH hS (lv_sub hl [0] rfl) h
  · have h := ite_t hc h
    refine lv_iconst (v := 2) hx hb dX4_take_55 (by decide) ?_
    refine lv_goto (tgt := 60) hx hb dX4_take_56 (by decide) ?_
    exact wX4_take_b60 hW C hr hk hH hS (lv_sub hl [0] rfl) h
set_option maxHeartbeats 4000000 in
set_option maxRecDepth 100000 in
theorem wX4_take_e (hW : FWC ω) (C : Cx ω p s m args c cX4_take 2 RX4) (hr : meth.sig.returnType = some .boolean) (hk : meth.locks = false) {rr : Int32} {μo : Mem} {x1 : Int32} {μ : Mem} {H : Heap} {locs : List Loc} {ls : Array Slot} (hH : Hd ω μ H) (hS : FS ω s H locs) (hl : lv_has ls 2 [(0, .ref (wB ω + 3)), (1, .int x1)]) (h : fX4_take x1 μ = some (rr, μo)) : W p l e (rmd 1) s m args below meth c H locs 0 0 (MQ below (QR ω (some (.int rr)) μo) args s 0 0 (wA ω)) (F0 m 0 ls []) := by
  have hx := C.1
  have hb := C.2.1
  unfold fX4_take at h
  refine lv_aload_n hx hb dX4_take_0 rfl (lv_at hl 0 rfl) ?_
  refine g_293 (i := 4) C hH (jC_3 hW) rfl dX4_take_1 ?_
  refine g_191 (i := 6) C hH (jC_4 hW) rfl dX4_take_4 ?_
  refine lv_aload_n hx hb dX4_take_7 rfl (lv_at hl 0 rfl) ?_
  refine g_297 C hH (jC_3 hW) dX4_take_8 ?_
  obtain ⟨b1, h⟩ := gd_e h
  refine h_iald C hH (jC_6 hW).1 (jC_6 hW).2.1 b1 dX4_take_11 ?_
  refine lv_iload_n hx hb dX4_take_12 rfl (lv_at hl 1 rfl) ?_
  refine lv_icmp_ne (tgt := 38) hx hb dX4_take_13 (by decide) (fun hc => ?_) (fun hc => ?_)
  · have h := ite_f hc h
    exact wX4_take_b38 hW C hr hk hH hS hl h
  · have h := ite_t hc h
    refine lv_aload_n hx hb dX4_take_16 rfl (lv_at hl 0 rfl) ?_
    refine g_297 C hH (jC_3 hW) dX4_take_17 ?_
    refine lv_sipush (v := 400) hx hb dX4_take_20 (by decide) ?_
    refine lv_icmp_ge (tgt := 38) hx hb dX4_take_23 (by decide) (fun hc => ?_) (fun hc => ?_)
    · have h := ite_t hc h
      exact wX4_take_b38 hW C hr hk hH hS hl h
    · have h := ite_f hc h
      refine lv_aload_n hx hb dX4_take_26 rfl (lv_at hl 0 rfl) ?_
      refine lv_dup hx hb dX4_take_27 rfl ?_
      refine g_297 C hH (jC_3 hW) dX4_take_28 ?_
      refine lv_iconst (v := 1) hx hb dX4_take_31 (by decide) ?_
      refine lv_iadd hx hb dX4_take_32 ?_
      obtain ⟨μ8, e9, h⟩ := bd_e h
      refine p_297 C hH hS (jC_3 hW) dX4_take_33 (fun H locs hH hS => ?_)
      have hH := Hd.to e9 hH
      refine lv_iconst (v := 1) hx hb dX4_take_36 (by decide) ?_
      exact h_zret (y := 1) C hr hk hH hS rfl (by cases h; rfl) dX4_take_37
theorem c_X4_take {l : Launch} {ω : WW} {x1 : Int32} (hW : FWC ω) {μ : Mem} {rr : Int32} {μo : Mem} (h : fX4_take x1 μ = some (rr, μo)) : Con l yX4_take cX4_take 2 (some .boolean) 1 ω [.ref (wB ω + 3), .int x1] μ (some (.int rr)) μo :=
  con_of (by decide) (Nat.le_of_ble_eq_true rfl) (fun p e s m args below meth c ls C hr hk hl hH hS => wX4_take_e hW C hr hk hH hS (lv_sub hl [0, 1] rfl) h)
end WK4
