theorem dX12_lossOf_0 : decode cX12_lossOf 0 = .ok (.aload_n 0, 1) := by decide +kernel
theorem dX12_lossOf_1 : decode cX12_lossOf 1 = .ok (.invokevirtual 323, 3) := by decide +kernel
theorem dX12_lossOf_4 : decode cX12_lossOf 4 = .ok (.aload_n 0, 1) := by decide +kernel
theorem dX12_lossOf_5 : decode cX12_lossOf 5 = .ok (.iload_n 1, 1) := by decide +kernel
theorem dX12_lossOf_6 : decode cX12_lossOf 6 = .ok (.iload_n 2, 1) := by decide +kernel
theorem dX12_lossOf_7 : decode cX12_lossOf 7 = .ok (.invokevirtual 377, 3) := by decide +kernel
theorem dX12_lossOf_10 : decode cX12_lossOf 10 = .ok (.aload_n 0, 1) := by decide +kernel
theorem dX12_lossOf_11 : decode cX12_lossOf 11 = .ok (.iload_n 1, 1) := by decide +kernel
theorem dX12_lossOf_12 : decode cX12_lossOf 12 = .ok (.invokevirtual 358, 3) := by decide +kernel
theorem dX12_lossOf_15 : decode cX12_lossOf 15 = .ok (.ireturn, 1) := by decide +kernel
theorem dX12_savesOf_0 : decode cX12_savesOf 0 = .ok (.aload_n 0, 1) := by decide +kernel
theorem dX12_savesOf_1 : decode cX12_savesOf 1 = .ok (.iload_n 1, 1) := by decide +kernel
theorem dX12_savesOf_2 : decode cX12_savesOf 2 = .ok (.iconst 0, 1) := by decide +kernel
theorem dX12_savesOf_3 : decode cX12_savesOf 3 = .ok (.invokevirtual 425, 3) := by decide +kernel
theorem dX12_savesOf_6 : decode cX12_savesOf 6 = .ok (.aload_n 0, 1) := by decide +kernel
theorem dX12_savesOf_7 : decode cX12_savesOf 7 = .ok (.iload_n 1, 1) := by decide +kernel
theorem dX12_savesOf_8 : decode cX12_savesOf 8 = .ok (.iconst 1, 1) := by decide +kernel
theorem dX12_savesOf_9 : decode cX12_savesOf 9 = .ok (.invokevirtual 425, 3) := by decide +kernel
theorem dX12_savesOf_12 : decode cX12_savesOf 12 = .ok (.isub, 1) := by decide +kernel
theorem dX12_savesOf_13 : decode cX12_savesOf 13 = .ok (.ireturn, 1) := by decide +kernel
theorem dX12_first_0 : decode cX12_first 0 = .ok (.bipush (-2), 2) := by decide +kernel
theorem dX12_first_2 : decode cX12_first 2 = .ok (.istore_n 1, 1) := by decide +kernel
theorem dX12_first_3 : decode cX12_first 3 = .ok (.iconst 0, 1) := by decide +kernel
theorem dX12_first_4 : decode cX12_first 4 = .ok (.istore_n 2, 1) := by decide +kernel
theorem dX12_first_5 : decode cX12_first 5 = .ok (.iload_n 2, 1) := by decide +kernel
theorem dX12_first_6 : decode cX12_first 6 = .ok (.aload_n 0, 1) := by decide +kernel
theorem dX12_first_7 : decode cX12_first 7 = .ok (.invokevirtual 309, 3) := by decide +kernel
theorem dX12_first_10 : decode cX12_first 10 = .ok (.if_icmp .ge 28, 3) := by decide +kernel
theorem dX12_first_13 : decode cX12_first 13 = .ok (.iload_n 1, 1) := by decide +kernel
theorem dX12_first_14 : decode cX12_first 14 = .ok (.ifCond .lt 16, 3) := by decide +kernel
theorem dX12_first_17 : decode cX12_first 17 = .ok (.aload_n 0, 1) := by decide +kernel
theorem dX12_first_18 : decode cX12_first 18 = .ok (.iload_n 2, 1) := by decide +kernel
theorem dX12_first_19 : decode cX12_first 19 = .ok (.invokevirtual 428, 3) := by decide +kernel
theorem dX12_first_22 : decode cX12_first 22 = .ok (.aload_n 0, 1) := by decide +kernel
theorem dX12_first_23 : decode cX12_first 23 = .ok (.iload_n 1, 1) := by decide +kernel
theorem dX12_first_24 : decode cX12_first 24 = .ok (.invokevirtual 428, 3) := by decide +kernel
theorem dX12_first_27 : decode cX12_first 27 = .ok (.if_icmp .le 5, 3) := by decide +kernel
theorem dX12_first_30 : decode cX12_first 30 = .ok (.iload_n 2, 1) := by decide +kernel
theorem dX12_first_31 : decode cX12_first 31 = .ok (.istore_n 1, 1) := by decide +kernel
theorem dX12_first_32 : decode cX12_first 32 = .ok (.iinc 2 1, 3) := by decide +kernel
theorem dX12_first_35 : decode cX12_first 35 = .ok (.goto (-30), 3) := by decide +kernel
theorem dX12_first_38 : decode cX12_first 38 = .ok (.iload_n 1, 1) := by decide +kernel
theorem dX12_first_39 : decode cX12_first 39 = .ok (.ireturn, 1) := by decide +kernel
theorem dX12_forget_0 : decode cX12_forget 0 = .ok (.aload_n 0, 1) := by decide +kernel
theorem dX12_forget_1 : decode cX12_forget 1 = .ok (.getfield 263, 3) := by decide +kernel
theorem dX12_forget_4 : decode cX12_forget 4 = .ok (.istore_n 1, 1) := by decide +kernel
theorem dX12_forget_5 : decode cX12_forget 5 = .ok (.aload_n 0, 1) := by decide +kernel
theorem dX12_forget_6 : decode cX12_forget 6 = .ok (.iconst 0, 1) := by decide +kernel
theorem dX12_forget_7 : decode cX12_forget 7 = .ok (.putfield 263, 3) := by decide +kernel
theorem dX12_forget_10 : decode cX12_forget 10 = .ok (.iload_n 1, 1) := by decide +kernel
theorem dX12_forget_11 : decode cX12_forget 11 = .ok (.ireturn, 1) := by decide +kernel
theorem dX12_gone_0 : decode cX12_gone 0 = .ok (.aload_n 0, 1) := by decide +kernel
theorem dX12_gone_1 : decode cX12_gone 1 = .ok (.iload_n 1, 1) := by decide +kernel
theorem dX12_gone_2 : decode cX12_gone 2 = .ok (.invokevirtual 371, 3) := by decide +kernel
theorem dX12_gone_5 : decode cX12_gone 5 = .ok (.ifCond .eq 14, 3) := by decide +kernel
theorem dX12_gone_8 : decode cX12_gone 8 = .ok (.aload_n 0, 1) := by decide +kernel
theorem dX12_gone_9 : decode cX12_gone 9 = .ok (.bipush 12, 2) := by decide +kernel
theorem dX12_gone_11 : decode cX12_gone 11 = .ok (.iload_n 1, 1) := by decide +kernel
theorem dX12_gone_12 : decode cX12_gone 12 = .ok (.iadd, 1) := by decide +kernel
theorem dX12_gone_13 : decode cX12_gone 13 = .ok (.invokevirtual 422, 3) := by decide +kernel
theorem dX12_gone_16 : decode cX12_gone 16 = .ok (.goto 4, 3) := by decide +kernel
theorem dX12_gone_19 : decode cX12_gone 19 = .ok (.iconst (-1), 1) := by decide +kernel
theorem dX12_gone_20 : decode cX12_gone 20 = .ok (.ireturn, 1) := by decide +kernel
theorem dX12_hold_0 : decode cX12_hold 0 = .ok (.iload_n 1, 1) := by decide +kernel
theorem dX12_hold_1 : decode cX12_hold 1 = .ok (.iconst 0, 1) := by decide +kernel
theorem dX12_hold_2 : decode cX12_hold 2 = .ok (.iconst 2, 1) := by decide +kernel
theorem dX12_hold_3 : decode cX12_hold 3 = .ok (.invokestatic 313, 3) := by decide +kernel
theorem dX12_hold_6 : decode cX12_hold 6 = .ok (.ifCond .ne 5, 3) := by decide +kernel
theorem dX12_hold_9 : decode cX12_hold 9 = .ok (.iconst 0, 1) := by decide +kernel
theorem dX12_hold_10 : decode cX12_hold 10 = .ok (.ireturn, 1) := by decide +kernel
theorem dX12_hold_11 : decode cX12_hold 11 = .ok (.aload_n 0, 1) := by decide +kernel
theorem dX12_hold_12 : decode cX12_hold 12 = .ok (.getfield 158, 3) := by decide +kernel
theorem dX12_hold_15 : decode cX12_hold 15 = .ok (.iload_n 1, 1) := by decide +kernel
theorem dX12_hold_16 : decode cX12_hold 16 = .ok (.iconst 1, 1) := by decide +kernel
theorem dX12_hold_17 : decode cX12_hold 17 = .ok (.bastore, 1) := by decide +kernel
theorem dX12_hold_18 : decode cX12_hold 18 = .ok (.iconst 0, 1) := by decide +kernel
theorem dX12_hold_19 : decode cX12_hold 19 = .ok (.istore_n 2, 1) := by decide +kernel
theorem dX12_hold_20 : decode cX12_hold 20 = .ok (.iload_n 2, 1) := by decide +kernel
theorem dX12_hold_21 : decode cX12_hold 21 = .ok (.bipush 39, 2) := by decide +kernel
theorem dX12_hold_23 : decode cX12_hold 23 = .ok (.if_icmp .ge 26, 3) := by decide +kernel
theorem dX12_hold_26 : decode cX12_hold 26 = .ok (.aload_n 0, 1) := by decide +kernel
theorem dX12_hold_27 : decode cX12_hold 27 = .ok (.getfield 161, 3) := by decide +kernel
theorem dX12_hold_30 : decode cX12_hold 30 = .ok (.bipush 39, 2) := by decide +kernel
theorem dX12_hold_32 : decode cX12_hold 32 = .ok (.iload_n 1, 1) := by decide +kernel
theorem dX12_hold_33 : decode cX12_hold 33 = .ok (.imul, 1) := by decide +kernel
theorem dX12_hold_34 : decode cX12_hold 34 = .ok (.iload_n 2, 1) := by decide +kernel
theorem dX12_hold_35 : decode cX12_hold 35 = .ok (.iadd, 1) := by decide +kernel
theorem dX12_hold_36 : decode cX12_hold 36 = .ok (.aload_n 0, 1) := by decide +kernel
theorem dX12_hold_37 : decode cX12_hold 37 = .ok (.getfield 110, 3) := by decide +kernel
theorem dX12_hold_40 : decode cX12_hold 40 = .ok (.iload_n 2, 1) := by decide +kernel
theorem dX12_hold_41 : decode cX12_hold 41 = .ok (.iaload, 1) := by decide +kernel
theorem dX12_hold_42 : decode cX12_hold 42 = .ok (.iastore, 1) := by decide +kernel
theorem dX12_hold_43 : decode cX12_hold 43 = .ok (.iinc 2 1, 3) := by decide +kernel
theorem dX12_hold_46 : decode cX12_hold 46 = .ok (.goto (-26), 3) := by decide +kernel
theorem dX12_hold_49 : decode cX12_hold 49 = .ok (.iconst 1, 1) := by decide +kernel
theorem dX12_hold_50 : decode cX12_hold 50 = .ok (.ireturn, 1) := by decide +kernel
theorem dX12_mendsOf_0 : decode cX12_mendsOf 0 = .ok (.aload_n 0, 1) := by decide +kernel
theorem dX12_mendsOf_1 : decode cX12_mendsOf 1 = .ok (.iload_n 1, 1) := by decide +kernel
theorem dX12_mendsOf_2 : decode cX12_mendsOf 2 = .ok (.iconst 3, 1) := by decide +kernel
theorem dX12_mendsOf_3 : decode cX12_mendsOf 3 = .ok (.iconst 1, 1) := by decide +kernel
theorem dX12_mendsOf_4 : decode cX12_mendsOf 4 = .ok (.bipush 99, 2) := by decide +kernel
theorem dX12_mendsOf_6 : decode cX12_mendsOf 6 = .ok (.invokevirtual 345, 3) := by decide +kernel
theorem dX12_mendsOf_9 : decode cX12_mendsOf 9 = .ok (.ireturn, 1) := by decide +kernel
theorem dX12_house_0 : decode cX12_house 0 = .ok (.aload_n 0, 1) := by decide +kernel
theorem dX12_house_1 : decode cX12_house 1 = .ok (.iload_n 1, 1) := by decide +kernel
theorem dX12_house_2 : decode cX12_house 2 = .ok (.invokevirtual 371, 3) := by decide +kernel
theorem dX12_house_5 : decode cX12_house 5 = .ok (.ifCond .ne 5, 3) := by decide +kernel
theorem dX12_house_8 : decode cX12_house 8 = .ok (.iconst (-1), 1) := by decide +kernel
theorem dX12_house_9 : decode cX12_house 9 = .ok (.ireturn, 1) := by decide +kernel
theorem dX12_house_10 : decode cX12_house 10 = .ok (.aload_n 0, 1) := by decide +kernel
theorem dX12_house_11 : decode cX12_house 11 = .ok (.invokevirtual 323, 3) := by decide +kernel
theorem dX12_house_14 : decode cX12_house 14 = .ok (.iload_n 2, 1) := by decide +kernel
theorem dX12_house_15 : decode cX12_house 15 = .ok (.tableswitch 182 0 12 #[65, 71, 78, 88, 98, 108, 118, 128, 134, 140, 146, 152, 167], 65) := by decide +kernel
theorem dX12_house_80 : decode cX12_house 80 = .ok (.aload_n 0, 1) := by decide +kernel
theorem dX12_house_81 : decode cX12_house 81 = .ok (.iload_n 1, 1) := by decide +kernel
theorem dX12_house_82 : decode cX12_house 82 = .ok (.invokevirtual 336, 3) := by decide +kernel
theorem dX12_house_85 : decode cX12_house 85 = .ok (.ireturn, 1) := by decide +kernel
theorem dX12_house_86 : decode cX12_house 86 = .ok (.aload_n 0, 1) := by decide +kernel
theorem dX12_house_87 : decode cX12_house 87 = .ok (.getfield 113, 3) := by decide +kernel
theorem dX12_house_90 : decode cX12_house 90 = .ok (.iload_n 1, 1) := by decide +kernel
theorem dX12_house_91 : decode cX12_house 91 = .ok (.iaload, 1) := by decide +kernel
theorem dX12_house_92 : decode cX12_house 92 = .ok (.ireturn, 1) := by decide +kernel
theorem dX12_house_93 : decode cX12_house 93 = .ok (.aload_n 0, 1) := by decide +kernel
theorem dX12_house_94 : decode cX12_house 94 = .ok (.getfield 113, 3) := by decide +kernel
theorem dX12_house_97 : decode cX12_house 97 = .ok (.bipush 6, 2) := by decide +kernel
theorem dX12_house_99 : decode cX12_house 99 = .ok (.iload_n 1, 1) := by decide +kernel
theorem dX12_house_100 : decode cX12_house 100 = .ok (.iadd, 1) := by decide +kernel
theorem dX12_house_101 : decode cX12_house 101 = .ok (.iaload, 1) := by decide +kernel
theorem dX12_house_102 : decode cX12_house 102 = .ok (.ireturn, 1) := by decide +kernel
theorem dX12_house_103 : decode cX12_house 103 = .ok (.aload_n 0, 1) := by decide +kernel
theorem dX12_house_104 : decode cX12_house 104 = .ok (.getfield 113, 3) := by decide +kernel
theorem dX12_house_107 : decode cX12_house 107 = .ok (.bipush 12, 2) := by decide +kernel
theorem dX12_house_109 : decode cX12_house 109 = .ok (.iload_n 1, 1) := by decide +kernel
theorem dX12_house_110 : decode cX12_house 110 = .ok (.iadd, 1) := by decide +kernel
theorem dX12_house_111 : decode cX12_house 111 = .ok (.iaload, 1) := by decide +kernel
theorem dX12_house_112 : decode cX12_house 112 = .ok (.ireturn, 1) := by decide +kernel
theorem dX12_house_113 : decode cX12_house 113 = .ok (.aload_n 0, 1) := by decide +kernel
theorem dX12_house_114 : decode cX12_house 114 = .ok (.getfield 113, 3) := by decide +kernel
theorem dX12_house_117 : decode cX12_house 117 = .ok (.bipush 18, 2) := by decide +kernel
theorem dX12_house_119 : decode cX12_house 119 = .ok (.iload_n 1, 1) := by decide +kernel
theorem dX12_house_120 : decode cX12_house 120 = .ok (.iadd, 1) := by decide +kernel
theorem dX12_house_121 : decode cX12_house 121 = .ok (.iaload, 1) := by decide +kernel
theorem dX12_house_122 : decode cX12_house 122 = .ok (.ireturn, 1) := by decide +kernel
theorem dX12_house_123 : decode cX12_house 123 = .ok (.aload_n 0, 1) := by decide +kernel
theorem dX12_house_124 : decode cX12_house 124 = .ok (.getfield 113, 3) := by decide +kernel
theorem dX12_house_127 : decode cX12_house 127 = .ok (.bipush 24, 2) := by decide +kernel
theorem dX12_house_129 : decode cX12_house 129 = .ok (.iload_n 1, 1) := by decide +kernel
theorem dX12_house_130 : decode cX12_house 130 = .ok (.iadd, 1) := by decide +kernel
theorem dX12_house_131 : decode cX12_house 131 = .ok (.iaload, 1) := by decide +kernel
theorem dX12_house_132 : decode cX12_house 132 = .ok (.ireturn, 1) := by decide +kernel
theorem dX12_house_133 : decode cX12_house 133 = .ok (.aload_n 0, 1) := by decide +kernel
theorem dX12_house_134 : decode cX12_house 134 = .ok (.getfield 113, 3) := by decide +kernel
theorem dX12_house_137 : decode cX12_house 137 = .ok (.bipush 30, 2) := by decide +kernel
theorem dX12_house_139 : decode cX12_house 139 = .ok (.iload_n 1, 1) := by decide +kernel
theorem dX12_house_140 : decode cX12_house 140 = .ok (.iadd, 1) := by decide +kernel
theorem dX12_house_141 : decode cX12_house 141 = .ok (.iaload, 1) := by decide +kernel
theorem dX12_house_142 : decode cX12_house 142 = .ok (.ireturn, 1) := by decide +kernel
theorem dX12_house_143 : decode cX12_house 143 = .ok (.aload_n 0, 1) := by decide +kernel
theorem dX12_house_144 : decode cX12_house 144 = .ok (.iload_n 1, 1) := by decide +kernel
theorem dX12_house_145 : decode cX12_house 145 = .ok (.invokevirtual 349, 3) := by decide +kernel
theorem dX12_house_148 : decode cX12_house 148 = .ok (.ireturn, 1) := by decide +kernel
theorem dX12_house_149 : decode cX12_house 149 = .ok (.aload_n 0, 1) := by decide +kernel
theorem dX12_house_150 : decode cX12_house 150 = .ok (.iload_n 1, 1) := by decide +kernel
theorem dX12_house_151 : decode cX12_house 151 = .ok (.invokevirtual 352, 3) := by decide +kernel
theorem dX12_house_154 : decode cX12_house 154 = .ok (.ireturn, 1) := by decide +kernel
theorem dX12_house_155 : decode cX12_house 155 = .ok (.aload_n 0, 1) := by decide +kernel
theorem dX12_house_156 : decode cX12_house 156 = .ok (.iload_n 1, 1) := by decide +kernel
theorem dX12_house_157 : decode cX12_house 157 = .ok (.invokevirtual 358, 3) := by decide +kernel
theorem dX12_house_160 : decode cX12_house 160 = .ok (.ireturn, 1) := by decide +kernel
theorem dX12_house_161 : decode cX12_house 161 = .ok (.aload_n 0, 1) := by decide +kernel
theorem dX12_house_162 : decode cX12_house 162 = .ok (.iload_n 1, 1) := by decide +kernel
theorem dX12_house_163 : decode cX12_house 163 = .ok (.invokevirtual 374, 3) := by decide +kernel
theorem dX12_house_166 : decode cX12_house 166 = .ok (.ireturn, 1) := by decide +kernel
theorem dX12_house_167 : decode cX12_house 167 = .ok (.aload_n 0, 1) := by decide +kernel
theorem dX12_house_168 : decode cX12_house 168 = .ok (.getfield 55, 3) := by decide +kernel
theorem dX12_house_171 : decode cX12_house 171 = .ok (.bipush 6, 2) := by decide +kernel
theorem dX12_house_173 : decode cX12_house 173 = .ok (.aload_n 0, 1) := by decide +kernel
theorem dX12_house_174 : decode cX12_house 174 = .ok (.getfield 245, 3) := by decide +kernel
theorem dX12_house_177 : decode cX12_house 177 = .ok (.imul, 1) := by decide +kernel
theorem dX12_house_178 : decode cX12_house 178 = .ok (.iload_n 1, 1) := by decide +kernel
theorem dX12_house_179 : decode cX12_house 179 = .ok (.iadd, 1) := by decide +kernel
theorem dX12_house_180 : decode cX12_house 180 = .ok (.iaload, 1) := by decide +kernel
theorem dX12_house_181 : decode cX12_house 181 = .ok (.ireturn, 1) := by decide +kernel
theorem dX12_house_182 : decode cX12_house 182 = .ok (.aload_n 0, 1) := by decide +kernel
theorem dX12_house_183 : decode cX12_house 183 = .ok (.getfield 58, 3) := by decide +kernel
theorem dX12_house_186 : decode cX12_house 186 = .ok (.bipush 6, 2) := by decide +kernel
theorem dX12_house_188 : decode cX12_house 188 = .ok (.aload_n 0, 1) := by decide +kernel
theorem dX12_house_189 : decode cX12_house 189 = .ok (.getfield 245, 3) := by decide +kernel
theorem dX12_house_192 : decode cX12_house 192 = .ok (.imul, 1) := by decide +kernel
theorem dX12_house_193 : decode cX12_house 193 = .ok (.iload_n 1, 1) := by decide +kernel
theorem dX12_house_194 : decode cX12_house 194 = .ok (.iadd, 1) := by decide +kernel
theorem dX12_house_195 : decode cX12_house 195 = .ok (.iaload, 1) := by decide +kernel
theorem dX12_house_196 : decode cX12_house 196 = .ok (.ireturn, 1) := by decide +kernel
theorem dX12_house_197 : decode cX12_house 197 = .ok (.iconst (-1), 1) := by decide +kernel
theorem dX12_house_198 : decode cX12_house 198 = .ok (.ireturn, 1) := by decide +kernel
theorem dX12_isSmall_0 : decode cX12_isSmall 0 = .ok (.iload_n 0, 1) := by decide +kernel
theorem dX12_isSmall_1 : decode cX12_isSmall 1 = .ok (.iconst 0, 1) := by decide +kernel
theorem dX12_isSmall_2 : decode cX12_isSmall 2 = .ok (.bipush 30, 2) := by decide +kernel
theorem dX12_isSmall_4 : decode cX12_isSmall 4 = .ok (.invokestatic 313, 3) := by decide +kernel
theorem dX12_isSmall_7 : decode cX12_isSmall 7 = .ok (.ireturn, 1) := by decide +kernel
theorem dX12_keptAll_0 : decode cX12_keptAll 0 = .ok (.iconst 0, 1) := by decide +kernel
theorem dX12_keptAll_1 : decode cX12_keptAll 1 = .ok (.istore_n 1, 1) := by decide +kernel
theorem dX12_keptAll_2 : decode cX12_keptAll 2 = .ok (.iconst 0, 1) := by decide +kernel
theorem dX12_keptAll_3 : decode cX12_keptAll 3 = .ok (.istore_n 2, 1) := by decide +kernel
theorem dX12_keptAll_4 : decode cX12_keptAll 4 = .ok (.iload_n 2, 1) := by decide +kernel
theorem dX12_keptAll_5 : decode cX12_keptAll 5 = .ok (.aload_n 0, 1) := by decide +kernel
theorem dX12_keptAll_6 : decode cX12_keptAll 6 = .ok (.invokevirtual 309, 3) := by decide +kernel
theorem dX12_keptAll_9 : decode cX12_keptAll 9 = .ok (.if_icmp .ge 21, 3) := by decide +kernel
theorem dX12_keptAll_12 : decode cX12_keptAll 12 = .ok (.iload_n 1, 1) := by decide +kernel
theorem dX12_keptAll_13 : decode cX12_keptAll 13 = .ok (.aload_n 0, 1) := by decide +kernel
theorem dX12_keptAll_14 : decode cX12_keptAll 14 = .ok (.getfield 113, 3) := by decide +kernel
theorem dX12_keptAll_17 : decode cX12_keptAll 17 = .ok (.bipush 12, 2) := by decide +kernel
theorem dX12_keptAll_19 : decode cX12_keptAll 19 = .ok (.iload_n 2, 1) := by decide +kernel
theorem dX12_keptAll_20 : decode cX12_keptAll 20 = .ok (.iadd, 1) := by decide +kernel
theorem dX12_keptAll_21 : decode cX12_keptAll 21 = .ok (.iaload, 1) := by decide +kernel
theorem dX12_keptAll_22 : decode cX12_keptAll 22 = .ok (.iadd, 1) := by decide +kernel
theorem dX12_keptAll_23 : decode cX12_keptAll 23 = .ok (.istore_n 1, 1) := by decide +kernel
theorem dX12_keptAll_24 : decode cX12_keptAll 24 = .ok (.iinc 2 1, 3) := by decide +kernel
theorem dX12_keptAll_27 : decode cX12_keptAll 27 = .ok (.goto (-23), 3) := by decide +kernel
theorem dX12_keptAll_30 : decode cX12_keptAll 30 = .ok (.iload_n 1, 1) := by decide +kernel
theorem dX12_keptAll_31 : decode cX12_keptAll 31 = .ok (.ireturn, 1) := by decide +kernel
theorem dX12_needsNow_0 : decode cX12_needsNow 0 = .ok (.aload_n 0, 1) := by decide +kernel
theorem dX12_needsNow_1 : decode cX12_needsNow 1 = .ok (.getfield 113, 3) := by decide +kernel
theorem dX12_needsNow_4 : decode cX12_needsNow 4 = .ok (.bipush 6, 2) := by decide +kernel
theorem dX12_needsNow_6 : decode cX12_needsNow 6 = .ok (.iload_n 1, 1) := by decide +kernel
theorem dX12_needsNow_7 : decode cX12_needsNow 7 = .ok (.iadd, 1) := by decide +kernel
theorem dX12_needsNow_8 : decode cX12_needsNow 8 = .ok (.iaload, 1) := by decide +kernel
theorem dX12_needsNow_9 : decode cX12_needsNow 9 = .ok (.istore_n 2, 1) := by decide +kernel
theorem dX12_needsNow_10 : decode cX12_needsNow 10 = .ok (.aload_n 0, 1) := by decide +kernel
theorem dX12_needsNow_11 : decode cX12_needsNow 11 = .ok (.getfield 113, 3) := by decide +kernel
theorem dX12_needsNow_14 : decode cX12_needsNow 14 = .ok (.bipush 30, 2) := by decide +kernel
theorem dX12_needsNow_16 : decode cX12_needsNow 16 = .ok (.iload_n 1, 1) := by decide +kernel
theorem dX12_needsNow_17 : decode cX12_needsNow 17 = .ok (.iadd, 1) := by decide +kernel
theorem dX12_needsNow_18 : decode cX12_needsNow 18 = .ok (.iaload, 1) := by decide +kernel
theorem dX12_needsNow_19 : decode cX12_needsNow 19 = .ok (.istore_n 3, 1) := by decide +kernel
theorem dX12_needsNow_20 : decode cX12_needsNow 20 = .ok (.iconst 0, 1) := by decide +kernel
theorem dX12_needsNow_21 : decode cX12_needsNow 21 = .ok (.istore 4, 2) := by decide +kernel
theorem dX12_needsNow_23 : decode cX12_needsNow 23 = .ok (.iload 4, 2) := by decide +kernel
theorem dX12_needsNow_25 : decode cX12_needsNow 25 = .ok (.bipush 31, 2) := by decide +kernel
theorem dX12_needsNow_27 : decode cX12_needsNow 27 = .ok (.if_icmp .ge 29, 3) := by decide +kernel
theorem dX12_needsNow_30 : decode cX12_needsNow 30 = .ok (.aload_n 0, 1) := by decide +kernel
theorem dX12_needsNow_31 : decode cX12_needsNow 31 = .ok (.iload_n 1, 1) := by decide +kernel
theorem dX12_needsNow_32 : decode cX12_needsNow 32 = .ok (.invokevirtual 358, 3) := by decide +kernel
theorem dX12_needsNow_35 : decode cX12_needsNow 35 = .ok (.ifCond .eq 21, 3) := by decide +kernel
theorem dX12_needsNow_38 : decode cX12_needsNow 38 = .ok (.iinc 4 1, 3) := by decide +kernel
theorem dX12_needsNow_41 : decode cX12_needsNow 41 = .ok (.iload 4, 2) := by decide +kernel
theorem dX12_needsNow_43 : decode cX12_needsNow 43 = .ok (.bipush 31, 2) := by decide +kernel
theorem dX12_needsNow_45 : decode cX12_needsNow 45 = .ok (.if_icmp .ge (-22), 3) := by decide +kernel
theorem dX12_needsNow_48 : decode cX12_needsNow 48 = .ok (.aload_n 0, 1) := by decide +kernel
theorem dX12_needsNow_49 : decode cX12_needsNow 49 = .ok (.iload_n 1, 1) := by decide +kernel
theorem dX12_needsNow_50 : decode cX12_needsNow 50 = .ok (.invokevirtual 355, 3) := by decide +kernel
theorem dX12_needsNow_53 : decode cX12_needsNow 53 = .ok (.goto (-30), 3) := by decide +kernel
theorem dX12_needsNow_56 : decode cX12_needsNow 56 = .ok (.aload_n 0, 1) := by decide +kernel
theorem dX12_needsNow_57 : decode cX12_needsNow 57 = .ok (.getfield 113, 3) := by decide +kernel
theorem dX12_needsNow_60 : decode cX12_needsNow 60 = .ok (.bipush 6, 2) := by decide +kernel
theorem dX12_needsNow_62 : decode cX12_needsNow 62 = .ok (.iload_n 1, 1) := by decide +kernel
theorem dX12_needsNow_63 : decode cX12_needsNow 63 = .ok (.iadd, 1) := by decide +kernel
theorem dX12_needsNow_64 : decode cX12_needsNow 64 = .ok (.iload_n 2, 1) := by decide +kernel
theorem dX12_needsNow_65 : decode cX12_needsNow 65 = .ok (.iastore, 1) := by decide +kernel
theorem dX12_needsNow_66 : decode cX12_needsNow 66 = .ok (.aload_n 0, 1) := by decide +kernel
theorem dX12_needsNow_67 : decode cX12_needsNow 67 = .ok (.getfield 113, 3) := by decide +kernel
theorem dX12_needsNow_70 : decode cX12_needsNow 70 = .ok (.bipush 30, 2) := by decide +kernel
theorem dX12_needsNow_72 : decode cX12_needsNow 72 = .ok (.iload_n 1, 1) := by decide +kernel
theorem dX12_needsNow_73 : decode cX12_needsNow 73 = .ok (.iadd, 1) := by decide +kernel
theorem dX12_needsNow_74 : decode cX12_needsNow 74 = .ok (.iload_n 3, 1) := by decide +kernel
theorem dX12_needsNow_75 : decode cX12_needsNow 75 = .ok (.iastore, 1) := by decide +kernel
theorem dX12_needsNow_76 : decode cX12_needsNow 76 = .ok (.iload 4, 2) := by decide +kernel
theorem dX12_needsNow_78 : decode cX12_needsNow 78 = .ok (.ireturn, 1) := by decide +kernel
theorem dX12_runsOut_0 : decode cX12_runsOut 0 = .ok (.iconst 0, 1) := by decide +kernel
theorem dX12_runsOut_1 : decode cX12_runsOut 1 = .ok (.istore_n 1, 1) := by decide +kernel
theorem dX12_runsOut_2 : decode cX12_runsOut 2 = .ok (.iload_n 1, 1) := by decide +kernel
theorem dX12_runsOut_3 : decode cX12_runsOut 3 = .ok (.aload_n 0, 1) := by decide +kernel
theorem dX12_runsOut_4 : decode cX12_runsOut 4 = .ok (.invokevirtual 309, 3) := by decide +kernel
theorem dX12_runsOut_7 : decode cX12_runsOut 7 = .ok (.if_icmp .ge 54, 3) := by decide +kernel
theorem dX12_runsOut_10 : decode cX12_runsOut 10 = .ok (.aload_n 0, 1) := by decide +kernel
theorem dX12_runsOut_11 : decode cX12_runsOut 11 = .ok (.iload_n 1, 1) := by decide +kernel
theorem dX12_runsOut_12 : decode cX12_runsOut 12 = .ok (.invokevirtual 416, 3) := by decide +kernel
theorem dX12_runsOut_15 : decode cX12_runsOut 15 = .ok (.istore_n 2, 1) := by decide +kernel
theorem dX12_runsOut_16 : decode cX12_runsOut 16 = .ok (.iload_n 2, 1) := by decide +kernel
theorem dX12_runsOut_17 : decode cX12_runsOut 17 = .ok (.bipush 30, 2) := by decide +kernel
theorem dX12_runsOut_19 : decode cX12_runsOut 19 = .ok (.if_icmp .le 6, 3) := by decide +kernel
theorem dX12_runsOut_22 : decode cX12_runsOut 22 = .ok (.goto 33, 3) := by decide +kernel
theorem dX12_runsOut_25 : decode cX12_runsOut 25 = .ok (.iload_n 2, 1) := by decide +kernel
theorem dX12_runsOut_26 : decode cX12_runsOut 26 = .ok (.aload_n 0, 1) := by decide +kernel
theorem dX12_runsOut_27 : decode cX12_runsOut 27 = .ok (.getfield 113, 3) := by decide +kernel
theorem dX12_runsOut_30 : decode cX12_runsOut 30 = .ok (.bipush 37, 2) := by decide +kernel
theorem dX12_runsOut_32 : decode cX12_runsOut 32 = .ok (.iaload, 1) := by decide +kernel
theorem dX12_runsOut_33 : decode cX12_runsOut 33 = .ok (.if_icmp .le 5, 3) := by decide +kernel
theorem dX12_runsOut_36 : decode cX12_runsOut 36 = .ok (.iconst 1, 1) := by decide +kernel
theorem dX12_runsOut_37 : decode cX12_runsOut 37 = .ok (.ireturn, 1) := by decide +kernel
theorem dX12_runsOut_38 : decode cX12_runsOut 38 = .ok (.aload_n 0, 1) := by decide +kernel
theorem dX12_runsOut_39 : decode cX12_runsOut 39 = .ok (.iload_n 1, 1) := by decide +kernel
theorem dX12_runsOut_40 : decode cX12_runsOut 40 = .ok (.iload_n 2, 1) := by decide +kernel
theorem dX12_runsOut_41 : decode cX12_runsOut 41 = .ok (.invokevirtual 377, 3) := by decide +kernel
theorem dX12_runsOut_44 : decode cX12_runsOut 44 = .ok (.aload_n 0, 1) := by decide +kernel
theorem dX12_runsOut_45 : decode cX12_runsOut 45 = .ok (.getfield 113, 3) := by decide +kernel
theorem dX12_runsOut_48 : decode cX12_runsOut 48 = .ok (.bipush 37, 2) := by decide +kernel
theorem dX12_runsOut_50 : decode cX12_runsOut 50 = .ok (.dup2, 1) := by decide +kernel
theorem dX12_runsOut_51 : decode cX12_runsOut 51 = .ok (.iaload, 1) := by decide +kernel
theorem dX12_runsOut_52 : decode cX12_runsOut 52 = .ok (.iload_n 2, 1) := by decide +kernel
theorem dX12_runsOut_53 : decode cX12_runsOut 53 = .ok (.isub, 1) := by decide +kernel
theorem dX12_runsOut_54 : decode cX12_runsOut 54 = .ok (.iastore, 1) := by decide +kernel
theorem dX12_runsOut_55 : decode cX12_runsOut 55 = .ok (.iinc 1 1, 3) := by decide +kernel
theorem dX12_runsOut_58 : decode cX12_runsOut 58 = .ok (.goto (-56), 3) := by decide +kernel
theorem dX12_runsOut_61 : decode cX12_runsOut 61 = .ok (.iconst 0, 1) := by decide +kernel
theorem dX12_runsOut_62 : decode cX12_runsOut 62 = .ok (.ireturn, 1) := by decide +kernel
theorem dX12_lasts_0 : decode cX12_lasts 0 = .ok (.aload_n 0, 1) := by decide +kernel
theorem dX12_lasts_1 : decode cX12_lasts 1 = .ok (.invokevirtual 407, 3) := by decide +kernel
theorem dX12_lasts_4 : decode cX12_lasts 4 = .ok (.iconst 0, 1) := by decide +kernel
theorem dX12_lasts_5 : decode cX12_lasts 5 = .ok (.istore_n 1, 1) := by decide +kernel
theorem dX12_lasts_6 : decode cX12_lasts 6 = .ok (.iload_n 1, 1) := by decide +kernel
theorem dX12_lasts_7 : decode cX12_lasts 7 = .ok (.bipush 60, 2) := by decide +kernel
theorem dX12_lasts_9 : decode cX12_lasts 9 = .ok (.if_icmp .ge 22, 3) := by decide +kernel
theorem dX12_lasts_12 : decode cX12_lasts 12 = .ok (.aload_n 0, 1) := by decide +kernel
theorem dX12_lasts_13 : decode cX12_lasts 13 = .ok (.invokevirtual 419, 3) := by decide +kernel
theorem dX12_lasts_16 : decode cX12_lasts 16 = .ok (.ifCond .eq 5, 3) := by decide +kernel
theorem dX12_lasts_19 : decode cX12_lasts 19 = .ok (.iload_n 1, 1) := by decide +kernel
theorem dX12_lasts_20 : decode cX12_lasts 20 = .ok (.ireturn, 1) := by decide +kernel
theorem dX12_lasts_21 : decode cX12_lasts 21 = .ok (.aload_n 0, 1) := by decide +kernel
theorem dX12_lasts_22 : decode cX12_lasts 22 = .ok (.invokevirtual 368, 3) := by decide +kernel
theorem dX12_lasts_25 : decode cX12_lasts 25 = .ok (.iinc 1 1, 3) := by decide +kernel
theorem dX12_lasts_28 : decode cX12_lasts 28 = .ok (.goto (-22), 3) := by decide +kernel
theorem dX12_lasts_31 : decode cX12_lasts 31 = .ok (.bipush 60, 2) := by decide +kernel
theorem dX12_lasts_33 : decode cX12_lasts 33 = .ok (.ireturn, 1) := by decide +kernel
theorem dX12_markOf_0 : decode cX12_markOf 0 = .ok (.iload_n 2, 1) := by decide +kernel
theorem dX12_markOf_1 : decode cX12_markOf 1 = .ok (.ifCond .ne 11, 3) := by decide +kernel
theorem dX12_markOf_4 : decode cX12_markOf 4 = .ok (.aload_n 0, 1) := by decide +kernel
theorem dX12_markOf_5 : decode cX12_markOf 5 = .ok (.iload_n 1, 1) := by decide +kernel
theorem dX12_markOf_6 : decode cX12_markOf 6 = .ok (.invokevirtual 336, 3) := by decide +kernel
theorem dX12_markOf_9 : decode cX12_markOf 9 = .ok (.goto 43, 3) := by decide +kernel
theorem dX12_markOf_12 : decode cX12_markOf 12 = .ok (.iload_n 2, 1) := by decide +kernel
theorem dX12_markOf_13 : decode cX12_markOf 13 = .ok (.iconst 1, 1) := by decide +kernel
theorem dX12_markOf_14 : decode cX12_markOf 14 = .ok (.if_icmp .ne 15, 3) := by decide +kernel
theorem dX12_markOf_17 : decode cX12_markOf 17 = .ok (.aload_n 0, 1) := by decide +kernel
theorem dX12_markOf_18 : decode cX12_markOf 18 = .ok (.getfield 110, 3) := by decide +kernel
theorem dX12_markOf_21 : decode cX12_markOf 21 = .ok (.bipush 6, 2) := by decide +kernel
theorem dX12_markOf_23 : decode cX12_markOf 23 = .ok (.iload_n 1, 1) := by decide +kernel
theorem dX12_markOf_24 : decode cX12_markOf 24 = .ok (.iadd, 1) := by decide +kernel
theorem dX12_markOf_25 : decode cX12_markOf 25 = .ok (.iaload, 1) := by decide +kernel
theorem dX12_markOf_26 : decode cX12_markOf 26 = .ok (.goto 26, 3) := by decide +kernel
theorem dX12_markOf_29 : decode cX12_markOf 29 = .ok (.iload_n 2, 1) := by decide +kernel
theorem dX12_markOf_30 : decode cX12_markOf 30 = .ok (.iconst 2, 1) := by decide +kernel
theorem dX12_markOf_31 : decode cX12_markOf 31 = .ok (.if_icmp .ne 15, 3) := by decide +kernel
theorem dX12_markOf_34 : decode cX12_markOf 34 = .ok (.aload_n 0, 1) := by decide +kernel
theorem dX12_markOf_35 : decode cX12_markOf 35 = .ok (.getfield 110, 3) := by decide +kernel
theorem dX12_markOf_38 : decode cX12_markOf 38 = .ok (.bipush 12, 2) := by decide +kernel
theorem dX12_markOf_40 : decode cX12_markOf 40 = .ok (.iload_n 1, 1) := by decide +kernel
theorem dX12_markOf_41 : decode cX12_markOf 41 = .ok (.iadd, 1) := by decide +kernel
theorem dX12_markOf_42 : decode cX12_markOf 42 = .ok (.iaload, 1) := by decide +kernel
theorem dX12_markOf_43 : decode cX12_markOf 43 = .ok (.goto 9, 3) := by decide +kernel
theorem dX12_markOf_46 : decode cX12_markOf 46 = .ok (.aload_n 0, 1) := by decide +kernel
theorem dX12_markOf_47 : decode cX12_markOf 47 = .ok (.getfield 110, 3) := by decide +kernel
theorem dX12_markOf_50 : decode cX12_markOf 50 = .ok (.iload_n 1, 1) := by decide +kernel
theorem dX12_markOf_51 : decode cX12_markOf 51 = .ok (.iaload, 1) := by decide +kernel
theorem dX12_markOf_52 : decode cX12_markOf 52 = .ok (.ireturn, 1) := by decide +kernel
theorem dX12_whoseBits_0 : decode cX12_whoseBits 0 = .ok (.iconst 0, 1) := by decide +kernel
theorem dX12_whoseBits_1 : decode cX12_whoseBits 1 = .ok (.istore_n 2, 1) := by decide +kernel
theorem dX12_whoseBits_2 : decode cX12_whoseBits 2 = .ok (.iconst 0, 1) := by decide +kernel
theorem dX12_whoseBits_3 : decode cX12_whoseBits 3 = .ok (.istore_n 3, 1) := by decide +kernel
theorem dX12_whoseBits_4 : decode cX12_whoseBits 4 = .ok (.iload_n 3, 1) := by decide +kernel
theorem dX12_whoseBits_5 : decode cX12_whoseBits 5 = .ok (.aload_n 0, 1) := by decide +kernel
theorem dX12_whoseBits_6 : decode cX12_whoseBits 6 = .ok (.invokevirtual 309, 3) := by decide +kernel
theorem dX12_whoseBits_9 : decode cX12_whoseBits 9 = .ok (.if_icmp .ge 78, 3) := by decide +kernel
theorem dX12_whoseBits_12 : decode cX12_whoseBits 12 = .ok (.iconst 1, 1) := by decide +kernel
theorem dX12_whoseBits_13 : decode cX12_whoseBits 13 = .ok (.istore 4, 2) := by decide +kernel
theorem dX12_whoseBits_15 : decode cX12_whoseBits 15 = .ok (.iconst 0, 1) := by decide +kernel
theorem dX12_whoseBits_16 : decode cX12_whoseBits 16 = .ok (.istore 5, 2) := by decide +kernel
theorem dX12_whoseBits_18 : decode cX12_whoseBits 18 = .ok (.iload 5, 2) := by decide +kernel
theorem dX12_whoseBits_20 : decode cX12_whoseBits 20 = .ok (.iload_n 1, 1) := by decide +kernel
theorem dX12_whoseBits_21 : decode cX12_whoseBits 21 = .ok (.if_icmp .ge 49, 3) := by decide +kernel
theorem dX12_whoseBits_24 : decode cX12_whoseBits 24 = .ok (.aload_n 0, 1) := by decide +kernel
theorem dX12_whoseBits_25 : decode cX12_whoseBits 25 = .ok (.iload_n 3, 1) := by decide +kernel
theorem dX12_whoseBits_26 : decode cX12_whoseBits 26 = .ok (.aload_n 0, 1) := by decide +kernel
theorem dX12_whoseBits_27 : decode cX12_whoseBits 27 = .ok (.getfield 149, 3) := by decide +kernel
theorem dX12_whoseBits_30 : decode cX12_whoseBits 30 = .ok (.iload 5, 2) := by decide +kernel
theorem dX12_whoseBits_32 : decode cX12_whoseBits 32 = .ok (.iaload, 1) := by decide +kernel
theorem dX12_whoseBits_33 : decode cX12_whoseBits 33 = .ok (.invokevirtual 465, 3) := by decide +kernel
theorem dX12_whoseBits_36 : decode cX12_whoseBits 36 = .ok (.aload_n 0, 1) := by decide +kernel
theorem dX12_whoseBits_37 : decode cX12_whoseBits 37 = .ok (.getfield 152, 3) := by decide +kernel
theorem dX12_whoseBits_40 : decode cX12_whoseBits 40 = .ok (.iload 5, 2) := by decide +kernel
theorem dX12_whoseBits_42 : decode cX12_whoseBits 42 = .ok (.iaload, 1) := by decide +kernel
theorem dX12_whoseBits_43 : decode cX12_whoseBits 43 = .ok (.if_icmp .lt 7, 3) := by decide +kernel
theorem dX12_whoseBits_46 : decode cX12_whoseBits 46 = .ok (.iconst 1, 1) := by decide +kernel
theorem dX12_whoseBits_47 : decode cX12_whoseBits 47 = .ok (.goto 4, 3) := by decide +kernel
theorem dX12_whoseBits_50 : decode cX12_whoseBits 50 = .ok (.iconst 0, 1) := by decide +kernel
theorem dX12_whoseBits_51 : decode cX12_whoseBits 51 = .ok (.aload_n 0, 1) := by decide +kernel
theorem dX12_whoseBits_52 : decode cX12_whoseBits 52 = .ok (.getfield 155, 3) := by decide +kernel
theorem dX12_whoseBits_55 : decode cX12_whoseBits 55 = .ok (.iload 5, 2) := by decide +kernel
theorem dX12_whoseBits_57 : decode cX12_whoseBits 57 = .ok (.baload, 1) := by decide +kernel
theorem dX12_whoseBits_58 : decode cX12_whoseBits 58 = .ok (.if_icmp .eq 6, 3) := by decide +kernel
theorem dX12_whoseBits_61 : decode cX12_whoseBits 61 = .ok (.iconst 0, 1) := by decide +kernel
theorem dX12_whoseBits_62 : decode cX12_whoseBits 62 = .ok (.istore 4, 2) := by decide +kernel
theorem dX12_whoseBits_64 : decode cX12_whoseBits 64 = .ok (.iinc 5 1, 3) := by decide +kernel
theorem dX12_whoseBits_67 : decode cX12_whoseBits 67 = .ok (.goto (-49), 3) := by decide +kernel
theorem dX12_whoseBits_70 : decode cX12_whoseBits 70 = .ok (.iload 4, 2) := by decide +kernel
theorem dX12_whoseBits_72 : decode cX12_whoseBits 72 = .ok (.ifCond .eq 9, 3) := by decide +kernel
theorem dX12_whoseBits_75 : decode cX12_whoseBits 75 = .ok (.iload_n 2, 1) := by decide +kernel
theorem dX12_whoseBits_76 : decode cX12_whoseBits 76 = .ok (.iconst 1, 1) := by decide +kernel
theorem dX12_whoseBits_77 : decode cX12_whoseBits 77 = .ok (.iload_n 3, 1) := by decide +kernel
theorem dX12_whoseBits_78 : decode cX12_whoseBits 78 = .ok (.ishl, 1) := by decide +kernel
theorem dX12_whoseBits_79 : decode cX12_whoseBits 79 = .ok (.ior, 1) := by decide +kernel
theorem dX12_whoseBits_80 : decode cX12_whoseBits 80 = .ok (.istore_n 2, 1) := by decide +kernel
theorem dX12_whoseBits_81 : decode cX12_whoseBits 81 = .ok (.iinc 3 1, 3) := by decide +kernel
theorem dX12_whoseBits_84 : decode cX12_whoseBits 84 = .ok (.goto (-80), 3) := by decide +kernel
theorem dX12_whoseBits_87 : decode cX12_whoseBits 87 = .ok (.iload_n 2, 1) := by decide +kernel
theorem dX12_whoseBits_88 : decode cX12_whoseBits 88 = .ok (.ireturn, 1) := by decide +kernel
theorem dX12_look_0 : decode cX12_look 0 = .ok (.iload_n 1, 1) := by decide +kernel
theorem dX12_look_1 : decode cX12_look 1 = .ok (.iconst 0, 1) := by decide +kernel
theorem dX12_look_2 : decode cX12_look 2 = .ok (.aload_n 0, 1) := by decide +kernel
theorem dX12_look_3 : decode cX12_look 3 = .ok (.getfield 263, 3) := by decide +kernel
theorem dX12_look_6 : decode cX12_look 6 = .ok (.invokestatic 313, 3) := by decide +kernel
theorem dX12_look_9 : decode cX12_look 9 = .ok (.ifCond .eq 14, 3) := by decide +kernel
theorem dX12_look_12 : decode cX12_look 12 = .ok (.iload_n 2, 1) := by decide +kernel
theorem dX12_look_13 : decode cX12_look 13 = .ok (.iconst 0, 1) := by decide +kernel
theorem dX12_look_14 : decode cX12_look 14 = .ok (.sipush 999, 3) := by decide +kernel
theorem dX12_look_17 : decode cX12_look 17 = .ok (.invokestatic 313, 3) := by decide +kernel
theorem dX12_look_20 : decode cX12_look 20 = .ok (.ifCond .ne 5, 3) := by decide +kernel
theorem dX12_look_23 : decode cX12_look 23 = .ok (.iconst (-1), 1) := by decide +kernel
theorem dX12_look_24 : decode cX12_look 24 = .ok (.ireturn, 1) := by decide +kernel
theorem dX12_look_25 : decode cX12_look 25 = .ok (.aload_n 0, 1) := by decide +kernel
theorem dX12_look_26 : decode cX12_look 26 = .ok (.iload_n 1, 1) := by decide +kernel
theorem dX12_look_27 : decode cX12_look 27 = .ok (.invokevirtual 468, 3) := by decide +kernel
theorem dX12_look_30 : decode cX12_look 30 = .ok (.istore_n 3, 1) := by decide +kernel
theorem dX12_look_31 : decode cX12_look 31 = .ok (.bipush (-2), 2) := by decide +kernel
theorem dX12_look_33 : decode cX12_look 33 = .ok (.istore 4, 2) := by decide +kernel
theorem dX12_look_35 : decode cX12_look 35 = .ok (.iconst 0, 1) := by decide +kernel
theorem dX12_look_36 : decode cX12_look 36 = .ok (.istore 5, 2) := by decide +kernel
theorem dX12_look_38 : decode cX12_look 38 = .ok (.iconst 0, 1) := by decide +kernel
theorem dX12_look_39 : decode cX12_look 39 = .ok (.istore 6, 2) := by decide +kernel
theorem dX12_look_41 : decode cX12_look 41 = .ok (.iload 6, 2) := by decide +kernel
theorem dX12_look_43 : decode cX12_look 43 = .ok (.iconst 4, 1) := by decide +kernel
theorem dX12_look_44 : decode cX12_look 44 = .ok (.if_icmp .ge 108, 3) := by decide +kernel
theorem dX12_look_47 : decode cX12_look 47 = .ok (.iload_n 3, 1) := by decide +kernel
theorem dX12_look_48 : decode cX12_look 48 = .ok (.ifCond .eq 104, 3) := by decide +kernel
theorem dX12_look_51 : decode cX12_look 51 = .ok (.iconst 0, 1) := by decide +kernel
theorem dX12_look_52 : decode cX12_look 52 = .ok (.istore 7, 2) := by decide +kernel
theorem dX12_look_54 : decode cX12_look 54 = .ok (.iconst 0, 1) := by decide +kernel
theorem dX12_look_55 : decode cX12_look 55 = .ok (.istore 8, 2) := by decide +kernel
theorem dX12_look_57 : decode cX12_look 57 = .ok (.iload 8, 2) := by decide +kernel
theorem dX12_look_59 : decode cX12_look 59 = .ok (.aload_n 0, 1) := by decide +kernel
theorem dX12_look_60 : decode cX12_look 60 = .ok (.invokevirtual 309, 3) := by decide +kernel
theorem dX12_look_63 : decode cX12_look 63 = .ok (.if_icmp .ge 34, 3) := by decide +kernel
theorem dX12_look_66 : decode cX12_look 66 = .ok (.iload_n 3, 1) := by decide +kernel
theorem dX12_look_67 : decode cX12_look 67 = .ok (.iload 8, 2) := by decide +kernel
theorem dX12_look_69 : decode cX12_look 69 = .ok (.ishr, 1) := by decide +kernel
theorem dX12_look_70 : decode cX12_look 70 = .ok (.iconst 1, 1) := by decide +kernel
theorem dX12_look_71 : decode cX12_look 71 = .ok (.iand, 1) := by decide +kernel
theorem dX12_look_72 : decode cX12_look 72 = .ok (.iconst 1, 1) := by decide +kernel
theorem dX12_look_73 : decode cX12_look 73 = .ok (.if_icmp .ne 18, 3) := by decide +kernel
theorem dX12_look_76 : decode cX12_look 76 = .ok (.aload_n 0, 1) := by decide +kernel
theorem dX12_look_77 : decode cX12_look 77 = .ok (.iload 8, 2) := by decide +kernel
theorem dX12_look_79 : decode cX12_look 79 = .ok (.iload 6, 2) := by decide +kernel
theorem dX12_look_81 : decode cX12_look 81 = .ok (.invokevirtual 465, 3) := by decide +kernel
theorem dX12_look_84 : decode cX12_look 84 = .ok (.iload_n 2, 1) := by decide +kernel
theorem dX12_look_85 : decode cX12_look 85 = .ok (.if_icmp .lt 6, 3) := by decide +kernel
theorem dX12_look_88 : decode cX12_look 88 = .ok (.iinc 7 1, 3) := by decide +kernel
theorem dX12_look_91 : decode cX12_look 91 = .ok (.iinc 8 1, 3) := by decide +kernel
theorem dX12_look_94 : decode cX12_look 94 = .ok (.goto (-37), 3) := by decide +kernel
theorem dX12_look_97 : decode cX12_look 97 = .ok (.iload 7, 2) := by decide +kernel
theorem dX12_look_99 : decode cX12_look 99 = .ok (.iload_n 3, 1) := by decide +kernel
theorem dX12_look_100 : decode cX12_look 100 = .ok (.invokestatic 471, 3) := by decide +kernel
theorem dX12_look_103 : decode cX12_look 103 = .ok (.iload 7, 2) := by decide +kernel
theorem dX12_look_105 : decode cX12_look 105 = .ok (.isub, 1) := by decide +kernel
theorem dX12_look_106 : decode cX12_look 106 = .ok (.if_icmp .le 8, 3) := by decide +kernel
theorem dX12_look_109 : decode cX12_look 109 = .ok (.iload 7, 2) := by decide +kernel
theorem dX12_look_111 : decode cX12_look 111 = .ok (.goto 10, 3) := by decide +kernel
theorem dX12_look_114 : decode cX12_look 114 = .ok (.iload_n 3, 1) := by decide +kernel
theorem dX12_look_115 : decode cX12_look 115 = .ok (.invokestatic 471, 3) := by decide +kernel
theorem dX12_look_118 : decode cX12_look 118 = .ok (.iload 7, 2) := by decide +kernel
theorem dX12_look_120 : decode cX12_look 120 = .ok (.isub, 1) := by decide +kernel
theorem dX12_look_121 : decode cX12_look 121 = .ok (.istore 8, 2) := by decide +kernel
theorem dX12_look_123 : decode cX12_look 123 = .ok (.iload 4, 2) := by decide +kernel
theorem dX12_look_125 : decode cX12_look 125 = .ok (.ifCond .lt 13, 3) := by decide +kernel
theorem dX12_look_128 : decode cX12_look 128 = .ok (.iload 8, 2) := by decide +kernel
theorem dX12_look_130 : decode cX12_look 130 = .ok (.iload 5, 2) := by decide +kernel
theorem dX12_look_132 : decode cX12_look 132 = .ok (.if_icmp .lt 6, 3) := by decide +kernel
theorem dX12_look_135 : decode cX12_look 135 = .ok (.goto 11, 3) := by decide +kernel
theorem dX12_look_138 : decode cX12_look 138 = .ok (.iload 6, 2) := by decide +kernel
theorem dX12_look_140 : decode cX12_look 140 = .ok (.istore 4, 2) := by decide +kernel
theorem dX12_look_142 : decode cX12_look 142 = .ok (.iload 8, 2) := by decide +kernel
theorem dX12_look_144 : decode cX12_look 144 = .ok (.istore 5, 2) := by decide +kernel
theorem dX12_look_146 : decode cX12_look 146 = .ok (.iinc 6 1, 3) := by decide +kernel
theorem dX12_look_149 : decode cX12_look 149 = .ok (.goto (-108), 3) := by decide +kernel
theorem dX12_look_152 : decode cX12_look 152 = .ok (.iload 4, 2) := by decide +kernel
theorem dX12_look_154 : decode cX12_look 154 = .ok (.ireturn, 1) := by decide +kernel
theorem dX12_loss_0 : decode cX12_loss 0 = .ok (.aload_n 0, 1) := by decide +kernel
theorem dX12_loss_1 : decode cX12_loss 1 = .ok (.iload_n 1, 1) := by decide +kernel
theorem dX12_loss_2 : decode cX12_loss 2 = .ok (.invokevirtual 371, 3) := by decide +kernel
theorem dX12_loss_5 : decode cX12_loss 5 = .ok (.ifCond .eq 10, 3) := by decide +kernel
theorem dX12_loss_8 : decode cX12_loss 8 = .ok (.iload_n 2, 1) := by decide +kernel
theorem dX12_loss_9 : decode cX12_loss 9 = .ok (.invokestatic 395, 3) := by decide +kernel
theorem dX12_loss_12 : decode cX12_loss 12 = .ok (.ifCond .ne 5, 3) := by decide +kernel
theorem dX12_loss_15 : decode cX12_loss 15 = .ok (.iconst (-1), 1) := by decide +kernel
theorem dX12_loss_16 : decode cX12_loss 16 = .ok (.ireturn, 1) := by decide +kernel
theorem dX12_loss_17 : decode cX12_loss 17 = .ok (.aload_n 0, 1) := by decide +kernel
theorem dX12_loss_18 : decode cX12_loss 18 = .ok (.invokevirtual 323, 3) := by decide +kernel
theorem dX12_loss_21 : decode cX12_loss 21 = .ok (.aload_n 0, 1) := by decide +kernel
theorem dX12_loss_22 : decode cX12_loss 22 = .ok (.iload_n 1, 1) := by decide +kernel
theorem dX12_loss_23 : decode cX12_loss 23 = .ok (.iload_n 2, 1) := by decide +kernel
theorem dX12_loss_24 : decode cX12_loss 24 = .ok (.invokevirtual 377, 3) := by decide +kernel
theorem dX12_loss_27 : decode cX12_loss 27 = .ok (.aload_n 0, 1) := by decide +kernel
theorem dX12_loss_28 : decode cX12_loss 28 = .ok (.iload_n 1, 1) := by decide +kernel
theorem dX12_loss_29 : decode cX12_loss 29 = .ok (.invokevirtual 358, 3) := by decide +kernel
theorem dX12_loss_32 : decode cX12_loss 32 = .ok (.ireturn, 1) := by decide +kernel
theorem dX12_mend_0 : decode cX12_mend 0 = .ok (.aload_n 0, 1) := by decide +kernel
theorem dX12_mend_1 : decode cX12_mend 1 = .ok (.iload_n 1, 1) := by decide +kernel
theorem dX12_mend_2 : decode cX12_mend 2 = .ok (.invokevirtual 371, 3) := by decide +kernel
theorem dX12_mend_5 : decode cX12_mend 5 = .ok (.ifCond .eq 12, 3) := by decide +kernel
theorem dX12_mend_8 : decode cX12_mend 8 = .ok (.aload_n 0, 1) := by decide +kernel
theorem dX12_mend_9 : decode cX12_mend 9 = .ok (.getfield 110, 3) := by decide +kernel
theorem dX12_mend_12 : decode cX12_mend 12 = .ok (.iload_n 1, 1) := by decide +kernel
theorem dX12_mend_13 : decode cX12_mend 13 = .ok (.iaload, 1) := by decide +kernel
theorem dX12_mend_14 : decode cX12_mend 14 = .ok (.ifCond .ne 5, 3) := by decide +kernel
theorem dX12_mend_17 : decode cX12_mend 17 = .ok (.iconst (-1), 1) := by decide +kernel
theorem dX12_mend_18 : decode cX12_mend 18 = .ok (.ireturn, 1) := by decide +kernel
theorem dX12_mend_19 : decode cX12_mend 19 = .ok (.aload_n 0, 1) := by decide +kernel
theorem dX12_mend_20 : decode cX12_mend 20 = .ok (.invokevirtual 323, 3) := by decide +kernel
theorem dX12_mend_23 : decode cX12_mend 23 = .ok (.aload_n 0, 1) := by decide +kernel
theorem dX12_mend_24 : decode cX12_mend 24 = .ok (.iload_n 1, 1) := by decide +kernel
theorem dX12_mend_25 : decode cX12_mend 25 = .ok (.invokevirtual 374, 3) := by decide +kernel
theorem dX12_mend_28 : decode cX12_mend 28 = .ok (.istore_n 2, 1) := by decide +kernel
theorem dX12_mend_29 : decode cX12_mend 29 = .ok (.iload_n 2, 1) := by decide +kernel
theorem dX12_mend_30 : decode cX12_mend 30 = .ok (.aload_n 0, 1) := by decide +kernel
theorem dX12_mend_31 : decode cX12_mend 31 = .ok (.getfield 113, 3) := by decide +kernel
theorem dX12_mend_34 : decode cX12_mend 34 = .ok (.bipush 37, 2) := by decide +kernel
theorem dX12_mend_36 : decode cX12_mend 36 = .ok (.iaload, 1) := by decide +kernel
theorem dX12_mend_37 : decode cX12_mend 37 = .ok (.if_icmp .le 5, 3) := by decide +kernel
theorem dX12_mend_40 : decode cX12_mend 40 = .ok (.iconst (-1), 1) := by decide +kernel
theorem dX12_mend_41 : decode cX12_mend 41 = .ok (.ireturn, 1) := by decide +kernel
theorem dX12_mend_42 : decode cX12_mend 42 = .ok (.aload_n 0, 1) := by decide +kernel
theorem dX12_mend_43 : decode cX12_mend 43 = .ok (.getfield 113, 3) := by decide +kernel
theorem dX12_mend_46 : decode cX12_mend 46 = .ok (.iload_n 1, 1) := by decide +kernel
theorem dX12_mend_47 : decode cX12_mend 47 = .ok (.dup2, 1) := by decide +kernel
theorem dX12_mend_48 : decode cX12_mend 48 = .ok (.iaload, 1) := by decide +kernel
theorem dX12_mend_49 : decode cX12_mend 49 = .ok (.iconst 1, 1) := by decide +kernel
theorem dX12_mend_50 : decode cX12_mend 50 = .ok (.isub, 1) := by decide +kernel
theorem dX12_mend_51 : decode cX12_mend 51 = .ok (.iastore, 1) := by decide +kernel
theorem dX12_mend_52 : decode cX12_mend 52 = .ok (.aload_n 0, 1) := by decide +kernel
theorem dX12_mend_53 : decode cX12_mend 53 = .ok (.getfield 113, 3) := by decide +kernel
theorem dX12_mend_56 : decode cX12_mend 56 = .ok (.bipush 37, 2) := by decide +kernel
theorem dX12_mend_58 : decode cX12_mend 58 = .ok (.dup2, 1) := by decide +kernel
theorem dX12_mend_59 : decode cX12_mend 59 = .ok (.iaload, 1) := by decide +kernel
theorem dX12_mend_60 : decode cX12_mend 60 = .ok (.iload_n 2, 1) := by decide +kernel
theorem dX12_mend_61 : decode cX12_mend 61 = .ok (.isub, 1) := by decide +kernel
theorem dX12_mend_62 : decode cX12_mend 62 = .ok (.iastore, 1) := by decide +kernel
theorem dX12_mend_63 : decode cX12_mend 63 = .ok (.aload_n 0, 1) := by decide +kernel
theorem dX12_mend_64 : decode cX12_mend 64 = .ok (.invokevirtual 380, 3) := by decide +kernel
theorem dX12_mend_67 : decode cX12_mend 67 = .ok (.iload_n 2, 1) := by decide +kernel
theorem dX12_mend_68 : decode cX12_mend 68 = .ok (.ireturn, 1) := by decide +kernel
theorem dX12_must_0 : decode cX12_must 0 = .ok (.aload_n 0, 1) := by decide +kernel
theorem dX12_must_1 : decode cX12_must 1 = .ok (.iload_n 1, 1) := by decide +kernel
theorem dX12_must_2 : decode cX12_must 2 = .ok (.invokevirtual 233, 3) := by decide +kernel
theorem dX12_must_5 : decode cX12_must 5 = .ok (.ifCond .eq 10, 3) := by decide +kernel
theorem dX12_must_8 : decode cX12_must 8 = .ok (.aload_n 0, 1) := by decide +kernel
theorem dX12_must_9 : decode cX12_must 9 = .ok (.invokevirtual 236, 3) := by decide +kernel
theorem dX12_must_12 : decode cX12_must 12 = .ok (.goto 8, 3) := by decide +kernel
theorem dX12_must_15 : decode cX12_must 15 = .ok (.aload_n 0, 1) := by decide +kernel
theorem dX12_must_16 : decode cX12_must 16 = .ok (.iconst 1, 1) := by decide +kernel
theorem dX12_must_17 : decode cX12_must 17 = .ok (.invokevirtual 230, 3) := by decide +kernel
theorem dX12_must_20 : decode cX12_must 20 = .ok (.return_, 1) := by decide +kernel
theorem dX12_nearestIn_0 : decode cX12_nearestIn 0 = .ok (.bipush (-2), 2) := by decide +kernel
theorem dX12_nearestIn_2 : decode cX12_nearestIn 2 = .ok (.istore_n 3, 1) := by decide +kernel
theorem dX12_nearestIn_3 : decode cX12_nearestIn 3 = .ok (.iconst 0, 1) := by decide +kernel
theorem dX12_nearestIn_4 : decode cX12_nearestIn 4 = .ok (.istore 4, 2) := by decide +kernel
theorem dX12_nearestIn_6 : decode cX12_nearestIn 6 = .ok (.iload 4, 2) := by decide +kernel
theorem dX12_nearestIn_8 : decode cX12_nearestIn 8 = .ok (.aload_n 0, 1) := by decide +kernel
theorem dX12_nearestIn_9 : decode cX12_nearestIn 9 = .ok (.invokevirtual 309, 3) := by decide +kernel
theorem dX12_nearestIn_12 : decode cX12_nearestIn 12 = .ok (.if_icmp .ge 42, 3) := by decide +kernel
theorem dX12_nearestIn_15 : decode cX12_nearestIn 15 = .ok (.iload_n 2, 1) := by decide +kernel
theorem dX12_nearestIn_16 : decode cX12_nearestIn 16 = .ok (.iload 4, 2) := by decide +kernel
theorem dX12_nearestIn_18 : decode cX12_nearestIn 18 = .ok (.ishr, 1) := by decide +kernel
theorem dX12_nearestIn_19 : decode cX12_nearestIn 19 = .ok (.iconst 1, 1) := by decide +kernel
theorem dX12_nearestIn_20 : decode cX12_nearestIn 20 = .ok (.iand, 1) := by decide +kernel
theorem dX12_nearestIn_21 : decode cX12_nearestIn 21 = .ok (.iconst 1, 1) := by decide +kernel
theorem dX12_nearestIn_22 : decode cX12_nearestIn 22 = .ok (.if_icmp .ne 26, 3) := by decide +kernel
theorem dX12_nearestIn_25 : decode cX12_nearestIn 25 = .ok (.iload_n 3, 1) := by decide +kernel
theorem dX12_nearestIn_26 : decode cX12_nearestIn 26 = .ok (.ifCond .lt 19, 3) := by decide +kernel
theorem dX12_nearestIn_29 : decode cX12_nearestIn 29 = .ok (.aload_n 0, 1) := by decide +kernel
theorem dX12_nearestIn_30 : decode cX12_nearestIn 30 = .ok (.iload_n 1, 1) := by decide +kernel
theorem dX12_nearestIn_31 : decode cX12_nearestIn 31 = .ok (.iload 4, 2) := by decide +kernel
theorem dX12_nearestIn_33 : decode cX12_nearestIn 33 = .ok (.invokevirtual 435, 3) := by decide +kernel
theorem dX12_nearestIn_36 : decode cX12_nearestIn 36 = .ok (.aload_n 0, 1) := by decide +kernel
theorem dX12_nearestIn_37 : decode cX12_nearestIn 37 = .ok (.iload_n 1, 1) := by decide +kernel
theorem dX12_nearestIn_38 : decode cX12_nearestIn 38 = .ok (.iload_n 3, 1) := by decide +kernel
theorem dX12_nearestIn_39 : decode cX12_nearestIn 39 = .ok (.invokevirtual 435, 3) := by decide +kernel
theorem dX12_nearestIn_42 : decode cX12_nearestIn 42 = .ok (.if_icmp .ge 6, 3) := by decide +kernel
theorem dX12_nearestIn_45 : decode cX12_nearestIn 45 = .ok (.iload 4, 2) := by decide +kernel
theorem dX12_nearestIn_47 : decode cX12_nearestIn 47 = .ok (.istore_n 3, 1) := by decide +kernel
theorem dX12_nearestIn_48 : decode cX12_nearestIn 48 = .ok (.iinc 4 1, 3) := by decide +kernel
theorem dX12_nearestIn_51 : decode cX12_nearestIn 51 = .ok (.goto (-45), 3) := by decide +kernel
theorem dX12_nearestIn_54 : decode cX12_nearestIn 54 = .ok (.iload_n 3, 1) := by decide +kernel
theorem dX12_nearestIn_55 : decode cX12_nearestIn 55 = .ok (.ireturn, 1) := by decide +kernel
theorem dX12_nearest_0 : decode cX12_nearest 0 = .ok (.aload_n 0, 1) := by decide +kernel
theorem dX12_nearest_1 : decode cX12_nearest 1 = .ok (.iload_n 1, 1) := by decide +kernel
theorem dX12_nearest_2 : decode cX12_nearest 2 = .ok (.invokevirtual 371, 3) := by decide +kernel
theorem dX12_nearest_5 : decode cX12_nearest 5 = .ok (.ifCond .eq 25, 3) := by decide +kernel
theorem dX12_nearest_8 : decode cX12_nearest 8 = .ok (.aload_n 0, 1) := by decide +kernel
theorem dX12_nearest_9 : decode cX12_nearest 9 = .ok (.iload_n 1, 1) := by decide +kernel
theorem dX12_nearest_10 : decode cX12_nearest 10 = .ok (.iconst 1, 1) := by decide +kernel
theorem dX12_nearest_11 : decode cX12_nearest 11 = .ok (.aload_n 0, 1) := by decide +kernel
theorem dX12_nearest_12 : decode cX12_nearest 12 = .ok (.invokevirtual 309, 3) := by decide +kernel
theorem dX12_nearest_15 : decode cX12_nearest 15 = .ok (.ishl, 1) := by decide +kernel
theorem dX12_nearest_16 : decode cX12_nearest 16 = .ok (.iconst 1, 1) := by decide +kernel
theorem dX12_nearest_17 : decode cX12_nearest 17 = .ok (.isub, 1) := by decide +kernel
theorem dX12_nearest_18 : decode cX12_nearest 18 = .ok (.iconst 1, 1) := by decide +kernel
theorem dX12_nearest_19 : decode cX12_nearest 19 = .ok (.iload_n 1, 1) := by decide +kernel
theorem dX12_nearest_20 : decode cX12_nearest 20 = .ok (.ishl, 1) := by decide +kernel
theorem dX12_nearest_21 : decode cX12_nearest 21 = .ok (.iconst (-1), 1) := by decide +kernel
theorem dX12_nearest_22 : decode cX12_nearest 22 = .ok (.ixor, 1) := by decide +kernel
theorem dX12_nearest_23 : decode cX12_nearest 23 = .ok (.iand, 1) := by decide +kernel
theorem dX12_nearest_24 : decode cX12_nearest 24 = .ok (.invokevirtual 444, 3) := by decide +kernel
theorem dX12_nearest_27 : decode cX12_nearest 27 = .ok (.goto 4, 3) := by decide +kernel
theorem dX12_nearest_30 : decode cX12_nearest 30 = .ok (.iconst (-1), 1) := by decide +kernel
theorem dX12_nearest_31 : decode cX12_nearest 31 = .ok (.ireturn, 1) := by decide +kernel
section WK11
variable {p : Program} {l : Launch} {e : Env} {s : State} {m : MethodId} {args : Array Value} {below : List Frame} {meth : Method} {c : Code} {ω : WW}

set_option maxHeartbeats 4000000 in
set_option maxRecDepth 100000 in
theorem wX12_lossOf_e (hW : FWM ω) (C : Cx ω p s m args c cX12_lossOf 3 RX12) (hr : meth.sig.returnType = some .int) (hk : meth.locks = false) {rr : Int32} {μo : Mem} {x1 : Int32} {x2 : Int32} {μ : Mem} {H : Heap} {locs : List Loc} {ls : Array Slot} (hH : Hd ω μ H) (hS : FS ω s H locs) (hl : lv_has ls 3 [(0, .ref (wB ω + 0)), (1, .int x1), (2, .int x2)]) (h : fX12_lossOf x1 x2 μ = some (rr, μo)) : W p l e (rmd 7) s m args below meth c H locs 0 0 (MQ below (QR ω (some (.int rr)) μo) args s 0 0 (wA ω)) (F0 m 0 ls []) := by
  have hx := C.1
  have hb := C.2.1
  unfold fX12_lossOf at h
  refine lv_aload_n hx hb dX12_lossOf_0 rfl (lv_at hl 0 rfl) ?_
  obtain ⟨μ2, e1, h⟩ := b1_e h
  refine cVv (as := []) (rest := []) (c_X12_copies hW e1) C hl.1 hH hS rfl (jM_0 hW) rfl wd_54 wd_1510 mw_X12_copies wd_1508 rfl (rm_ok (by decide) (by decide)) (Nat.le_of_ble_eq_true rfl) ⟨Nat.zero_le _, Nat.zero_le _⟩ (by decide) dX12_lossOf_1 (fun H locs hH hS => ?_)
  refine lv_aload_n hx hb dX12_lossOf_4 rfl (lv_at hl 0 rfl) ?_
  refine lv_iload_n hx hb dX12_lossOf_5 rfl (lv_at hl 1 rfl) ?_
  refine lv_iload_n hx hb dX12_lossOf_6 rfl (lv_at hl 2 rfl) ?_
  obtain ⟨μ4, e3, h⟩ := b1_e h
  refine cVv (as := [.int x1, .int x2]) (rest := []) (c_X12_burns hW e3) C hl.1 hH hS rfl (jM_0 hW) rfl wd_63 wd_1553 mw_X12_burns wd_1551 rfl (rm_ok (by decide) (by decide)) (Nat.le_of_ble_eq_true rfl) ⟨Nat.zero_le _, Nat.zero_le _⟩ (by decide) dX12_lossOf_7 (fun H locs hH hS => ?_)
  refine lv_aload_n hx hb dX12_lossOf_10 rfl (lv_at hl 0 rfl) ?_
  refine lv_iload_n hx hb dX12_lossOf_11 rfl (lv_at hl 1 rfl) ?_
  obtain ⟨r7, μ6, e5, h⟩ := b2_e h
  refine cVi (as := [.int x1]) (rest := []) (c_X12_fadesOf hW e5) C hl.1 hH hS rfl (jM_0 hW) rfl wd_61 wd_1541 mw_X12_fadesOf wd_1539 rfl (rm_ok (by decide) (by decide)) (Nat.le_of_ble_eq_true rfl) ⟨Nat.zero_le _, Nat.zero_le _⟩ (by decide) dX12_lossOf_12 (fun H locs hH hS => ?_)
  exact h_iret C hr hk hH hS rfl (by cases h; rfl) dX12_lossOf_15
theorem c_X12_lossOf {l : Launch} {ω : WW} {x1 : Int32} {x2 : Int32} (hW : FWM ω) {μ : Mem} {rr : Int32} {μo : Mem} (h : fX12_lossOf x1 x2 μ = some (rr, μo)) : Con l yX12_lossOf cX12_lossOf 3 (some .int) 7 ω [.ref (wB ω + 0), .int x1, .int x2] μ (some (.int rr)) μo :=
  con_of (by decide) (Nat.le_of_ble_eq_true rfl) (fun p e s m args below meth c ls C hr hk hl hH hS => wX12_lossOf_e hW C hr hk hH hS (lv_sub hl [0, 1, 2] rfl) h)
set_option maxHeartbeats 4000000 in
set_option maxRecDepth 100000 in
theorem wX12_savesOf_e (hW : FWM ω) (C : Cx ω p s m args c cX12_savesOf 2 RX12) (hr : meth.sig.returnType = some .int) (hk : meth.locks = false) {rr : Int32} {μo : Mem} {x1 : Int32} {μ : Mem} {H : Heap} {locs : List Loc} {ls : Array Slot} (hH : Hd ω μ H) (hS : FS ω s H locs) (hl : lv_has ls 2 [(0, .ref (wB ω + 0)), (1, .int x1)]) (h : fX12_savesOf x1 μ = some (rr, μo)) : W p l e (rmd 8) s m args below meth c H locs 0 0 (MQ below (QR ω (some (.int rr)) μo) args s 0 0 (wA ω)) (F0 m 0 ls []) := by
  have hx := C.1
  have hb := C.2.1
  unfold fX12_savesOf at h
  refine lv_aload_n hx hb dX12_savesOf_0 rfl (lv_at hl 0 rfl) ?_
  refine lv_iload_n hx hb dX12_savesOf_1 rfl (lv_at hl 1 rfl) ?_
  refine lv_iconst (v := 0) hx hb dX12_savesOf_2 (by decide) ?_
  obtain ⟨r3, μ2, e1, h⟩ := b2_e h
  refine cVi (as := [.int x1, .int 0]) (rest := []) (c_X12_lossOf hW e1) C hl.1 hH hS rfl (jM_0 hW) rfl wd_83 wd_1703 mw_X12_lossOf wd_1701 rfl (rm_ok (by decide) (by decide)) (Nat.le_of_ble_eq_true rfl) ⟨Nat.zero_le _, Nat.zero_le _⟩ (by decide) dX12_savesOf_3 (fun H locs hH hS => ?_)
  refine lv_aload_n hx hb dX12_savesOf_6 rfl (lv_at hl 0 rfl) ?_
  refine lv_iload_n hx hb dX12_savesOf_7 rfl (lv_at hl 1 rfl) ?_
  refine lv_iconst (v := 1) hx hb dX12_savesOf_8 (by decide) ?_
  obtain ⟨r6, μ5, e4, h⟩ := b2_e h
  refine cVi (as := [.int x1, .int 1]) (rest := [.int r3]) (c_X12_lossOf hW e4) C hl.1 hH hS rfl (jM_0 hW) rfl wd_83 wd_1703 mw_X12_lossOf wd_1701 rfl (rm_ok (by decide) (by decide)) (Nat.le_of_ble_eq_true rfl) ⟨Nat.zero_le _, Nat.zero_le _⟩ (by decide) dX12_savesOf_9 (fun H locs hH hS => ?_)
  refine lv_isub hx hb dX12_savesOf_12 ?_
  exact h_iret C hr hk hH hS rfl (by cases h; rfl) dX12_savesOf_13
theorem c_X12_savesOf {l : Launch} {ω : WW} {x1 : Int32} (hW : FWM ω) {μ : Mem} {rr : Int32} {μo : Mem} (h : fX12_savesOf x1 μ = some (rr, μo)) : Con l yX12_savesOf cX12_savesOf 2 (some .int) 8 ω [.ref (wB ω + 0), .int x1] μ (some (.int rr)) μo :=
  con_of (by decide) (Nat.le_of_ble_eq_true rfl) (fun p e s m args below meth c ls C hr hk hl hH hS => wX12_savesOf_e hW C hr hk hH hS (lv_sub hl [0, 1] rfl) h)
set_option maxHeartbeats 4000000 in
set_option maxRecDepth 100000 in
theorem wX12_first_s5 (hW : FWM ω) (C : Cx ω p s m args c cX12_first 3 RX12) (hr : meth.sig.returnType = some .int) (hk : meth.locks = false) {rr : Int32} {μo : Mem} {x1 : Int32} {x2 : Int32} {rec : Int32 → Int32 → Mem → Option (Int32 × Mem)} (hrec : ∀ (z1 : Int32) (z2 : Int32) (ν : Mem) (H : Heap) (locs : List Loc) (ls : Array Slot), Hd ω ν H → FS ω s H locs → lv_has ls 3 [(0, .ref (wB ω + 0)), (1, .int z1), (2, .int z2)] → rec z1 z2 ν = some (rr, μo) → W p l e (rmd 9) s m args below meth c H locs 0 0 (MQ below (QR ω (some (.int rr)) μo) args s 0 0 (wA ω)) (F0 m 5 ls [])) {μ : Mem} {H : Heap} {locs : List Loc} {ls : Array Slot} (hH : Hd ω μ H) (hS : FS ω s H locs) (hl : lv_has ls 3 [(0, .ref (wB ω + 0)), (1, .int x1), (2, .int x2)]) (h : fX12_first_s5 rec x1 x2 μ = some (rr, μo)) : W p l e (rmd 9) s m args below meth c H locs 0 0 (MQ below (QR ω (some (.int rr)) μo) args s 0 0 (wA ω)) (F0 m 5 ls []) := by
  have hx := C.1
  have hb := C.2.1
  unfold fX12_first_s5 at h
  refine lv_iload_n hx hb dX12_first_5 rfl (lv_at hl 2 rfl) ?_
  refine lv_aload_n hx hb dX12_first_6 rfl (lv_at hl 0 rfl) ?_
  obtain ⟨r2, e1, h⟩ := b1_e h
  refine cVi (as := []) (rest := [.int x2]) (c_X12_many hW e1) C hl.1 hH hS rfl (jM_0 hW) rfl wd_31 wd_1182 mw_X12_many wd_1180 rfl (rm_ok (by decide) (by decide)) (Nat.le_of_ble_eq_true rfl) ⟨Nat.zero_le _, Nat.zero_le _⟩ (by decide) dX12_first_7 (fun H locs hH hS => ?_)
  refine lv_icmp_ge (tgt := 38) hx hb dX12_first_10 (by decide) (fun hc => ?_) (fun hc => ?_)
  · have h := ite_t hc h
    refine lv_iload_n hx hb dX12_first_38 rfl (lv_at hl 1 rfl) ?_
    exact h_iret C hr hk hH hS rfl (by cases h; rfl) dX12_first_39
  · have h := ite_f hc h
    refine lv_iload_n hx hb dX12_first_13 rfl (lv_at hl 1 rfl) ?_
    refine lv_if_lt (tgt := 30) hx hb dX12_first_14 (by decide) (fun hc => ?_) (fun hc => ?_)
    · have h := ite_t hc h
      refine lv_iload_n hx hb dX12_first_30 rfl (lv_at hl 2 rfl) ?_
      refine lv_istore_n (lv' := [(1, .int x2), (0, .ref (wB ω + 0)), (2, .int x2)]) hx hb dX12_first_31 rfl hl (by decide) rfl (fun ls hl => ?_)
      refine lv_iinc (v := x2 + 1) (lv' := [(2, .int (x2 + 1)), (1, .int x2), (0, .ref (wB ω + 0))]) hx hb dX12_first_32 hl (k := 2) rfl rfl (by decide) rfl (fun ls hl => ?_)
      refine lv_goto (tgt := 5) hx hb dX12_first_35 (by decide) ?_
      exact hrec _ _ _ H locs ls hH hS (lv_sub hl [2, 1, 0] rfl) h
    · have h := ite_f hc h
      refine lv_aload_n hx hb dX12_first_17 rfl (lv_at hl 0 rfl) ?_
      refine lv_iload_n hx hb dX12_first_18 rfl (lv_at hl 2 rfl) ?_
      obtain ⟨r5, μ4, e3, h⟩ := b2_e h
      refine cVi (as := [.int x2]) (rest := []) (c_X12_savesOf hW e3) C hl.1 hH hS rfl (jM_0 hW) rfl wd_82 wd_1699 mw_X12_savesOf wd_1697 rfl (rm_ok (by decide) (by decide)) (Nat.le_of_ble_eq_true rfl) ⟨Nat.zero_le _, Nat.zero_le _⟩ (by decide) dX12_first_19 (fun H locs hH hS => ?_)
      refine lv_aload_n hx hb dX12_first_22 rfl (lv_at hl 0 rfl) ?_
      refine lv_iload_n hx hb dX12_first_23 rfl (lv_at hl 1 rfl) ?_
      obtain ⟨r8, μ7, e6, h⟩ := b2_e h
      refine cVi (as := [.int x1]) (rest := [.int r5]) (c_X12_savesOf hW e6) C hl.1 hH hS rfl (jM_0 hW) rfl wd_82 wd_1699 mw_X12_savesOf wd_1697 rfl (rm_ok (by decide) (by decide)) (Nat.le_of_ble_eq_true rfl) ⟨Nat.zero_le _, Nat.zero_le _⟩ (by decide) dX12_first_24 (fun H locs hH hS => ?_)
      refine lv_icmp_le (tgt := 32) hx hb dX12_first_27 (by decide) (fun hc => ?_) (fun hc => ?_)
      · have h := ite_t hc h
        refine lv_iinc (v := x2 + 1) (lv' := [(2, .int (x2 + 1)), (0, .ref (wB ω + 0)), (1, .int x1)]) hx hb dX12_first_32 hl (k := 2) rfl rfl (by decide) rfl (fun ls hl => ?_)
        refine lv_goto (tgt := 5) hx hb dX12_first_35 (by decide) ?_
        exact hrec _ _ _ H locs ls hH hS (lv_sub hl [1, 2, 0] rfl) h
      · have h := ite_f hc h
        refine lv_iload_n hx hb dX12_first_30 rfl (lv_at hl 2 rfl) ?_
        refine lv_istore_n (lv' := [(1, .int x2), (0, .ref (wB ω + 0)), (2, .int x2)]) hx hb dX12_first_31 rfl hl (by decide) rfl (fun ls hl => ?_)
        refine lv_iinc (v := x2 + 1) (lv' := [(2, .int (x2 + 1)), (1, .int x2), (0, .ref (wB ω + 0))]) hx hb dX12_first_32 hl (k := 2) rfl rfl (by decide) rfl (fun ls hl => ?_)
        refine lv_goto (tgt := 5) hx hb dX12_first_35 (by decide) ?_
        exact hrec _ _ _ H locs ls hH hS (lv_sub hl [2, 1, 0] rfl) h
theorem wX12_first_l5 (hW : FWM ω) (C : Cx ω p s m args c cX12_first 3 RX12) (hr : meth.sig.returnType = some .int) (hk : meth.locks = false) {rr : Int32} {μo : Mem} : ∀ (n : Nat) (x1 : Int32) (x2 : Int32) (μ : Mem) (H : Heap) (locs : List Loc) (ls : Array Slot), Hd ω μ H → FS ω s H locs → lv_has ls 3 [(0, .ref (wB ω + 0)), (1, .int x1), (2, .int x2)] → fX12_first_l5 n x1 x2 μ = some (rr, μo) → W p l e (rmd 9) s m args below meth c H locs 0 0 (MQ below (QR ω (some (.int rr)) μo) args s 0 0 (wA ω)) (F0 m 5 ls []) := by
  intro n
  induction n with
  | zero => intro x1 x2 μ H locs ls hH hS hl h; cases h
  | succ n ih => intro x1 x2 μ H locs ls hH hS hl h; exact wX12_first_s5 hW C hr hk ih hH hS hl h
set_option maxHeartbeats 4000000 in
set_option maxRecDepth 100000 in
theorem wX12_first_e (hW : FWM ω) (C : Cx ω p s m args c cX12_first 3 RX12) (hr : meth.sig.returnType = some .int) (hk : meth.locks = false) {rr : Int32} {μo : Mem} {μ : Mem} {H : Heap} {locs : List Loc} {ls : Array Slot} (hH : Hd ω μ H) (hS : FS ω s H locs) (hl : lv_has ls 3 [(0, .ref (wB ω + 0))]) (h : fX12_first μ = some (rr, μo)) : W p l e (rmd 9) s m args below meth c H locs 0 0 (MQ below (QR ω (some (.int rr)) μo) args s 0 0 (wA ω)) (F0 m 0 ls []) := by
  have hx := C.1
  have hb := C.2.1
  unfold fX12_first at h
  refine lv_bipush (v := (-2)) hx hb dX12_first_0 (by decide) ?_
  refine lv_istore_n (lv' := [(1, .int (-2)), (0, .ref (wB ω + 0))]) hx hb dX12_first_2 rfl hl (by decide) rfl (fun ls hl => ?_)
  refine lv_iconst (v := 0) hx hb dX12_first_3 (by decide) ?_
  refine lv_istore_n (lv' := [(2, .int 0), (1, .int (-2)), (0, .ref (wB ω + 0))]) hx hb dX12_first_4 rfl hl (by decide) rfl (fun ls hl => ?_)
  exact wX12_first_l5 hW C hr hk FU _ _ _ H locs ls hH hS (lv_sub hl [2, 1, 0] rfl) h
theorem c_X12_first {l : Launch} {ω : WW} (hW : FWM ω) {μ : Mem} {rr : Int32} {μo : Mem} (h : fX12_first μ = some (rr, μo)) : Con l yX12_first cX12_first 3 (some .int) 9 ω [.ref (wB ω + 0)] μ (some (.int rr)) μo :=
  con_of (by decide) (Nat.le_of_ble_eq_true rfl) (fun p e s m args below meth c ls C hr hk hl hH hS => wX12_first_e hW C hr hk hH hS (lv_sub hl [0] rfl) h)
set_option maxHeartbeats 4000000 in
set_option maxRecDepth 100000 in
theorem wX12_forget_e (hW : FWM ω) (C : Cx ω p s m args c cX12_forget 2 RX12) (hr : meth.sig.returnType = some .int) (hk : meth.locks = false) {rr : Int32} {μo : Mem} {μ : Mem} {H : Heap} {locs : List Loc} {ls : Array Slot} (hH : Hd ω μ H) (hS : FS ω s H locs) (hl : lv_has ls 2 [(0, .ref (wB ω + 0))]) (h : fX12_forget μ = some (rr, μo)) : W p l e (rmd 1) s m args below meth c H locs 0 0 (MQ below (QR ω (some (.int rr)) μo) args s 0 0 (wA ω)) (F0 m 0 ls []) := by
  have hx := C.1
  have hb := C.2.1
  unfold fX12_forget at h
  refine lv_aload_n hx hb dX12_forget_0 rfl (lv_at hl 0 rfl) ?_
  refine g_1250 C hH (jM_0 hW) dX12_forget_1 ?_
  obtain ⟨y1, e2, h⟩ := bd_e h
  refine h_topi e2 ?_
  refine lv_istore_n (lv' := [(1, .int y1), (0, .ref (wB ω + 0))]) hx hb dX12_forget_4 rfl hl (by decide) rfl (fun ls hl => ?_)
  refine lv_aload_n hx hb dX12_forget_5 rfl (lv_at hl 1 rfl) ?_
  refine lv_iconst (v := 0) hx hb dX12_forget_6 (by decide) ?_
  obtain ⟨μ3, e4, h⟩ := bd_e h
  refine p_1250 C hH hS (jM_0 hW) dX12_forget_7 (fun H locs hH hS => ?_)
  have hH := Hd.to e4 hH
  refine lv_iload_n hx hb dX12_forget_10 rfl (lv_at hl 0 rfl) ?_
  exact h_iret C hr hk hH hS rfl (by cases h; rfl) dX12_forget_11
theorem c_X12_forget {l : Launch} {ω : WW} (hW : FWM ω) {μ : Mem} {rr : Int32} {μo : Mem} (h : fX12_forget μ = some (rr, μo)) : Con l yX12_forget cX12_forget 2 (some .int) 1 ω [.ref (wB ω + 0)] μ (some (.int rr)) μo :=
  con_of (by decide) (Nat.le_of_ble_eq_true rfl) (fun p e s m args below meth c ls C hr hk hl hH hS => wX12_forget_e hW C hr hk hH hS (lv_sub hl [0] rfl) h)
set_option maxHeartbeats 4000000 in
set_option maxRecDepth 100000 in
theorem wX12_gone_e (hW : FWM ω) (C : Cx ω p s m args c cX12_gone 2 RX12) (hr : meth.sig.returnType = some .int) (hk : meth.locks = false) {rr : Int32} {μo : Mem} {x1 : Int32} {μ : Mem} {H : Heap} {locs : List Loc} {ls : Array Slot} (hH : Hd ω μ H) (hS : FS ω s H locs) (hl : lv_has ls 2 [(0, .ref (wB ω + 0)), (1, .int x1)]) (h : fX12_gone x1 μ = some (rr, μo)) : W p l e (rmd 8) s m args below meth c H locs 0 0 (MQ below (QR ω (some (.int rr)) μo) args s 0 0 (wA ω)) (F0 m 0 ls []) := by
  have hx := C.1
  have hb := C.2.1
  unfold fX12_gone at h
  refine lv_aload_n hx hb dX12_gone_0 rfl (lv_at hl 0 rfl) ?_
  refine lv_iload_n hx hb dX12_gone_1 rfl (lv_at hl 1 rfl) ?_
  obtain ⟨r2, e1, h⟩ := b1_e h
  refine cVi (as := [.int x1]) (rest := []) (c_X12_isHouse hW e1) C hl.1 hH hS rfl (jM_0 hW) rfl wd_53 wd_1503 mw_X12_isHouse wd_1501 rfl (rm_ok (by decide) (by decide)) (Nat.le_of_ble_eq_true rfl) ⟨Nat.zero_le _, Nat.zero_le _⟩ (by decide) dX12_gone_2 (fun H locs hH hS => ?_)
  refine lv_if_eq (tgt := 19) hx hb dX12_gone_5 (by decide) (fun hc => ?_) (fun hc => ?_)
  · have h := ite_t hc h
    refine lv_iconst (v := (-1)) hx hb dX12_gone_19 (by decide) ?_
    exact h_iret C hr hk hH hS rfl (by cases h; rfl) dX12_gone_20
  · have h := ite_f hc h
    refine lv_aload_n hx hb dX12_gone_8 rfl (lv_at hl 0 rfl) ?_
    refine lv_bipush (v := 12) hx hb dX12_gone_9 (by decide) ?_
    refine lv_iload_n hx hb dX12_gone_11 rfl (lv_at hl 1 rfl) ?_
    refine lv_iadd hx hb dX12_gone_12 ?_
    obtain ⟨r5, μ4, e3, h⟩ := b2_e h
    refine cVi (as := [.int (12 + x1)]) (rest := []) (c_X12_behindNone hW e3) C hl.1 hH hS rfl (jM_0 hW) rfl wd_81 wd_1687 mw_X12_behindNone wd_1685 rfl (rm_ok (by decide) (by decide)) (Nat.le_of_ble_eq_true rfl) ⟨Nat.zero_le _, Nat.zero_le _⟩ (by decide) dX12_gone_13 (fun H locs hH hS => ?_)
    refine lv_goto (tgt := 20) hx hb dX12_gone_16 (by decide) ?_
    exact h_iret C hr hk hH hS rfl (by cases h; rfl) dX12_gone_20
theorem c_X12_gone {l : Launch} {ω : WW} {x1 : Int32} (hW : FWM ω) {μ : Mem} {rr : Int32} {μo : Mem} (h : fX12_gone x1 μ = some (rr, μo)) : Con l yX12_gone cX12_gone 2 (some .int) 8 ω [.ref (wB ω + 0), .int x1] μ (some (.int rr)) μo :=
  con_of (by decide) (Nat.le_of_ble_eq_true rfl) (fun p e s m args below meth c ls C hr hk hl hH hS => wX12_gone_e hW C hr hk hH hS (lv_sub hl [0, 1] rfl) h)
set_option maxHeartbeats 4000000 in
set_option maxRecDepth 100000 in
theorem wX12_hold_s20 (hW : FWM ω) (C : Cx ω p s m args c cX12_hold 3 RX12) (hr : meth.sig.returnType = some .boolean) (hk : meth.locks = false) {rr : Int32} {μo : Mem} {x1 : Int32} {x2 : Int32} {rec : Int32 → Mem → Option (Int32 × Mem)} (hrec : ∀ (z2 : Int32) (ν : Mem) (H : Heap) (locs : List Loc) (ls : Array Slot), Hd ω ν H → FS ω s H locs → lv_has ls 3 [(0, .ref (wB ω + 0)), (1, .int x1), (2, .int z2)] → rec z2 ν = some (rr, μo) → W p l e (rmd 2) s m args below meth c H locs 0 0 (MQ below (QR ω (some (.int rr)) μo) args s 0 0 (wA ω)) (F0 m 20 ls [])) {μ : Mem} {H : Heap} {locs : List Loc} {ls : Array Slot} (hH : Hd ω μ H) (hS : FS ω s H locs) (hl : lv_has ls 3 [(0, .ref (wB ω + 0)), (1, .int x1), (2, .int x2)]) (h : fX12_hold_s20 rec x1 x2 μ = some (rr, μo)) : W p l e (rmd 2) s m args below meth c H locs 0 0 (MQ below (QR ω (some (.int rr)) μo) args s 0 0 (wA ω)) (F0 m 20 ls []) := by
  have hx := C.1
  have hb := C.2.1
  unfold fX12_hold_s20 at h
  refine lv_iload_n hx hb dX12_hold_20 rfl (lv_at hl 2 rfl) ?_
  refine lv_bipush (v := 39) hx hb dX12_hold_21 (by decide) ?_
  refine lv_icmp_ge (tgt := 49) hx hb dX12_hold_23 (by decide) (fun hc => ?_) (fun hc => ?_)
  · have h := ite_t hc h
    refine lv_iconst (v := 1) hx hb dX12_hold_49 (by decide) ?_
    exact h_zret (y := 1) C hr hk hH hS rfl (by cases h; rfl) dX12_hold_50
  · have h := ite_f hc h
    refine lv_aload_n hx hb dX12_hold_26 rfl (lv_at hl 0 rfl) ?_
    refine g_1255 (i := 48) C hH (jM_0 hW) rfl dX12_hold_27 ?_
    refine lv_bipush (v := 39) hx hb dX12_hold_30 (by decide) ?_
    refine lv_iload_n hx hb dX12_hold_32 rfl (lv_at hl 1 rfl) ?_
    refine lv_imul hx hb dX12_hold_33 ?_
    refine lv_iload_n hx hb dX12_hold_34 rfl (lv_at hl 2 rfl) ?_
    refine lv_iadd hx hb dX12_hold_35 ?_
    refine lv_aload_n hx hb dX12_hold_36 rfl (lv_at hl 0 rfl) ?_
    refine g_1234 (i := 31) C hH (jM_0 hW) rfl dX12_hold_37 ?_
    refine lv_iload_n hx hb dX12_hold_40 rfl (lv_at hl 2 rfl) ?_
    obtain ⟨b6, h⟩ := gd_e h
    refine h_iald C hH (jM_31 hW).1 (jM_31 hW).2.1 b6 dX12_hold_41 ?_
    obtain ⟨b7, h⟩ := gd_e h
    obtain ⟨μ8, e9, h⟩ := bd_e h
    refine h_iast C hH hS (jM_48 hW).1 (jM_48 hW).2.1 b7 dX12_hold_42 (fun H locs hH hS => ?_)
    have hH := Hd.to e9 hH
    refine lv_iinc (v := x2 + 1) (lv' := [(2, .int (x2 + 1)), (0, .ref (wB ω + 0)), (1, .int x1)]) hx hb dX12_hold_43 hl (k := 2) rfl rfl (by decide) rfl (fun ls hl => ?_)
    refine lv_goto (tgt := 20) hx hb dX12_hold_46 (by decide) ?_
    exact hrec _ _ H locs ls hH hS (lv_sub hl [1, 2, 0] rfl) h
theorem wX12_hold_l20 (hW : FWM ω) (C : Cx ω p s m args c cX12_hold 3 RX12) (hr : meth.sig.returnType = some .boolean) (hk : meth.locks = false) {rr : Int32} {μo : Mem} {x1 : Int32} : ∀ (n : Nat) (x2 : Int32) (μ : Mem) (H : Heap) (locs : List Loc) (ls : Array Slot), Hd ω μ H → FS ω s H locs → lv_has ls 3 [(0, .ref (wB ω + 0)), (1, .int x1), (2, .int x2)] → fX12_hold_l20 x1 n x2 μ = some (rr, μo) → W p l e (rmd 2) s m args below meth c H locs 0 0 (MQ below (QR ω (some (.int rr)) μo) args s 0 0 (wA ω)) (F0 m 20 ls []) := by
  intro n
  induction n with
  | zero => intro x2 μ H locs ls hH hS hl h; cases h
  | succ n ih => intro x2 μ H locs ls hH hS hl h; exact wX12_hold_s20 hW C hr hk ih hH hS hl h
set_option maxHeartbeats 4000000 in
set_option maxRecDepth 100000 in
theorem wX12_hold_e (hW : FWM ω) (C : Cx ω p s m args c cX12_hold 3 RX12) (hr : meth.sig.returnType = some .boolean) (hk : meth.locks = false) {rr : Int32} {μo : Mem} {x1 : Int32} {μ : Mem} {H : Heap} {locs : List Loc} {ls : Array Slot} (hH : Hd ω μ H) (hS : FS ω s H locs) (hl : lv_has ls 3 [(0, .ref (wB ω + 0)), (1, .int x1)]) (h : fX12_hold x1 μ = some (rr, μo)) : W p l e (rmd 2) s m args below meth c H locs 0 0 (MQ below (QR ω (some (.int rr)) μo) args s 0 0 (wA ω)) (F0 m 0 ls []) := by
  have hx := C.1
  have hb := C.2.1
  unfold fX12_hold at h
  refine lv_iload_n hx hb dX12_hold_0 rfl (lv_at hl 1 rfl) ?_
  refine lv_iconst (v := 0) hx hb dX12_hold_1 (by decide) ?_
  refine lv_iconst (v := 2) hx hb dX12_hold_2 (by decide) ?_
  obtain ⟨r2, e1, h⟩ := b1_e h
  refine cSi (as := [.int x1, .int 0, .int 2]) (rest := []) (c_X12_in e1) C hl.1 hH hS rfl wd_1506 mw_X12_in wd_1505 rfl (rm_ok (by decide) (by decide)) (Nat.le_of_ble_eq_true rfl) ⟨Nat.zero_le _, Nat.zero_le _⟩ dX12_hold_3 (fun H locs hH hS => ?_)
  refine lv_if_ne (tgt := 11) hx hb dX12_hold_6 (by decide) (fun hc => ?_) (fun hc => ?_)
  · have h := ite_f hc h
    refine lv_aload_n hx hb dX12_hold_11 rfl (lv_at hl 0 rfl) ?_
    refine g_1254 (i := 47) C hH (jM_0 hW) rfl dX12_hold_12 ?_
    refine lv_iload_n hx hb dX12_hold_15 rfl (lv_at hl 1 rfl) ?_
    refine lv_iconst (v := 1) hx hb dX12_hold_16 (by decide) ?_
    obtain ⟨b3, h⟩ := gd_e h
    obtain ⟨μ4, e5, h⟩ := bd_e h
    refine h_zast (y := 1) C hH hS (jM_47 hW).1 (jM_47 hW).2.1 b3 rfl dX12_hold_17 (fun H locs hH hS => ?_)
    have hH := Hd.to e5 hH
    refine lv_iconst (v := 0) hx hb dX12_hold_18 (by decide) ?_
    refine lv_istore_n (lv' := [(2, .int 0), (0, .ref (wB ω + 0)), (1, .int x1)]) hx hb dX12_hold_19 rfl hl (by decide) rfl (fun ls hl => ?_)
    exact wX12_hold_l20 hW C hr hk FU _ _ H locs ls hH hS (lv_sub hl [1, 2, 0] rfl) h
  · have h := ite_t hc h
    refine lv_iconst (v := 0) hx hb dX12_hold_9 (by decide) ?_
    exact h_zret (y := 0) C hr hk hH hS rfl (by cases h; rfl) dX12_hold_10
theorem c_X12_hold {l : Launch} {ω : WW} {x1 : Int32} (hW : FWM ω) {μ : Mem} {rr : Int32} {μo : Mem} (h : fX12_hold x1 μ = some (rr, μo)) : Con l yX12_hold cX12_hold 3 (some .boolean) 2 ω [.ref (wB ω + 0), .int x1] μ (some (.int rr)) μo :=
  con_of (by decide) (Nat.le_of_ble_eq_true rfl) (fun p e s m args below meth c ls C hr hk hl hH hS => wX12_hold_e hW C hr hk hH hS (lv_sub hl [0, 1] rfl) h)
set_option maxHeartbeats 4000000 in
set_option maxRecDepth 100000 in
theorem wX12_mendsOf_e (hW : FWM ω) (C : Cx ω p s m args c cX12_mendsOf 2 RX12) (hr : meth.sig.returnType = some .int) (hk : meth.locks = false) {rr : Int32} {μo : Mem} {x1 : Int32} {μ : Mem} {H : Heap} {locs : List Loc} {ls : Array Slot} (hH : Hd ω μ H) (hS : FS ω s H locs) (hl : lv_has ls 2 [(0, .ref (wB ω + 0)), (1, .int x1)]) (h : fX12_mendsOf x1 μ = some (rr, μo)) : W p l e (rmd 4) s m args below meth c H locs 0 0 (MQ below (QR ω (some (.int rr)) μo) args s 0 0 (wA ω)) (F0 m 0 ls []) := by
  have hx := C.1
  have hb := C.2.1
  unfold fX12_mendsOf at h
  refine lv_aload_n hx hb dX12_mendsOf_0 rfl (lv_at hl 0 rfl) ?_
  refine lv_iload_n hx hb dX12_mendsOf_1 rfl (lv_at hl 1 rfl) ?_
  refine lv_iconst (v := 3) hx hb dX12_mendsOf_2 (by decide) ?_
  refine lv_iconst (v := 1) hx hb dX12_mendsOf_3 (by decide) ?_
  refine lv_bipush (v := 99) hx hb dX12_mendsOf_4 (by decide) ?_
  obtain ⟨r3, μ2, e1, h⟩ := b2_e h
  refine cVi (as := [.int x1, .int 3, .int 1, .int 99]) (rest := []) (c_X12_lawOf hW e1) C hl.1 hH hS rfl (jM_0 hW) rfl wd_57 wd_1522 mw_X12_lawOf wd_1520 rfl (rm_ok (by decide) (by decide)) (Nat.le_of_ble_eq_true rfl) ⟨Nat.zero_le _, Nat.zero_le _⟩ (by decide) dX12_mendsOf_6 (fun H locs hH hS => ?_)
  exact h_iret C hr hk hH hS rfl (by cases h; rfl) dX12_mendsOf_9
theorem c_X12_mendsOf {l : Launch} {ω : WW} {x1 : Int32} (hW : FWM ω) {μ : Mem} {rr : Int32} {μo : Mem} (h : fX12_mendsOf x1 μ = some (rr, μo)) : Con l yX12_mendsOf cX12_mendsOf 2 (some .int) 4 ω [.ref (wB ω + 0), .int x1] μ (some (.int rr)) μo :=
  con_of (by decide) (Nat.le_of_ble_eq_true rfl) (fun p e s m args below meth c ls C hr hk hl hH hS => wX12_mendsOf_e hW C hr hk hH hS (lv_sub hl [0, 1] rfl) h)
set_option maxHeartbeats 4000000 in
set_option maxRecDepth 100000 in
theorem wX12_house_e (hW : FWM ω) (C : Cx ω p s m args c cX12_house 3 RX12) (hr : meth.sig.returnType = some .int) (hk : meth.locks = false) {rr : Int32} {μo : Mem} {x1 : Int32} {x2 : Int32} {μ : Mem} {H : Heap} {locs : List Loc} {ls : Array Slot} (hH : Hd ω μ H) (hS : FS ω s H locs) (hl : lv_has ls 3 [(0, .ref (wB ω + 0)), (1, .int x1), (2, .int x2)]) (h : fX12_house x1 x2 μ = some (rr, μo)) : W p l e (rmd 5) s m args below meth c H locs 0 0 (MQ below (QR ω (some (.int rr)) μo) args s 0 0 (wA ω)) (F0 m 0 ls []) := by
  have hx := C.1
  have hb := C.2.1
  unfold fX12_house at h
  refine lv_aload_n hx hb dX12_house_0 rfl (lv_at hl 0 rfl) ?_
  refine lv_iload_n hx hb dX12_house_1 rfl (lv_at hl 1 rfl) ?_
  obtain ⟨r2, e1, h⟩ := b1_e h
  refine cVi (as := [.int x1]) (rest := []) (c_X12_isHouse hW e1) C hl.1 hH hS rfl (jM_0 hW) rfl wd_53 wd_1503 mw_X12_isHouse wd_1501 rfl (rm_ok (by decide) (by decide)) (Nat.le_of_ble_eq_true rfl) ⟨Nat.zero_le _, Nat.zero_le _⟩ (by decide) dX12_house_2 (fun H locs hH hS => ?_)
  refine lv_if_ne (tgt := 10) hx hb dX12_house_5 (by decide) (fun hc => ?_) (fun hc => ?_)
  · have h := ite_f hc h
    refine lv_aload_n hx hb dX12_house_10 rfl (lv_at hl 0 rfl) ?_
    obtain ⟨μ4, e3, h⟩ := b1_e h
    refine cVv (as := []) (rest := []) (c_X12_copies hW e3) C hl.1 hH hS rfl (jM_0 hW) rfl wd_54 wd_1510 mw_X12_copies wd_1508 rfl (rm_ok (by decide) (by decide)) (Nat.le_of_ble_eq_true rfl) ⟨Nat.zero_le _, Nat.zero_le _⟩ (by decide) dX12_house_11 (fun H locs hH hS => ?_)
    refine lv_iload_n hx hb dX12_house_14 rfl (lv_at hl 2 rfl) ?_
    by_cases b7 : x2 = 0
    · have h := ite_t b7 h
      refine lv_tableIn (tgt := 80) (off := 65) hx hb dX12_house_15 (by rw [b7]; decide) (by rw [b7]; decide) (by rw [b7]; rfl) (by decide) ?_
      refine lv_aload_n hx hb dX12_house_80 rfl (lv_at hl 0 rfl) ?_
      refine lv_iload_n hx hb dX12_house_81 rfl (lv_at hl 1 rfl) ?_
      obtain ⟨r6, e5, h⟩ := b1_e h
      refine cVi (as := [.int x1]) (rest := []) (c_X12_panesAt hW e5) C hl.1 hH hS rfl (jM_0 hW) rfl wd_55 wd_1514 mw_X12_panesAt wd_1512 rfl (rm_ok (by decide) (by decide)) (Nat.le_of_ble_eq_true rfl) ⟨Nat.zero_le _, Nat.zero_le _⟩ (by decide) dX12_house_82 (fun H locs hH hS => ?_)
      exact h_iret C hr hk hH hS rfl (by cases h; rfl) dX12_house_85
    have h := ite_f b7 h
    by_cases b9 : x2 = 1
    · have h := ite_t b9 h
      refine lv_tableIn (tgt := 86) (off := 71) hx hb dX12_house_15 (by rw [b9]; decide) (by rw [b9]; decide) (by rw [b9]; rfl) (by decide) ?_
      refine lv_aload_n hx hb dX12_house_86 rfl (lv_at hl 0 rfl) ?_
      refine g_1235 (i := 32) C hH (jM_0 hW) rfl dX12_house_87 ?_
      refine lv_iload_n hx hb dX12_house_90 rfl (lv_at hl 1 rfl) ?_
      obtain ⟨b8, h⟩ := gd_e h
      refine h_iald C hH (jM_32 hW).1 (jM_32 hW).2.1 b8 dX12_house_91 ?_
      exact h_iret C hr hk hH hS rfl (by cases h; rfl) dX12_house_92
    have h := ite_f b9 h
    by_cases b11 : x2 = 2
    · have h := ite_t b11 h
      refine lv_tableIn (tgt := 93) (off := 78) hx hb dX12_house_15 (by rw [b11]; decide) (by rw [b11]; decide) (by rw [b11]; rfl) (by decide) ?_
      refine lv_aload_n hx hb dX12_house_93 rfl (lv_at hl 0 rfl) ?_
      refine g_1235 (i := 32) C hH (jM_0 hW) rfl dX12_house_94 ?_
      refine lv_bipush (v := 6) hx hb dX12_house_97 (by decide) ?_
      refine lv_iload_n hx hb dX12_house_99 rfl (lv_at hl 1 rfl) ?_
      refine lv_iadd hx hb dX12_house_100 ?_
      obtain ⟨b10, h⟩ := gd_e h
      refine h_iald C hH (jM_32 hW).1 (jM_32 hW).2.1 b10 dX12_house_101 ?_
      exact h_iret C hr hk hH hS rfl (by cases h; rfl) dX12_house_102
    have h := ite_f b11 h
    by_cases b13 : x2 = 3
    · have h := ite_t b13 h
      refine lv_tableIn (tgt := 103) (off := 88) hx hb dX12_house_15 (by rw [b13]; decide) (by rw [b13]; decide) (by rw [b13]; rfl) (by decide) ?_
      refine lv_aload_n hx hb dX12_house_103 rfl (lv_at hl 0 rfl) ?_
      refine g_1235 (i := 32) C hH (jM_0 hW) rfl dX12_house_104 ?_
      refine lv_bipush (v := 12) hx hb dX12_house_107 (by decide) ?_
      refine lv_iload_n hx hb dX12_house_109 rfl (lv_at hl 1 rfl) ?_
      refine lv_iadd hx hb dX12_house_110 ?_
      obtain ⟨b12, h⟩ := gd_e h
      refine h_iald C hH (jM_32 hW).1 (jM_32 hW).2.1 b12 dX12_house_111 ?_
      exact h_iret C hr hk hH hS rfl (by cases h; rfl) dX12_house_112
    have h := ite_f b13 h
    by_cases b15 : x2 = 4
    · have h := ite_t b15 h
      refine lv_tableIn (tgt := 113) (off := 98) hx hb dX12_house_15 (by rw [b15]; decide) (by rw [b15]; decide) (by rw [b15]; rfl) (by decide) ?_
      refine lv_aload_n hx hb dX12_house_113 rfl (lv_at hl 0 rfl) ?_
      refine g_1235 (i := 32) C hH (jM_0 hW) rfl dX12_house_114 ?_
      refine lv_bipush (v := 18) hx hb dX12_house_117 (by decide) ?_
      refine lv_iload_n hx hb dX12_house_119 rfl (lv_at hl 1 rfl) ?_
      refine lv_iadd hx hb dX12_house_120 ?_
      obtain ⟨b14, h⟩ := gd_e h
      refine h_iald C hH (jM_32 hW).1 (jM_32 hW).2.1 b14 dX12_house_121 ?_
      exact h_iret C hr hk hH hS rfl (by cases h; rfl) dX12_house_122
    have h := ite_f b15 h
    by_cases b17 : x2 = 5
    · have h := ite_t b17 h
      refine lv_tableIn (tgt := 123) (off := 108) hx hb dX12_house_15 (by rw [b17]; decide) (by rw [b17]; decide) (by rw [b17]; rfl) (by decide) ?_
      refine lv_aload_n hx hb dX12_house_123 rfl (lv_at hl 0 rfl) ?_
      refine g_1235 (i := 32) C hH (jM_0 hW) rfl dX12_house_124 ?_
      refine lv_bipush (v := 24) hx hb dX12_house_127 (by decide) ?_
      refine lv_iload_n hx hb dX12_house_129 rfl (lv_at hl 1 rfl) ?_
      refine lv_iadd hx hb dX12_house_130 ?_
      obtain ⟨b16, h⟩ := gd_e h
      refine h_iald C hH (jM_32 hW).1 (jM_32 hW).2.1 b16 dX12_house_131 ?_
      exact h_iret C hr hk hH hS rfl (by cases h; rfl) dX12_house_132
    have h := ite_f b17 h
    by_cases b19 : x2 = 6
    · have h := ite_t b19 h
      refine lv_tableIn (tgt := 133) (off := 118) hx hb dX12_house_15 (by rw [b19]; decide) (by rw [b19]; decide) (by rw [b19]; rfl) (by decide) ?_
      refine lv_aload_n hx hb dX12_house_133 rfl (lv_at hl 0 rfl) ?_
      refine g_1235 (i := 32) C hH (jM_0 hW) rfl dX12_house_134 ?_
      refine lv_bipush (v := 30) hx hb dX12_house_137 (by decide) ?_
      refine lv_iload_n hx hb dX12_house_139 rfl (lv_at hl 1 rfl) ?_
      refine lv_iadd hx hb dX12_house_140 ?_
      obtain ⟨b18, h⟩ := gd_e h
      refine h_iald C hH (jM_32 hW).1 (jM_32 hW).2.1 b18 dX12_house_141 ?_
      exact h_iret C hr hk hH hS rfl (by cases h; rfl) dX12_house_142
    have h := ite_f b19 h
    by_cases b23 : x2 = 7
    · have h := ite_t b23 h
      refine lv_tableIn (tgt := 143) (off := 128) hx hb dX12_house_15 (by rw [b23]; decide) (by rw [b23]; decide) (by rw [b23]; rfl) (by decide) ?_
      refine lv_aload_n hx hb dX12_house_143 rfl (lv_at hl 0 rfl) ?_
      refine lv_iload_n hx hb dX12_house_144 rfl (lv_at hl 1 rfl) ?_
      obtain ⟨r22, μ21, e20, h⟩ := b2_e h
      refine cVi (as := [.int x1]) (rest := []) (c_X12_coolsOf hW e20) C hl.1 hH hS rfl (jM_0 hW) rfl wd_56 wd_1518 mw_X12_coolsOf wd_1516 rfl (rm_ok (by decide) (by decide)) (Nat.le_of_ble_eq_true rfl) ⟨Nat.zero_le _, Nat.zero_le _⟩ (by decide) dX12_house_145 (fun H locs hH hS => ?_)
      exact h_iret C hr hk hH hS rfl (by cases h; rfl) dX12_house_148
    have h := ite_f b23 h
    by_cases b27 : x2 = 8
    · have h := ite_t b27 h
      refine lv_tableIn (tgt := 149) (off := 134) hx hb dX12_house_15 (by rw [b27]; decide) (by rw [b27]; decide) (by rw [b27]; rfl) (by decide) ?_
      refine lv_aload_n hx hb dX12_house_149 rfl (lv_at hl 0 rfl) ?_
      refine lv_iload_n hx hb dX12_house_150 rfl (lv_at hl 1 rfl) ?_
      obtain ⟨r26, μ25, e24, h⟩ := b2_e h
      refine cVi (as := [.int x1]) (rest := []) (c_X12_warmsOf hW e24) C hl.1 hH hS rfl (jM_0 hW) rfl wd_60 wd_1537 mw_X12_warmsOf wd_1535 rfl (rm_ok (by decide) (by decide)) (Nat.le_of_ble_eq_true rfl) ⟨Nat.zero_le _, Nat.zero_le _⟩ (by decide) dX12_house_151 (fun H locs hH hS => ?_)
      exact h_iret C hr hk hH hS rfl (by cases h; rfl) dX12_house_154
    have h := ite_f b27 h
    by_cases b31 : x2 = 9
    · have h := ite_t b31 h
      refine lv_tableIn (tgt := 155) (off := 140) hx hb dX12_house_15 (by rw [b31]; decide) (by rw [b31]; decide) (by rw [b31]; rfl) (by decide) ?_
      refine lv_aload_n hx hb dX12_house_155 rfl (lv_at hl 0 rfl) ?_
      refine lv_iload_n hx hb dX12_house_156 rfl (lv_at hl 1 rfl) ?_
      obtain ⟨r30, μ29, e28, h⟩ := b2_e h
      refine cVi (as := [.int x1]) (rest := []) (c_X12_fadesOf hW e28) C hl.1 hH hS rfl (jM_0 hW) rfl wd_61 wd_1541 mw_X12_fadesOf wd_1539 rfl (rm_ok (by decide) (by decide)) (Nat.le_of_ble_eq_true rfl) ⟨Nat.zero_le _, Nat.zero_le _⟩ (by decide) dX12_house_157 (fun H locs hH hS => ?_)
      exact h_iret C hr hk hH hS rfl (by cases h; rfl) dX12_house_160
    have h := ite_f b31 h
    by_cases b35 : x2 = 10
    · have h := ite_t b35 h
      refine lv_tableIn (tgt := 161) (off := 146) hx hb dX12_house_15 (by rw [b35]; decide) (by rw [b35]; decide) (by rw [b35]; rfl) (by decide) ?_
      refine lv_aload_n hx hb dX12_house_161 rfl (lv_at hl 0 rfl) ?_
      refine lv_iload_n hx hb dX12_house_162 rfl (lv_at hl 1 rfl) ?_
      obtain ⟨r34, μ33, e32, h⟩ := b2_e h
      refine cVi (as := [.int x1]) (rest := []) (c_X12_mendsOf hW e32) C hl.1 hH hS rfl (jM_0 hW) rfl wd_62 wd_1545 mw_X12_mendsOf wd_1543 rfl (rm_ok (by decide) (by decide)) (Nat.le_of_ble_eq_true rfl) ⟨Nat.zero_le _, Nat.zero_le _⟩ (by decide) dX12_house_163 (fun H locs hH hS => ?_)
      exact h_iret C hr hk hH hS rfl (by cases h; rfl) dX12_house_166
    have h := ite_f b35 h
    by_cases b37 : x2 = 11
    · have h := ite_t b37 h
      refine lv_tableIn (tgt := 167) (off := 152) hx hb dX12_house_15 (by rw [b37]; decide) (by rw [b37]; decide) (by rw [b37]; rfl) (by decide) ?_
      refine lv_aload_n hx hb dX12_house_167 rfl (lv_at hl 0 rfl) ?_
      refine g_1212 (i := 13) C hH (jM_0 hW) rfl dX12_house_168 ?_
      refine lv_bipush (v := 6) hx hb dX12_house_171 (by decide) ?_
      refine lv_aload_n hx hb dX12_house_173 rfl (lv_at hl 0 rfl) ?_
      refine g_1205 C hH (jM_0 hW) dX12_house_174 ?_
      refine lv_imul hx hb dX12_house_177 ?_
      refine lv_iload_n hx hb dX12_house_178 rfl (lv_at hl 1 rfl) ?_
      refine lv_iadd hx hb dX12_house_179 ?_
      obtain ⟨b36, h⟩ := gd_e h
      refine h_iald C hH (jM_13 hW).1 (jM_13 hW).2.1 b36 dX12_house_180 ?_
      exact h_iret C hr hk hH hS rfl (by cases h; rfl) dX12_house_181
    have h := ite_f b37 h
    by_cases b39 : x2 = 12
    · have h := ite_t b39 h
      refine lv_tableIn (tgt := 182) (off := 167) hx hb dX12_house_15 (by rw [b39]; decide) (by rw [b39]; decide) (by rw [b39]; rfl) (by decide) ?_
      refine lv_aload_n hx hb dX12_house_182 rfl (lv_at hl 0 rfl) ?_
      refine g_1213 (i := 14) C hH (jM_0 hW) rfl dX12_house_183 ?_
      refine lv_bipush (v := 6) hx hb dX12_house_186 (by decide) ?_
      refine lv_aload_n hx hb dX12_house_188 rfl (lv_at hl 0 rfl) ?_
      refine g_1205 C hH (jM_0 hW) dX12_house_189 ?_
      refine lv_imul hx hb dX12_house_192 ?_
      refine lv_iload_n hx hb dX12_house_193 rfl (lv_at hl 1 rfl) ?_
      refine lv_iadd hx hb dX12_house_194 ?_
      obtain ⟨b38, h⟩ := gd_e h
      refine h_iald C hH (jM_14 hW).1 (jM_14 hW).2.1 b38 dX12_house_195 ?_
      exact h_iret C hr hk hH hS rfl (by cases h; rfl) dX12_house_196
    have h := ite_f b39 h
    have b7 := ne_ti (z := 0) b7 (by decide)
    have b9 := ne_ti (z := 1) b9 (by decide)
    have b11 := ne_ti (z := 2) b11 (by decide)
    have b13 := ne_ti (z := 3) b13 (by decide)
    have b15 := ne_ti (z := 4) b15 (by decide)
    have b17 := ne_ti (z := 5) b17 (by decide)
    have b19 := ne_ti (z := 6) b19 (by decide)
    have b23 := ne_ti (z := 7) b23 (by decide)
    have b27 := ne_ti (z := 8) b27 (by decide)
    have b31 := ne_ti (z := 9) b31 (by decide)
    have b35 := ne_ti (z := 10) b35 (by decide)
    have b37 := ne_ti (z := 11) b37 (by decide)
    have b39 := ne_ti (z := 12) b39 (by decide)
    refine lv_tableOut (tgt := 197) hx hb dX12_house_15 (by omega) (by decide) ?_
    refine lv_iconst (v := (-1)) hx hb dX12_house_197 (by decide) ?_
    exact h_iret C hr hk hH hS rfl (by cases h; rfl) dX12_house_198
  · have h := ite_t hc h
    refine lv_iconst (v := (-1)) hx hb dX12_house_8 (by decide) ?_
    exact h_iret C hr hk hH hS rfl (by cases h; rfl) dX12_house_9
theorem c_X12_house {l : Launch} {ω : WW} {x1 : Int32} {x2 : Int32} (hW : FWM ω) {μ : Mem} {rr : Int32} {μo : Mem} (h : fX12_house x1 x2 μ = some (rr, μo)) : Con l yX12_house cX12_house 3 (some .int) 5 ω [.ref (wB ω + 0), .int x1, .int x2] μ (some (.int rr)) μo :=
  con_of (by decide) (Nat.le_of_ble_eq_true rfl) (fun p e s m args below meth c ls C hr hk hl hH hS => wX12_house_e hW C hr hk hH hS (lv_sub hl [0, 1, 2] rfl) h)
set_option maxHeartbeats 4000000 in
set_option maxRecDepth 100000 in
theorem wX12_isSmall_e (C : Cx ω p s m args c cX12_isSmall 1 RX12) (hr : meth.sig.returnType = some .boolean) (hk : meth.locks = false) {rr : Int32} {μ : Mem} {x0 : Int32} {H : Heap} {locs : List Loc} {ls : Array Slot} (hH : Hd ω μ H) (hS : FS ω s H locs) (hl : lv_has ls 1 [(0, .int x0)]) (h : fX12_isSmall x0 = some rr) : W p l e (rmd 2) s m args below meth c H locs 0 0 (MQ below (QR ω (some (.int rr)) μ) args s 0 0 (wA ω)) (F0 m 0 ls []) := by
  have hx := C.1
  have hb := C.2.1
  unfold fX12_isSmall at h
  refine lv_iload_n hx hb dX12_isSmall_0 rfl (lv_at hl 0 rfl) ?_
  refine lv_iconst (v := 0) hx hb dX12_isSmall_1 (by decide) ?_
  refine lv_bipush (v := 30) hx hb dX12_isSmall_2 (by decide) ?_
  obtain ⟨r2, e1, h⟩ := b1_e h
  refine cSi (as := [.int x0, .int 0, .int 30]) (rest := []) (c_X12_in e1) C hl.1 hH hS rfl wd_1506 mw_X12_in wd_1505 rfl (rm_ok (by decide) (by decide)) (Nat.le_of_ble_eq_true rfl) ⟨Nat.zero_le _, Nat.zero_le _⟩ dX12_isSmall_4 (fun H locs hH hS => ?_)
  exact h_zret (y := r2 &&& 1) C hr hk hH hS rfl (by cases h; rfl) dX12_isSmall_7
theorem c_X12_isSmall {l : Launch} {ω : WW} {x0 : Int32} {μ : Mem} {rr : Int32} (h : fX12_isSmall x0 = some rr) : Con l yX12_isSmall cX12_isSmall 1 (some .boolean) 2 ω [.int x0] μ (some (.int rr)) μ :=
  con_of (by decide) (Nat.le_of_ble_eq_true rfl) (fun p e s m args below meth c ls C hr hk hl hH hS => wX12_isSmall_e C hr hk hH hS (lv_sub hl [0] rfl) h)
set_option maxHeartbeats 4000000 in
set_option maxRecDepth 100000 in
theorem wX12_keptAll_s4 (hW : FWM ω) (C : Cx ω p s m args c cX12_keptAll 3 RX12) (hr : meth.sig.returnType = some .int) (hk : meth.locks = false) {rr : Int32} {μ : Mem} {x1 : Int32} {x2 : Int32} {rec : Int32 → Int32 → Option Int32} (hrec : ∀ (z1 : Int32) (z2 : Int32) (H : Heap) (locs : List Loc) (ls : Array Slot), Hd ω μ H → FS ω s H locs → lv_has ls 3 [(0, .ref (wB ω + 0)), (1, .int z1), (2, .int z2)] → rec z1 z2 = some rr → W p l e (rmd 2) s m args below meth c H locs 0 0 (MQ below (QR ω (some (.int rr)) μ) args s 0 0 (wA ω)) (F0 m 4 ls [])) {H : Heap} {locs : List Loc} {ls : Array Slot} (hH : Hd ω μ H) (hS : FS ω s H locs) (hl : lv_has ls 3 [(0, .ref (wB ω + 0)), (1, .int x1), (2, .int x2)]) (h : fX12_keptAll_s4 rec x1 x2 μ = some rr) : W p l e (rmd 2) s m args below meth c H locs 0 0 (MQ below (QR ω (some (.int rr)) μ) args s 0 0 (wA ω)) (F0 m 4 ls []) := by
  have hx := C.1
  have hb := C.2.1
  unfold fX12_keptAll_s4 at h
  refine lv_iload_n hx hb dX12_keptAll_4 rfl (lv_at hl 2 rfl) ?_
  refine lv_aload_n hx hb dX12_keptAll_5 rfl (lv_at hl 0 rfl) ?_
  obtain ⟨r2, e1, h⟩ := b1_e h
  refine cVi (as := []) (rest := [.int x2]) (c_X12_many hW e1) C hl.1 hH hS rfl (jM_0 hW) rfl wd_31 wd_1182 mw_X12_many wd_1180 rfl (rm_ok (by decide) (by decide)) (Nat.le_of_ble_eq_true rfl) ⟨Nat.zero_le _, Nat.zero_le _⟩ (by decide) dX12_keptAll_6 (fun H locs hH hS => ?_)
  refine lv_icmp_ge (tgt := 30) hx hb dX12_keptAll_9 (by decide) (fun hc => ?_) (fun hc => ?_)
  · have h := ite_t hc h
    refine lv_iload_n hx hb dX12_keptAll_30 rfl (lv_at hl 1 rfl) ?_
    exact h_iret C hr hk hH hS rfl (by cases h; rfl) dX12_keptAll_31
  · have h := ite_f hc h
    refine lv_iload_n hx hb dX12_keptAll_12 rfl (lv_at hl 1 rfl) ?_
    refine lv_aload_n hx hb dX12_keptAll_13 rfl (lv_at hl 0 rfl) ?_
    refine g_1235 (i := 32) C hH (jM_0 hW) rfl dX12_keptAll_14 ?_
    refine lv_bipush (v := 12) hx hb dX12_keptAll_17 (by decide) ?_
    refine lv_iload_n hx hb dX12_keptAll_19 rfl (lv_at hl 2 rfl) ?_
    refine lv_iadd hx hb dX12_keptAll_20 ?_
    obtain ⟨b3, h⟩ := gd_e h
    refine h_iald C hH (jM_32 hW).1 (jM_32 hW).2.1 b3 dX12_keptAll_21 ?_
    refine lv_iadd hx hb dX12_keptAll_22 ?_
    obtain ⟨y4, e5, h⟩ := bd_e h
    refine h_topi e5 ?_
    refine lv_istore_n (lv' := [(1, .int y4), (0, .ref (wB ω + 0)), (2, .int x2)]) hx hb dX12_keptAll_23 rfl hl (by decide) rfl (fun ls hl => ?_)
    refine lv_iinc (v := x2 + 1) (lv' := [(2, .int (x2 + 1)), (1, .int y4), (0, .ref (wB ω + 0))]) hx hb dX12_keptAll_24 hl (k := 2) rfl rfl (by decide) rfl (fun ls hl => ?_)
    refine lv_goto (tgt := 4) hx hb dX12_keptAll_27 (by decide) ?_
    exact hrec _ _ H locs ls hH hS (lv_sub hl [2, 1, 0] rfl) h
theorem wX12_keptAll_l4 (hW : FWM ω) (C : Cx ω p s m args c cX12_keptAll 3 RX12) (hr : meth.sig.returnType = some .int) (hk : meth.locks = false) {rr : Int32} {μ : Mem} : ∀ (n : Nat) (x1 : Int32) (x2 : Int32) (H : Heap) (locs : List Loc) (ls : Array Slot), Hd ω μ H → FS ω s H locs → lv_has ls 3 [(0, .ref (wB ω + 0)), (1, .int x1), (2, .int x2)] → fX12_keptAll_l4 μ n x1 x2 = some rr → W p l e (rmd 2) s m args below meth c H locs 0 0 (MQ below (QR ω (some (.int rr)) μ) args s 0 0 (wA ω)) (F0 m 4 ls []) := by
  intro n
  induction n with
  | zero => intro x1 x2 H locs ls hH hS hl h; cases h
  | succ n ih => intro x1 x2 H locs ls hH hS hl h; exact wX12_keptAll_s4 hW C hr hk ih hH hS hl h
set_option maxHeartbeats 4000000 in
set_option maxRecDepth 100000 in
theorem wX12_keptAll_e (hW : FWM ω) (C : Cx ω p s m args c cX12_keptAll 3 RX12) (hr : meth.sig.returnType = some .int) (hk : meth.locks = false) {rr : Int32} {μ : Mem} {H : Heap} {locs : List Loc} {ls : Array Slot} (hH : Hd ω μ H) (hS : FS ω s H locs) (hl : lv_has ls 3 [(0, .ref (wB ω + 0))]) (h : fX12_keptAll μ = some rr) : W p l e (rmd 2) s m args below meth c H locs 0 0 (MQ below (QR ω (some (.int rr)) μ) args s 0 0 (wA ω)) (F0 m 0 ls []) := by
  have hx := C.1
  have hb := C.2.1
  unfold fX12_keptAll at h
  refine lv_iconst (v := 0) hx hb dX12_keptAll_0 (by decide) ?_
  refine lv_istore_n (lv' := [(1, .int 0), (0, .ref (wB ω + 0))]) hx hb dX12_keptAll_1 rfl hl (by decide) rfl (fun ls hl => ?_)
  refine lv_iconst (v := 0) hx hb dX12_keptAll_2 (by decide) ?_
  refine lv_istore_n (lv' := [(2, .int 0), (1, .int 0), (0, .ref (wB ω + 0))]) hx hb dX12_keptAll_3 rfl hl (by decide) rfl (fun ls hl => ?_)
  exact wX12_keptAll_l4 hW C hr hk FU _ _ H locs ls hH hS (lv_sub hl [2, 1, 0] rfl) h
theorem c_X12_keptAll {l : Launch} {ω : WW} (hW : FWM ω) {μ : Mem} {rr : Int32} (h : fX12_keptAll μ = some rr) : Con l yX12_keptAll cX12_keptAll 3 (some .int) 2 ω [.ref (wB ω + 0)] μ (some (.int rr)) μ :=
  con_of (by decide) (Nat.le_of_ble_eq_true rfl) (fun p e s m args below meth c ls C hr hk hl hH hS => wX12_keptAll_e hW C hr hk hH hS (lv_sub hl [0] rfl) h)
set_option maxHeartbeats 4000000 in
set_option maxRecDepth 100000 in
theorem wX12_needsNow_s23 (hW : FWM ω) (C : Cx ω p s m args c cX12_needsNow 5 RX12) (hr : meth.sig.returnType = some .int) (hk : meth.locks = false) {rr : Int32} {μo : Mem} {x1 : Int32} {x2 : Int32} {x3 : Int32} {x4 : Int32} {rec : Int32 → Mem → Option (Int32 × Mem)} (hrec : ∀ (z4 : Int32) (ν : Mem) (H : Heap) (locs : List Loc) (ls : Array Slot), Hd ω ν H → FS ω s H locs → lv_has ls 5 [(0, .ref (wB ω + 0)), (1, .int x1), (2, .int x2), (3, .int x3), (4, .int z4)] → rec z4 ν = some (rr, μo) → W p l e (rmd 6) s m args below meth c H locs 0 0 (MQ below (QR ω (some (.int rr)) μo) args s 0 0 (wA ω)) (F0 m 23 ls [])) {K : Int32 → Mem → Option (Int32 × Mem)} (hK : ∀ (z4 : Int32) (ν : Mem) (H : Heap) (locs : List Loc) (ls : Array Slot), Hd ω ν H → FS ω s H locs → lv_has ls 5 [(0, .ref (wB ω + 0)), (1, .int x1), (2, .int x2), (3, .int x3), (4, .int z4)] → K z4 ν = some (rr, μo) → W p l e (rmd 6) s m args below meth c H locs 0 0 (MQ below (QR ω (some (.int rr)) μo) args s 0 0 (wA ω)) (F0 m 56 ls [])) {μ : Mem} {H : Heap} {locs : List Loc} {ls : Array Slot} (hH : Hd ω μ H) (hS : FS ω s H locs) (hl : lv_has ls 5 [(0, .ref (wB ω + 0)), (1, .int x1), (2, .int x2), (3, .int x3), (4, .int x4)]) (h : fX12_needsNow_s23 rec K x1 x4 μ = some (rr, μo)) : W p l e (rmd 6) s m args below meth c H locs 0 0 (MQ below (QR ω (some (.int rr)) μo) args s 0 0 (wA ω)) (F0 m 23 ls []) := by
  have hx := C.1
  have hb := C.2.1
  unfold fX12_needsNow_s23 at h
  refine lv_iload hx hb dX12_needsNow_23 (lv_at hl 4 rfl) ?_
  refine lv_bipush (v := 31) hx hb dX12_needsNow_25 (by decide) ?_
  refine lv_icmp_ge (tgt := 56) hx hb dX12_needsNow_27 (by decide) (fun hc => ?_) (fun hc => ?_)
  · have h := ite_t hc h
    exact hK _ _ H locs ls hH hS hl h
  · have h := ite_f hc h
    refine lv_aload_n hx hb dX12_needsNow_30 rfl (lv_at hl 0 rfl) ?_
    refine lv_iload_n hx hb dX12_needsNow_31 rfl (lv_at hl 1 rfl) ?_
    obtain ⟨r9, μ8, e7, h⟩ := b2_e h
    refine cVi (as := [.int x1]) (rest := []) (c_X12_fadesOf hW e7) C hl.1 hH hS rfl (jM_0 hW) rfl wd_61 wd_1541 mw_X12_fadesOf wd_1539 rfl (rm_ok (by decide) (by decide)) (Nat.le_of_ble_eq_true rfl) ⟨Nat.zero_le _, Nat.zero_le _⟩ (by decide) dX12_needsNow_32 (fun H locs hH hS => ?_)
    refine lv_if_eq (tgt := 56) hx hb dX12_needsNow_35 (by decide) (fun hc => ?_) (fun hc => ?_)
    · have h := ite_t hc h
      exact hK _ _ H locs ls hH hS hl h
    · have h := ite_f hc h
      refine lv_iinc (v := x4 + 1) (lv' := [(4, .int (x4 + 1)), (0, .ref (wB ω + 0)), (1, .int x1), (2, .int x2), (3, .int x3)]) hx hb dX12_needsNow_38 hl (k := 4) rfl rfl (by decide) rfl (fun ls hl => ?_)
      refine lv_iload hx hb dX12_needsNow_41 (lv_at hl 0 rfl) ?_
      refine lv_bipush (v := 31) hx hb dX12_needsNow_43 (by decide) ?_
      refine lv_icmp_ge (tgt := 23) hx hb dX12_needsNow_45 (by decide) (fun hc => ?_) (fun hc => ?_)
      · have h := ite_t hc h
        exact hrec _ _ H locs ls hH hS (lv_sub hl [1, 2, 3, 4, 0] rfl) h
      · have h := ite_f hc h
        refine lv_aload_n hx hb dX12_needsNow_48 rfl (lv_at hl 1 rfl) ?_
        refine lv_iload_n hx hb dX12_needsNow_49 rfl (lv_at hl 2 rfl) ?_
        obtain ⟨μ11, e10, h⟩ := b1_e h
        refine cVv (as := [.int x1]) (rest := []) (c_X12_burnsOne hW e10) C hl.1 hH hS rfl (jM_0 hW) rfl wd_64 wd_1557 mw_X12_burnsOne wd_1555 rfl (rm_ok (by decide) (by decide)) (Nat.le_of_ble_eq_true rfl) ⟨Nat.zero_le _, Nat.zero_le _⟩ (by decide) dX12_needsNow_50 (fun H locs hH hS => ?_)
        refine lv_goto (tgt := 23) hx hb dX12_needsNow_53 (by decide) ?_
        exact hrec _ _ H locs ls hH hS (lv_sub hl [1, 2, 3, 4, 0] rfl) h
theorem wX12_needsNow_l23 (hW : FWM ω) (C : Cx ω p s m args c cX12_needsNow 5 RX12) (hr : meth.sig.returnType = some .int) (hk : meth.locks = false) {rr : Int32} {μo : Mem} {x1 : Int32} {x2 : Int32} {x3 : Int32} {K : Int32 → Mem → Option (Int32 × Mem)} (hK : ∀ (z4 : Int32) (ν : Mem) (H : Heap) (locs : List Loc) (ls : Array Slot), Hd ω ν H → FS ω s H locs → lv_has ls 5 [(0, .ref (wB ω + 0)), (1, .int x1), (2, .int x2), (3, .int x3), (4, .int z4)] → K z4 ν = some (rr, μo) → W p l e (rmd 6) s m args below meth c H locs 0 0 (MQ below (QR ω (some (.int rr)) μo) args s 0 0 (wA ω)) (F0 m 56 ls [])) : ∀ (n : Nat) (x4 : Int32) (μ : Mem) (H : Heap) (locs : List Loc) (ls : Array Slot), Hd ω μ H → FS ω s H locs → lv_has ls 5 [(0, .ref (wB ω + 0)), (1, .int x1), (2, .int x2), (3, .int x3), (4, .int x4)] → fX12_needsNow_l23 K x1 n x4 μ = some (rr, μo) → W p l e (rmd 6) s m args below meth c H locs 0 0 (MQ below (QR ω (some (.int rr)) μo) args s 0 0 (wA ω)) (F0 m 23 ls []) := by
  intro n
  induction n with
  | zero => intro x4 μ H locs ls hH hS hl h; cases h
  | succ n ih => intro x4 μ H locs ls hH hS hl h; exact wX12_needsNow_s23 hW C hr hk ih hK hH hS hl h
set_option maxHeartbeats 4000000 in
set_option maxRecDepth 100000 in
theorem wX12_needsNow_b56 (hW : FWM ω) (C : Cx ω p s m args c cX12_needsNow 5 RX12) (hr : meth.sig.returnType = some .int) (hk : meth.locks = false) {rr : Int32} {μo : Mem} {x1 : Int32} {x2 : Int32} {x3 : Int32} {x4 : Int32} {μ : Mem} {H : Heap} {locs : List Loc} {ls : Array Slot} (hH : Hd ω μ H) (hS : FS ω s H locs) (hl : lv_has ls 5 [(0, .ref (wB ω + 0)), (1, .int x1), (2, .int x2), (3, .int x3), (4, .int x4)]) (h : fX12_needsNow_b56 x1 x2 x3 x4 μ = some (rr, μo)) : W p l e (rmd 6) s m args below meth c H locs 0 0 (MQ below (QR ω (some (.int rr)) μo) args s 0 0 (wA ω)) (F0 m 56 ls []) := by
  have hx := C.1
  have hb := C.2.1
  unfold fX12_needsNow_b56 at h
  refine lv_aload_n hx hb dX12_needsNow_56 rfl (lv_at hl 0 rfl) ?_
  refine g_1235 (i := 32) C hH (jM_0 hW) rfl dX12_needsNow_57 ?_
  refine lv_bipush (v := 6) hx hb dX12_needsNow_60 (by decide) ?_
  refine lv_iload_n hx hb dX12_needsNow_62 rfl (lv_at hl 1 rfl) ?_
  refine lv_iadd hx hb dX12_needsNow_63 ?_
  refine lv_iload_n hx hb dX12_needsNow_64 rfl (lv_at hl 2 rfl) ?_
  obtain ⟨b14, h⟩ := gd_e h
  obtain ⟨μ15, e16, h⟩ := bd_e h
  refine h_iast C hH hS (jM_32 hW).1 (jM_32 hW).2.1 b14 dX12_needsNow_65 (fun H locs hH hS => ?_)
  have hH := Hd.to e16 hH
  refine lv_aload_n hx hb dX12_needsNow_66 rfl (lv_at hl 0 rfl) ?_
  refine g_1235 (i := 32) C hH (jM_0 hW) rfl dX12_needsNow_67 ?_
  refine lv_bipush (v := 30) hx hb dX12_needsNow_70 (by decide) ?_
  refine lv_iload_n hx hb dX12_needsNow_72 rfl (lv_at hl 1 rfl) ?_
  refine lv_iadd hx hb dX12_needsNow_73 ?_
  refine lv_iload_n hx hb dX12_needsNow_74 rfl (lv_at hl 3 rfl) ?_
  obtain ⟨b17, h⟩ := gd_e h
  obtain ⟨μ18, e19, h⟩ := bd_e h
  refine h_iast C hH hS (jM_32 hW).1 (jM_32 hW).2.1 b17 dX12_needsNow_75 (fun H locs hH hS => ?_)
  have hH := Hd.to e19 hH
  refine lv_iload hx hb dX12_needsNow_76 (lv_at hl 4 rfl) ?_
  exact h_iret C hr hk hH hS rfl (by cases h; rfl) dX12_needsNow_78
set_option maxHeartbeats 4000000 in
set_option maxRecDepth 100000 in
theorem wX12_needsNow_e (hW : FWM ω) (C : Cx ω p s m args c cX12_needsNow 5 RX12) (hr : meth.sig.returnType = some .int) (hk : meth.locks = false) {rr : Int32} {μo : Mem} {x1 : Int32} {μ : Mem} {H : Heap} {locs : List Loc} {ls : Array Slot} (hH : Hd ω μ H) (hS : FS ω s H locs) (hl : lv_has ls 5 [(0, .ref (wB ω + 0)), (1, .int x1)]) (h : fX12_needsNow x1 μ = some (rr, μo)) : W p l e (rmd 6) s m args below meth c H locs 0 0 (MQ below (QR ω (some (.int rr)) μo) args s 0 0 (wA ω)) (F0 m 0 ls []) := by
  have hx := C.1
  have hb := C.2.1
  unfold fX12_needsNow at h
  refine lv_aload_n hx hb dX12_needsNow_0 rfl (lv_at hl 0 rfl) ?_
  refine g_1235 (i := 32) C hH (jM_0 hW) rfl dX12_needsNow_1 ?_
  refine lv_bipush (v := 6) hx hb dX12_needsNow_4 (by decide) ?_
  refine lv_iload_n hx hb dX12_needsNow_6 rfl (lv_at hl 1 rfl) ?_
  refine lv_iadd hx hb dX12_needsNow_7 ?_
  obtain ⟨b1, h⟩ := gd_e h
  refine h_iald C hH (jM_32 hW).1 (jM_32 hW).2.1 b1 dX12_needsNow_8 ?_
  obtain ⟨y2, e3, h⟩ := bd_e h
  refine h_topi e3 ?_
  refine lv_istore_n (lv' := [(2, .int y2), (0, .ref (wB ω + 0)), (1, .int x1)]) hx hb dX12_needsNow_9 rfl hl (by decide) rfl (fun ls hl => ?_)
  refine lv_aload_n hx hb dX12_needsNow_10 rfl (lv_at hl 1 rfl) ?_
  refine g_1235 (i := 32) C hH (jM_0 hW) rfl dX12_needsNow_11 ?_
  refine lv_bipush (v := 30) hx hb dX12_needsNow_14 (by decide) ?_
  refine lv_iload_n hx hb dX12_needsNow_16 rfl (lv_at hl 2 rfl) ?_
  refine lv_iadd hx hb dX12_needsNow_17 ?_
  obtain ⟨b4, h⟩ := gd_e h
  refine h_iald C hH (jM_32 hW).1 (jM_32 hW).2.1 b4 dX12_needsNow_18 ?_
  obtain ⟨y5, e6, h⟩ := bd_e h
  refine h_topi e6 ?_
  refine lv_istore_n (lv' := [(3, .int y5), (2, .int y2), (0, .ref (wB ω + 0)), (1, .int x1)]) hx hb dX12_needsNow_19 rfl hl (by decide) rfl (fun ls hl => ?_)
  refine lv_iconst (v := 0) hx hb dX12_needsNow_20 (by decide) ?_
  refine lv_istore (lv' := [(4, .int 0), (3, .int y5), (2, .int y2), (0, .ref (wB ω + 0)), (1, .int x1)]) hx hb dX12_needsNow_21 hl (by decide) rfl (fun ls hl => ?_)
  refine wX12_needsNow_l23 hW C hr hk (fun y12 μ13 H locs ls hH hS hl h => ?_) FU _ _ H locs ls hH hS (lv_sub hl [3, 4, 2, 1, 0] rfl) h
  exact wX12_needsNow_b56 hW C hr hk hH hS hl h
theorem c_X12_needsNow {l : Launch} {ω : WW} {x1 : Int32} (hW : FWM ω) {μ : Mem} {rr : Int32} {μo : Mem} (h : fX12_needsNow x1 μ = some (rr, μo)) : Con l yX12_needsNow cX12_needsNow 5 (some .int) 6 ω [.ref (wB ω + 0), .int x1] μ (some (.int rr)) μo :=
  con_of (by decide) (Nat.le_of_ble_eq_true rfl) (fun p e s m args below meth c ls C hr hk hl hH hS => wX12_needsNow_e hW C hr hk hH hS (lv_sub hl [0, 1] rfl) h)
set_option maxHeartbeats 4000000 in
set_option maxRecDepth 100000 in
theorem wX12_runsOut_s2 (hW : FWM ω) (C : Cx ω p s m args c cX12_runsOut 3 RX12) (hr : meth.sig.returnType = some .boolean) (hk : meth.locks = false) {rr : Int32} {μo : Mem} {x1 : Int32} {rec : Int32 → Mem → Option (Int32 × Mem)} (hrec : ∀ (z1 : Int32) (ν : Mem) (H : Heap) (locs : List Loc) (ls : Array Slot), Hd ω ν H → FS ω s H locs → lv_has ls 3 [(0, .ref (wB ω + 0)), (1, .int z1)] → rec z1 ν = some (rr, μo) → W p l e (rmd 7) s m args below meth c H locs 0 0 (MQ below (QR ω (some (.int rr)) μo) args s 0 0 (wA ω)) (F0 m 2 ls [])) {μ : Mem} {H : Heap} {locs : List Loc} {ls : Array Slot} (hH : Hd ω μ H) (hS : FS ω s H locs) (hl : lv_has ls 3 [(0, .ref (wB ω + 0)), (1, .int x1)]) (h : fX12_runsOut_s2 rec x1 μ = some (rr, μo)) : W p l e (rmd 7) s m args below meth c H locs 0 0 (MQ below (QR ω (some (.int rr)) μo) args s 0 0 (wA ω)) (F0 m 2 ls []) := by
  have hx := C.1
  have hb := C.2.1
  unfold fX12_runsOut_s2 at h
  refine lv_iload_n hx hb dX12_runsOut_2 rfl (lv_at hl 1 rfl) ?_
  refine lv_aload_n hx hb dX12_runsOut_3 rfl (lv_at hl 0 rfl) ?_
  obtain ⟨r2, e1, h⟩ := b1_e h
  refine cVi (as := []) (rest := [.int x1]) (c_X12_many hW e1) C hl.1 hH hS rfl (jM_0 hW) rfl wd_31 wd_1182 mw_X12_many wd_1180 rfl (rm_ok (by decide) (by decide)) (Nat.le_of_ble_eq_true rfl) ⟨Nat.zero_le _, Nat.zero_le _⟩ (by decide) dX12_runsOut_4 (fun H locs hH hS => ?_)
  refine lv_icmp_ge (tgt := 61) hx hb dX12_runsOut_7 (by decide) (fun hc => ?_) (fun hc => ?_)
  · have h := ite_t hc h
    refine lv_iconst (v := 0) hx hb dX12_runsOut_61 (by decide) ?_
    exact h_zret (y := 0) C hr hk hH hS rfl (by cases h; rfl) dX12_runsOut_62
  · have h := ite_f hc h
    refine lv_aload_n hx hb dX12_runsOut_10 rfl (lv_at hl 0 rfl) ?_
    refine lv_iload_n hx hb dX12_runsOut_11 rfl (lv_at hl 1 rfl) ?_
    obtain ⟨r5, μ4, e3, h⟩ := b2_e h
    refine cVi (as := [.int x1]) (rest := []) (c_X12_needsNow hW e3) C hl.1 hH hS rfl (jM_0 hW) rfl wd_80 wd_1679 mw_X12_needsNow wd_1677 rfl (rm_ok (by decide) (by decide)) (Nat.le_of_ble_eq_true rfl) ⟨Nat.zero_le _, Nat.zero_le _⟩ (by decide) dX12_runsOut_12 (fun H locs hH hS => ?_)
    refine lv_istore_n (lv' := [(2, .int r5), (0, .ref (wB ω + 0)), (1, .int x1)]) hx hb dX12_runsOut_15 rfl hl (by decide) rfl (fun ls hl => ?_)
    refine lv_iload_n hx hb dX12_runsOut_16 rfl (lv_at hl 0 rfl) ?_
    refine lv_bipush (v := 30) hx hb dX12_runsOut_17 (by decide) ?_
    refine lv_icmp_le (tgt := 25) hx hb dX12_runsOut_19 (by decide) (fun hc => ?_) (fun hc => ?_)
    · have h := ite_t hc h
      refine lv_iload_n hx hb dX12_runsOut_25 rfl (lv_at hl 0 rfl) ?_
      refine lv_aload_n hx hb dX12_runsOut_26 rfl (lv_at hl 1 rfl) ?_
      refine g_1235 (i := 32) C hH (jM_0 hW) rfl dX12_runsOut_27 ?_
      refine lv_bipush (v := 37) hx hb dX12_runsOut_30 (by decide) ?_
      refine h_iald C hH (jM_32 hW).1 (jM_32 hW).2.1 (by decide) dX12_runsOut_32 ?_
      refine h_topi (y := μ4.1 32 37) rfl ?_
      refine lv_icmp_le (tgt := 38) hx hb dX12_runsOut_33 (by decide) (fun hc => ?_) (fun hc => ?_)
      · have h := ite_t hc h
        refine lv_aload_n hx hb dX12_runsOut_38 rfl (lv_at hl 1 rfl) ?_
        refine lv_iload_n hx hb dX12_runsOut_39 rfl (lv_at hl 2 rfl) ?_
        refine lv_iload_n hx hb dX12_runsOut_40 rfl (lv_at hl 0 rfl) ?_
        obtain ⟨μ7, e6, h⟩ := b1_e h
        refine cVv (as := [.int x1, .int r5]) (rest := []) (c_X12_burns hW e6) C hl.1 hH hS rfl (jM_0 hW) rfl wd_63 wd_1553 mw_X12_burns wd_1551 rfl (rm_ok (by decide) (by decide)) (Nat.le_of_ble_eq_true rfl) ⟨Nat.zero_le _, Nat.zero_le _⟩ (by decide) dX12_runsOut_41 (fun H locs hH hS => ?_)
        refine lv_aload_n hx hb dX12_runsOut_44 rfl (lv_at hl 1 rfl) ?_
        refine g_1235 (i := 32) C hH (jM_0 hW) rfl dX12_runsOut_45 ?_
        refine lv_bipush (v := 37) hx hb dX12_runsOut_48 (by decide) ?_
        refine lv_dup2_11 hx hb dX12_runsOut_50 rfl rfl ?_
        refine h_iald C hH (jM_32 hW).1 (jM_32 hW).2.1 (by decide) dX12_runsOut_51 ?_
        refine h_topi (y := μ7.1 32 37) rfl ?_
        refine lv_iload_n hx hb dX12_runsOut_52 rfl (lv_at hl 0 rfl) ?_
        refine lv_isub hx hb dX12_runsOut_53 ?_
        obtain ⟨μ8, e9, h⟩ := bd_e h
        refine h_iast C hH hS (jM_32 hW).1 (jM_32 hW).2.1 (by decide) dX12_runsOut_54 (fun H locs hH hS => ?_)
        have hH := Hd.to e9 hH
        refine lv_iinc (v := x1 + 1) (lv' := [(1, .int (x1 + 1)), (2, .int r5), (0, .ref (wB ω + 0))]) hx hb dX12_runsOut_55 hl (k := 2) rfl rfl (by decide) rfl (fun ls hl => ?_)
        refine lv_goto (tgt := 2) hx hb dX12_runsOut_58 (by decide) ?_
        exact hrec _ _ H locs ls hH hS (lv_sub hl [2, 0] rfl) h
      · have h := ite_f hc h
        refine lv_iconst (v := 1) hx hb dX12_runsOut_36 (by decide) ?_
        exact h_zret (y := 1) C hr hk hH hS rfl (by cases h; rfl) dX12_runsOut_37
    · have h := ite_f hc h
      refine lv_goto (tgt := 55) hx hb dX12_runsOut_22 (by decide) ?_
      refine lv_iinc (v := x1 + 1) (lv' := [(1, .int (x1 + 1)), (2, .int r5), (0, .ref (wB ω + 0))]) hx hb dX12_runsOut_55 hl (k := 2) rfl rfl (by decide) rfl (fun ls hl => ?_)
      refine lv_goto (tgt := 2) hx hb dX12_runsOut_58 (by decide) ?_
      exact hrec _ _ H locs ls hH hS (lv_sub hl [2, 0] rfl) h
theorem wX12_runsOut_l2 (hW : FWM ω) (C : Cx ω p s m args c cX12_runsOut 3 RX12) (hr : meth.sig.returnType = some .boolean) (hk : meth.locks = false) {rr : Int32} {μo : Mem} : ∀ (n : Nat) (x1 : Int32) (μ : Mem) (H : Heap) (locs : List Loc) (ls : Array Slot), Hd ω μ H → FS ω s H locs → lv_has ls 3 [(0, .ref (wB ω + 0)), (1, .int x1)] → fX12_runsOut_l2 n x1 μ = some (rr, μo) → W p l e (rmd 7) s m args below meth c H locs 0 0 (MQ below (QR ω (some (.int rr)) μo) args s 0 0 (wA ω)) (F0 m 2 ls []) := by
  intro n
  induction n with
  | zero => intro x1 μ H locs ls hH hS hl h; cases h
  | succ n ih => intro x1 μ H locs ls hH hS hl h; exact wX12_runsOut_s2 hW C hr hk ih hH hS hl h
set_option maxHeartbeats 4000000 in
set_option maxRecDepth 100000 in
theorem wX12_runsOut_e (hW : FWM ω) (C : Cx ω p s m args c cX12_runsOut 3 RX12) (hr : meth.sig.returnType = some .boolean) (hk : meth.locks = false) {rr : Int32} {μo : Mem} {μ : Mem} {H : Heap} {locs : List Loc} {ls : Array Slot} (hH : Hd ω μ H) (hS : FS ω s H locs) (hl : lv_has ls 3 [(0, .ref (wB ω + 0))]) (h : fX12_runsOut μ = some (rr, μo)) : W p l e (rmd 7) s m args below meth c H locs 0 0 (MQ below (QR ω (some (.int rr)) μo) args s 0 0 (wA ω)) (F0 m 0 ls []) := by
  have hx := C.1
  have hb := C.2.1
  unfold fX12_runsOut at h
  refine lv_iconst (v := 0) hx hb dX12_runsOut_0 (by decide) ?_
  refine lv_istore_n (lv' := [(1, .int 0), (0, .ref (wB ω + 0))]) hx hb dX12_runsOut_1 rfl hl (by decide) rfl (fun ls hl => ?_)
  exact wX12_runsOut_l2 hW C hr hk FU _ _ H locs ls hH hS (lv_sub hl [1, 0] rfl) h
theorem c_X12_runsOut {l : Launch} {ω : WW} (hW : FWM ω) {μ : Mem} {rr : Int32} {μo : Mem} (h : fX12_runsOut μ = some (rr, μo)) : Con l yX12_runsOut cX12_runsOut 3 (some .boolean) 7 ω [.ref (wB ω + 0)] μ (some (.int rr)) μo :=
  con_of (by decide) (Nat.le_of_ble_eq_true rfl) (fun p e s m args below meth c ls C hr hk hl hH hS => wX12_runsOut_e hW C hr hk hH hS (lv_sub hl [0] rfl) h)
set_option maxHeartbeats 4000000 in
set_option maxRecDepth 100000 in
theorem wX12_lasts_s6 (hW : FWM ω) (C : Cx ω p s m args c cX12_lasts 2 RX12) (hr : meth.sig.returnType = some .int) (hk : meth.locks = false) {rr : Int32} {μo : Mem} {x1 : Int32} {rec : Int32 → Mem → Option (Int32 × Mem)} (hrec : ∀ (z1 : Int32) (ν : Mem) (H : Heap) (locs : List Loc) (ls : Array Slot), Hd ω ν H → FS ω s H locs → lv_has ls 2 [(0, .ref (wB ω + 0)), (1, .int z1)] → rec z1 ν = some (rr, μo) → W p l e (rmd 8) s m args below meth c H locs 0 0 (MQ below (QR ω (some (.int rr)) μo) args s 0 0 (wA ω)) (F0 m 6 ls [])) {μ : Mem} {H : Heap} {locs : List Loc} {ls : Array Slot} (hH : Hd ω μ H) (hS : FS ω s H locs) (hl : lv_has ls 2 [(0, .ref (wB ω + 0)), (1, .int x1)]) (h : fX12_lasts_s6 rec x1 μ = some (rr, μo)) : W p l e (rmd 8) s m args below meth c H locs 0 0 (MQ below (QR ω (some (.int rr)) μo) args s 0 0 (wA ω)) (F0 m 6 ls []) := by
  have hx := C.1
  have hb := C.2.1
  unfold fX12_lasts_s6 at h
  refine lv_iload_n hx hb dX12_lasts_6 rfl (lv_at hl 1 rfl) ?_
  refine lv_bipush (v := 60) hx hb dX12_lasts_7 (by decide) ?_
  refine lv_icmp_ge (tgt := 31) hx hb dX12_lasts_9 (by decide) (fun hc => ?_) (fun hc => ?_)
  · have h := ite_t hc h
    refine lv_bipush (v := 60) hx hb dX12_lasts_31 (by decide) ?_
    exact h_iret C hr hk hH hS rfl (by cases h; rfl) dX12_lasts_33
  · have h := ite_f hc h
    refine lv_aload_n hx hb dX12_lasts_12 rfl (lv_at hl 0 rfl) ?_
    obtain ⟨r5, μ4, e3, h⟩ := b2_e h
    refine cVi (as := []) (rest := []) (c_X12_runsOut hW e3) C hl.1 hH hS rfl (jM_0 hW) rfl wd_79 wd_1675 mw_X12_runsOut wd_1673 rfl (rm_ok (by decide) (by decide)) (Nat.le_of_ble_eq_true rfl) ⟨Nat.zero_le _, Nat.zero_le _⟩ (by decide) dX12_lasts_13 (fun H locs hH hS => ?_)
    refine lv_if_eq (tgt := 21) hx hb dX12_lasts_16 (by decide) (fun hc => ?_) (fun hc => ?_)
    · have h := ite_t hc h
      refine lv_aload_n hx hb dX12_lasts_21 rfl (lv_at hl 0 rfl) ?_
      obtain ⟨μ7, e6, h⟩ := b1_e h
      refine cVv (as := []) (rest := []) (c_X12_dayGoes hW e6) C hl.1 hH hS rfl (jM_0 hW) rfl wd_67 wd_1592 mw_X12_dayGoes wd_1590 rfl (rm_ok (by decide) (by decide)) (Nat.le_of_ble_eq_true rfl) ⟨Nat.zero_le _, Nat.zero_le _⟩ (by decide) dX12_lasts_22 (fun H locs hH hS => ?_)
      refine lv_iinc (v := x1 + 1) (lv' := [(1, .int (x1 + 1)), (0, .ref (wB ω + 0))]) hx hb dX12_lasts_25 hl (k := 1) rfl rfl (by decide) rfl (fun ls hl => ?_)
      refine lv_goto (tgt := 6) hx hb dX12_lasts_28 (by decide) ?_
      exact hrec _ _ H locs ls hH hS (lv_sub hl [1, 0] rfl) h
    · have h := ite_f hc h
      refine lv_iload_n hx hb dX12_lasts_19 rfl (lv_at hl 1 rfl) ?_
      exact h_iret C hr hk hH hS rfl (by cases h; rfl) dX12_lasts_20
theorem wX12_lasts_l6 (hW : FWM ω) (C : Cx ω p s m args c cX12_lasts 2 RX12) (hr : meth.sig.returnType = some .int) (hk : meth.locks = false) {rr : Int32} {μo : Mem} : ∀ (n : Nat) (x1 : Int32) (μ : Mem) (H : Heap) (locs : List Loc) (ls : Array Slot), Hd ω μ H → FS ω s H locs → lv_has ls 2 [(0, .ref (wB ω + 0)), (1, .int x1)] → fX12_lasts_l6 n x1 μ = some (rr, μo) → W p l e (rmd 8) s m args below meth c H locs 0 0 (MQ below (QR ω (some (.int rr)) μo) args s 0 0 (wA ω)) (F0 m 6 ls []) := by
  intro n
  induction n with
  | zero => intro x1 μ H locs ls hH hS hl h; cases h
  | succ n ih => intro x1 μ H locs ls hH hS hl h; exact wX12_lasts_s6 hW C hr hk ih hH hS hl h
set_option maxHeartbeats 4000000 in
set_option maxRecDepth 100000 in
theorem wX12_lasts_e (hW : FWM ω) (C : Cx ω p s m args c cX12_lasts 2 RX12) (hr : meth.sig.returnType = some .int) (hk : meth.locks = false) {rr : Int32} {μo : Mem} {μ : Mem} {H : Heap} {locs : List Loc} {ls : Array Slot} (hH : Hd ω μ H) (hS : FS ω s H locs) (hl : lv_has ls 2 [(0, .ref (wB ω + 0))]) (h : fX12_lasts μ = some (rr, μo)) : W p l e (rmd 8) s m args below meth c H locs 0 0 (MQ below (QR ω (some (.int rr)) μo) args s 0 0 (wA ω)) (F0 m 0 ls []) := by
  have hx := C.1
  have hb := C.2.1
  unfold fX12_lasts at h
  refine lv_aload_n hx hb dX12_lasts_0 rfl (lv_at hl 0 rfl) ?_
  obtain ⟨μ2, e1, h⟩ := b1_e h
  refine cVv (as := []) (rest := []) (c_X12_copiesStill hW e1) C hl.1 hH hS rfl (jM_0 hW) rfl wd_76 wd_1655 mw_X12_copiesStill wd_1653 rfl (rm_ok (by decide) (by decide)) (Nat.le_of_ble_eq_true rfl) ⟨Nat.zero_le _, Nat.zero_le _⟩ (by decide) dX12_lasts_1 (fun H locs hH hS => ?_)
  refine lv_iconst (v := 0) hx hb dX12_lasts_4 (by decide) ?_
  refine lv_istore_n (lv' := [(1, .int 0), (0, .ref (wB ω + 0))]) hx hb dX12_lasts_5 rfl hl (by decide) rfl (fun ls hl => ?_)
  exact wX12_lasts_l6 hW C hr hk FU _ _ H locs ls hH hS (lv_sub hl [1, 0] rfl) h
theorem c_X12_lasts {l : Launch} {ω : WW} (hW : FWM ω) {μ : Mem} {rr : Int32} {μo : Mem} (h : fX12_lasts μ = some (rr, μo)) : Con l yX12_lasts cX12_lasts 2 (some .int) 8 ω [.ref (wB ω + 0)] μ (some (.int rr)) μo :=
  con_of (by decide) (Nat.le_of_ble_eq_true rfl) (fun p e s m args below meth c ls C hr hk hl hH hS => wX12_lasts_e hW C hr hk hH hS (lv_sub hl [0] rfl) h)
set_option maxHeartbeats 4000000 in
set_option maxRecDepth 100000 in
theorem wX12_markOf_e (hW : FWM ω) (C : Cx ω p s m args c cX12_markOf 3 RX12) (hr : meth.sig.returnType = some .int) (hk : meth.locks = false) {rr : Int32} {μ : Mem} {x1 : Int32} {x2 : Int32} {H : Heap} {locs : List Loc} {ls : Array Slot} (hH : Hd ω μ H) (hS : FS ω s H locs) (hl : lv_has ls 3 [(0, .ref (wB ω + 0)), (1, .int x1), (2, .int x2)]) (h : fX12_markOf x1 x2 μ = some rr) : W p l e (rmd 2) s m args below meth c H locs 0 0 (MQ below (QR ω (some (.int rr)) μ) args s 0 0 (wA ω)) (F0 m 0 ls []) := by
  have hx := C.1
  have hb := C.2.1
  unfold fX12_markOf at h
  refine lv_iload_n hx hb dX12_markOf_0 rfl (lv_at hl 2 rfl) ?_
  refine lv_if_ne (tgt := 12) hx hb dX12_markOf_1 (by decide) (fun hc => ?_) (fun hc => ?_)
  · have h := ite_f hc h
    refine lv_iload_n hx hb dX12_markOf_12 rfl (lv_at hl 2 rfl) ?_
    refine lv_iconst (v := 1) hx hb dX12_markOf_13 (by decide) ?_
    refine lv_icmp_ne (tgt := 29) hx hb dX12_markOf_14 (by decide) (fun hc => ?_) (fun hc => ?_)
    · have h := ite_f hc h
      refine lv_iload_n hx hb dX12_markOf_29 rfl (lv_at hl 2 rfl) ?_
      refine lv_iconst (v := 2) hx hb dX12_markOf_30 (by decide) ?_
      refine lv_icmp_ne (tgt := 46) hx hb dX12_markOf_31 (by decide) (fun hc => ?_) (fun hc => ?_)
      · have h := ite_f hc h
        refine lv_aload_n hx hb dX12_markOf_46 rfl (lv_at hl 0 rfl) ?_
        refine g_1234 (i := 31) C hH (jM_0 hW) rfl dX12_markOf_47 ?_
        refine lv_iload_n hx hb dX12_markOf_50 rfl (lv_at hl 1 rfl) ?_
        obtain ⟨b1, h⟩ := gd_e h
        refine h_iald C hH (jM_31 hW).1 (jM_31 hW).2.1 b1 dX12_markOf_51 ?_
        exact h_iret C hr hk hH hS rfl (by cases h; rfl) dX12_markOf_52
      · have h := ite_t hc h
        refine lv_aload_n hx hb dX12_markOf_34 rfl (lv_at hl 0 rfl) ?_
        refine g_1234 (i := 31) C hH (jM_0 hW) rfl dX12_markOf_35 ?_
        refine lv_bipush (v := 12) hx hb dX12_markOf_38 (by decide) ?_
        refine lv_iload_n hx hb dX12_markOf_40 rfl (lv_at hl 1 rfl) ?_
        refine lv_iadd hx hb dX12_markOf_41 ?_
        obtain ⟨b2, h⟩ := gd_e h
        refine h_iald C hH (jM_31 hW).1 (jM_31 hW).2.1 b2 dX12_markOf_42 ?_
        refine lv_goto (tgt := 52) hx hb dX12_markOf_43 (by decide) ?_
        exact h_iret C hr hk hH hS rfl (by cases h; rfl) dX12_markOf_52
    · have h := ite_t hc h
      refine lv_aload_n hx hb dX12_markOf_17 rfl (lv_at hl 0 rfl) ?_
      refine g_1234 (i := 31) C hH (jM_0 hW) rfl dX12_markOf_18 ?_
      refine lv_bipush (v := 6) hx hb dX12_markOf_21 (by decide) ?_
      refine lv_iload_n hx hb dX12_markOf_23 rfl (lv_at hl 1 rfl) ?_
      refine lv_iadd hx hb dX12_markOf_24 ?_
      obtain ⟨b3, h⟩ := gd_e h
      refine h_iald C hH (jM_31 hW).1 (jM_31 hW).2.1 b3 dX12_markOf_25 ?_
      refine lv_goto (tgt := 52) hx hb dX12_markOf_26 (by decide) ?_
      exact h_iret C hr hk hH hS rfl (by cases h; rfl) dX12_markOf_52
  · have h := ite_t hc h
    refine lv_aload_n hx hb dX12_markOf_4 rfl (lv_at hl 0 rfl) ?_
    refine lv_iload_n hx hb dX12_markOf_5 rfl (lv_at hl 1 rfl) ?_
    obtain ⟨r5, e4, h⟩ := b1_e h
    refine cVi (as := [.int x1]) (rest := []) (c_X12_panesAt hW e4) C hl.1 hH hS rfl (jM_0 hW) rfl wd_55 wd_1514 mw_X12_panesAt wd_1512 rfl (rm_ok (by decide) (by decide)) (Nat.le_of_ble_eq_true rfl) ⟨Nat.zero_le _, Nat.zero_le _⟩ (by decide) dX12_markOf_6 (fun H locs hH hS => ?_)
    refine lv_goto (tgt := 52) hx hb dX12_markOf_9 (by decide) ?_
    exact h_iret C hr hk hH hS rfl (by cases h; rfl) dX12_markOf_52
theorem c_X12_markOf {l : Launch} {ω : WW} {x1 : Int32} {x2 : Int32} (hW : FWM ω) {μ : Mem} {rr : Int32} (h : fX12_markOf x1 x2 μ = some rr) : Con l yX12_markOf cX12_markOf 3 (some .int) 2 ω [.ref (wB ω + 0), .int x1, .int x2] μ (some (.int rr)) μ :=
  con_of (by decide) (Nat.le_of_ble_eq_true rfl) (fun p e s m args below meth c ls C hr hk hl hH hS => wX12_markOf_e hW C hr hk hH hS (lv_sub hl [0, 1, 2] rfl) h)
set_option maxHeartbeats 4000000 in
set_option maxRecDepth 100000 in
theorem wX12_whoseBits_b51 (hW : FWM ω) (C : Cx ω p s m args c cX12_whoseBits 6 RX12) (hr : meth.sig.returnType = some .int) (hk : meth.locks = false) {rr : Int32} {μ : Mem} {x1 : Int32} {x2 : Int32} {x3 : Int32} {x4 : Int32} {x5 : Int32} {rec : Int32 → Int32 → Option Int32} (hrec : ∀ (z4 : Int32) (z5 : Int32) (H : Heap) (locs : List Loc) (ls : Array Slot), Hd ω μ H → FS ω s H locs → lv_has ls 6 [(0, .ref (wB ω + 0)), (1, .int x1), (2, .int x2), (3, .int x3), (4, .int z4), (5, .int z5)] → rec z4 z5 = some rr → W p l e (rmd 3) s m args below meth c H locs 0 0 (MQ below (QR ω (some (.int rr)) μ) args s 0 0 (wA ω)) (F0 m 18 ls [])) {K : Int32 → Option Int32} (hK : ∀ (z4 : Int32) (H : Heap) (locs : List Loc) (ls : Array Slot), Hd ω μ H → FS ω s H locs → lv_has ls 6 [(0, .ref (wB ω + 0)), (1, .int x1), (2, .int x2), (3, .int x3), (4, .int z4)] → K z4 = some rr → W p l e (rmd 3) s m args below meth c H locs 0 0 (MQ below (QR ω (some (.int rr)) μ) args s 0 0 (wA ω)) (F0 m 70 ls [])) {k0 : Int32} {H : Heap} {locs : List Loc} {ls : Array Slot} (hH : Hd ω μ H) (hS : FS ω s H locs) (hl : lv_has ls 6 [(0, .ref (wB ω + 0)), (1, .int x1), (2, .int x2), (3, .int x3), (4, .int x4), (5, .int x5)]) (h : fX12_whoseBits_b51 rec K x1 x3 x4 x5 k0 μ = some rr) : W p l e (rmd 3) s m args below meth c H locs 0 0 (MQ below (QR ω (some (.int rr)) μ) args s 0 0 (wA ω)) (F0 m 51 ls [.int k0]) := by
  have hx := C.1
  have hb := C.2.1
  unfold fX12_whoseBits_b51 at h
  refine lv_aload_n hx hb dX12_whoseBits_51 rfl (lv_at hl 0 rfl) ?_
  refine g_1253 (i := 46) C hH (jM_0 hW) rfl dX12_whoseBits_52 ?_
  refine lv_iload hx hb dX12_whoseBits_55 (lv_at hl 5 rfl) ?_
  obtain ⟨b7, h⟩ := gd_e h
  refine h_zald C hH (jM_46 hW).1 (jM_46 hW).2.1 b7 dX12_whoseBits_57 ?_
  refine lv_icmp_eq (tgt := 64) hx hb dX12_whoseBits_58 (by decide) (fun hc => ?_) (fun hc => ?_)
  · have h := ite_t hc h
    refine lv_iinc (v := x5 + 1) (lv' := [(5, .int (x5 + 1)), (0, .ref (wB ω + 0)), (1, .int x1), (2, .int x2), (3, .int x3), (4, .int x4)]) hx hb dX12_whoseBits_64 hl (k := 5) rfl rfl (by decide) rfl (fun ls hl => ?_)
    refine lv_goto (tgt := 18) hx hb dX12_whoseBits_67 (by decide) ?_
    exact hrec _ _ H locs ls hH hS (lv_sub hl [1, 2, 3, 4, 5, 0] rfl) h
  · have h := ite_f hc h
    refine lv_iconst (v := 0) hx hb dX12_whoseBits_61 (by decide) ?_
    refine lv_istore (lv' := [(4, .int 0), (0, .ref (wB ω + 0)), (1, .int x1), (2, .int x2), (3, .int x3), (5, .int x5)]) hx hb dX12_whoseBits_62 hl (by decide) rfl (fun ls hl => ?_)
    refine lv_iinc (v := x5 + 1) (lv' := [(5, .int (x5 + 1)), (4, .int 0), (0, .ref (wB ω + 0)), (1, .int x1), (2, .int x2), (3, .int x3)]) hx hb dX12_whoseBits_64 hl (k := 5) rfl rfl (by decide) rfl (fun ls hl => ?_)
    refine lv_goto (tgt := 18) hx hb dX12_whoseBits_67 (by decide) ?_
    exact hrec _ _ H locs ls hH hS (lv_sub hl [2, 3, 4, 5, 1, 0] rfl) h
set_option maxHeartbeats 4000000 in
set_option maxRecDepth 100000 in
theorem wX12_whoseBits_s18 (hW : FWM ω) (C : Cx ω p s m args c cX12_whoseBits 6 RX12) (hr : meth.sig.returnType = some .int) (hk : meth.locks = false) {rr : Int32} {μ : Mem} {x1 : Int32} {x2 : Int32} {x3 : Int32} {x4 : Int32} {x5 : Int32} {rec : Int32 → Int32 → Option Int32} (hrec : ∀ (z4 : Int32) (z5 : Int32) (H : Heap) (locs : List Loc) (ls : Array Slot), Hd ω μ H → FS ω s H locs → lv_has ls 6 [(0, .ref (wB ω + 0)), (1, .int x1), (2, .int x2), (3, .int x3), (4, .int z4), (5, .int z5)] → rec z4 z5 = some rr → W p l e (rmd 3) s m args below meth c H locs 0 0 (MQ below (QR ω (some (.int rr)) μ) args s 0 0 (wA ω)) (F0 m 18 ls [])) {K : Int32 → Option Int32} (hK : ∀ (z4 : Int32) (H : Heap) (locs : List Loc) (ls : Array Slot), Hd ω μ H → FS ω s H locs → lv_has ls 6 [(0, .ref (wB ω + 0)), (1, .int x1), (2, .int x2), (3, .int x3), (4, .int z4)] → K z4 = some rr → W p l e (rmd 3) s m args below meth c H locs 0 0 (MQ below (QR ω (some (.int rr)) μ) args s 0 0 (wA ω)) (F0 m 70 ls [])) {H : Heap} {locs : List Loc} {ls : Array Slot} (hH : Hd ω μ H) (hS : FS ω s H locs) (hl : lv_has ls 6 [(0, .ref (wB ω + 0)), (1, .int x1), (2, .int x2), (3, .int x3), (4, .int x4), (5, .int x5)]) (h : fX12_whoseBits_s18 rec K x1 x3 x4 x5 μ = some rr) : W p l e (rmd 3) s m args below meth c H locs 0 0 (MQ below (QR ω (some (.int rr)) μ) args s 0 0 (wA ω)) (F0 m 18 ls []) := by
  have hx := C.1
  have hb := C.2.1
  unfold fX12_whoseBits_s18 at h
  refine lv_iload hx hb dX12_whoseBits_18 (lv_at hl 5 rfl) ?_
  refine lv_iload_n hx hb dX12_whoseBits_20 rfl (lv_at hl 1 rfl) ?_
  refine lv_icmp_ge (tgt := 70) hx hb dX12_whoseBits_21 (by decide) (fun hc => ?_) (fun hc => ?_)
  · have h := ite_t hc h
    exact hK _ H locs ls hH hS (lv_sub hl [0, 1, 2, 3, 4] rfl) h
  · have h := ite_f hc h
    refine lv_aload_n hx hb dX12_whoseBits_24 rfl (lv_at hl 0 rfl) ?_
    refine lv_iload_n hx hb dX12_whoseBits_25 rfl (lv_at hl 3 rfl) ?_
    refine lv_aload_n hx hb dX12_whoseBits_26 rfl (lv_at hl 0 rfl) ?_
    refine g_1251 (i := 44) C hH (jM_0 hW) rfl dX12_whoseBits_27 ?_
    refine lv_iload hx hb dX12_whoseBits_30 (lv_at hl 5 rfl) ?_
    obtain ⟨b3, h⟩ := gd_e h
    refine h_iald C hH (jM_44 hW).1 (jM_44 hW).2.1 b3 dX12_whoseBits_32 ?_
    obtain ⟨r5, e4, h⟩ := b1_e h
    refine cVi (as := [.int x3, .int (μ.1 44 x5.toNatClampNeg)]) (rest := []) (c_X12_markOf hW e4) C hl.1 hH hS rfl (jM_0 hW) rfl wd_94 wd_1818 mw_X12_markOf wd_1816 rfl (rm_ok (by decide) (by decide)) (Nat.le_of_ble_eq_true rfl) ⟨Nat.zero_le _, Nat.zero_le _⟩ (by decide) dX12_whoseBits_33 (fun H locs hH hS => ?_)
    refine lv_aload_n hx hb dX12_whoseBits_36 rfl (lv_at hl 0 rfl) ?_
    refine g_1252 (i := 45) C hH (jM_0 hW) rfl dX12_whoseBits_37 ?_
    refine lv_iload hx hb dX12_whoseBits_40 (lv_at hl 5 rfl) ?_
    obtain ⟨b6, h⟩ := gd_e h
    refine h_iald C hH (jM_45 hW).1 (jM_45 hW).2.1 b6 dX12_whoseBits_42 ?_
    refine lv_icmp_lt (tgt := 50) hx hb dX12_whoseBits_43 (by decide) (fun hc => ?_) (fun hc => ?_)
    · have h := ite_t hc h
      refine lv_iconst (v := 0) hx hb dX12_whoseBits_50 (by decide) ?_
      exact wX12_whoseBits_b51 hW C hr hk hrec hK hH hS hl h
    · have h := ite_f hc h
      refine lv_iconst (v := 1) hx hb dX12_whoseBits_46 (by decide) ?_
      refine lv_goto (tgt := 51) hx hb dX12_whoseBits_47 (by decide) ?_
      exact wX12_whoseBits_b51 hW C hr hk hrec hK hH hS hl h
theorem wX12_whoseBits_l18 (hW : FWM ω) (C : Cx ω p s m args c cX12_whoseBits 6 RX12) (hr : meth.sig.returnType = some .int) (hk : meth.locks = false) {rr : Int32} {μ : Mem} {x1 : Int32} {x3 : Int32} {x2 : Int32} {K : Int32 → Option Int32} (hK : ∀ (z4 : Int32) (H : Heap) (locs : List Loc) (ls : Array Slot), Hd ω μ H → FS ω s H locs → lv_has ls 6 [(0, .ref (wB ω + 0)), (1, .int x1), (2, .int x2), (3, .int x3), (4, .int z4)] → K z4 = some rr → W p l e (rmd 3) s m args below meth c H locs 0 0 (MQ below (QR ω (some (.int rr)) μ) args s 0 0 (wA ω)) (F0 m 70 ls [])) : ∀ (n : Nat) (x4 : Int32) (x5 : Int32) (H : Heap) (locs : List Loc) (ls : Array Slot), Hd ω μ H → FS ω s H locs → lv_has ls 6 [(0, .ref (wB ω + 0)), (1, .int x1), (2, .int x2), (3, .int x3), (4, .int x4), (5, .int x5)] → fX12_whoseBits_l18 K x1 x3 μ n x4 x5 = some rr → W p l e (rmd 3) s m args below meth c H locs 0 0 (MQ below (QR ω (some (.int rr)) μ) args s 0 0 (wA ω)) (F0 m 18 ls []) := by
  intro n
  induction n with
  | zero => intro x4 x5 H locs ls hH hS hl h; cases h
  | succ n ih => intro x4 x5 H locs ls hH hS hl h; exact wX12_whoseBits_s18 hW C hr hk ih hK hH hS hl h
set_option maxHeartbeats 4000000 in
set_option maxRecDepth 100000 in
theorem wX12_whoseBits_s4 (hW : FWM ω) (C : Cx ω p s m args c cX12_whoseBits 6 RX12) (hr : meth.sig.returnType = some .int) (hk : meth.locks = false) {rr : Int32} {μ : Mem} {x1 : Int32} {x2 : Int32} {x3 : Int32} {rec : Int32 → Int32 → Option Int32} (hrec : ∀ (z2 : Int32) (z3 : Int32) (H : Heap) (locs : List Loc) (ls : Array Slot), Hd ω μ H → FS ω s H locs → lv_has ls 6 [(0, .ref (wB ω + 0)), (1, .int x1), (2, .int z2), (3, .int z3)] → rec z2 z3 = some rr → W p l e (rmd 3) s m args below meth c H locs 0 0 (MQ below (QR ω (some (.int rr)) μ) args s 0 0 (wA ω)) (F0 m 4 ls [])) {H : Heap} {locs : List Loc} {ls : Array Slot} (hH : Hd ω μ H) (hS : FS ω s H locs) (hl : lv_has ls 6 [(0, .ref (wB ω + 0)), (1, .int x1), (2, .int x2), (3, .int x3)]) (h : fX12_whoseBits_s4 rec x1 x2 x3 μ = some rr) : W p l e (rmd 3) s m args below meth c H locs 0 0 (MQ below (QR ω (some (.int rr)) μ) args s 0 0 (wA ω)) (F0 m 4 ls []) := by
  have hx := C.1
  have hb := C.2.1
  unfold fX12_whoseBits_s4 at h
  refine lv_iload_n hx hb dX12_whoseBits_4 rfl (lv_at hl 3 rfl) ?_
  refine lv_aload_n hx hb dX12_whoseBits_5 rfl (lv_at hl 0 rfl) ?_
  obtain ⟨r2, e1, h⟩ := b1_e h
  refine cVi (as := []) (rest := [.int x3]) (c_X12_many hW e1) C hl.1 hH hS rfl (jM_0 hW) rfl wd_31 wd_1182 mw_X12_many wd_1180 rfl (rm_ok (by decide) (by decide)) (Nat.le_of_ble_eq_true rfl) ⟨Nat.zero_le _, Nat.zero_le _⟩ (by decide) dX12_whoseBits_6 (fun H locs hH hS => ?_)
  refine lv_icmp_ge (tgt := 87) hx hb dX12_whoseBits_9 (by decide) (fun hc => ?_) (fun hc => ?_)
  · have h := ite_t hc h
    refine lv_iload_n hx hb dX12_whoseBits_87 rfl (lv_at hl 2 rfl) ?_
    exact h_iret C hr hk hH hS rfl (by cases h; rfl) dX12_whoseBits_88
  · have h := ite_f hc h
    refine lv_iconst (v := 1) hx hb dX12_whoseBits_12 (by decide) ?_
    refine lv_istore (lv' := [(4, .int 1), (0, .ref (wB ω + 0)), (1, .int x1), (2, .int x2), (3, .int x3)]) hx hb dX12_whoseBits_13 hl (by decide) rfl (fun ls hl => ?_)
    refine lv_iconst (v := 0) hx hb dX12_whoseBits_15 (by decide) ?_
    refine lv_istore (lv' := [(5, .int 0), (4, .int 1), (0, .ref (wB ω + 0)), (1, .int x1), (2, .int x2), (3, .int x3)]) hx hb dX12_whoseBits_16 hl (by decide) rfl (fun ls hl => ?_)
    refine wX12_whoseBits_l18 hW C hr hk (fun y8 H locs ls hH hS hl h => ?_) FU _ _ H locs ls hH hS (lv_sub hl [2, 3, 4, 5, 1, 0] rfl) h
    refine lv_iload hx hb dX12_whoseBits_70 (lv_at hl 4 rfl) ?_
    refine lv_if_eq (tgt := 81) hx hb dX12_whoseBits_72 (by decide) (fun hc => ?_) (fun hc => ?_)
    · have h := ite_t hc h
      refine lv_iinc (v := x3 + 1) (lv' := [(3, .int (x3 + 1)), (0, .ref (wB ω + 0)), (1, .int x1), (2, .int x2), (4, .int y8)]) hx hb dX12_whoseBits_81 hl (k := 3) rfl rfl (by decide) rfl (fun ls hl => ?_)
      refine lv_goto (tgt := 4) hx hb dX12_whoseBits_84 (by decide) ?_
      exact hrec _ _ H locs ls hH hS (lv_sub hl [1, 2, 3, 0] rfl) h
    · have h := ite_f hc h
      refine lv_iload_n hx hb dX12_whoseBits_75 rfl (lv_at hl 2 rfl) ?_
      refine lv_iconst (v := 1) hx hb dX12_whoseBits_76 (by decide) ?_
      refine lv_iload_n hx hb dX12_whoseBits_77 rfl (lv_at hl 3 rfl) ?_
      refine lv_ishl hx hb dX12_whoseBits_78 ?_
      refine lv_ior hx hb dX12_whoseBits_79 ?_
      obtain ⟨y9, e10, h⟩ := bd_e h
      refine h_topi e10 ?_
      refine lv_istore_n (lv' := [(2, .int y9), (0, .ref (wB ω + 0)), (1, .int x1), (3, .int x3), (4, .int y8)]) hx hb dX12_whoseBits_80 rfl hl (by decide) rfl (fun ls hl => ?_)
      refine lv_iinc (v := x3 + 1) (lv' := [(3, .int (x3 + 1)), (2, .int y9), (0, .ref (wB ω + 0)), (1, .int x1), (4, .int y8)]) hx hb dX12_whoseBits_81 hl (k := 3) rfl rfl (by decide) rfl (fun ls hl => ?_)
      refine lv_goto (tgt := 4) hx hb dX12_whoseBits_84 (by decide) ?_
      exact hrec _ _ H locs ls hH hS (lv_sub hl [2, 3, 1, 0] rfl) h
theorem wX12_whoseBits_l4 (hW : FWM ω) (C : Cx ω p s m args c cX12_whoseBits 6 RX12) (hr : meth.sig.returnType = some .int) (hk : meth.locks = false) {rr : Int32} {μ : Mem} {x1 : Int32} : ∀ (n : Nat) (x2 : Int32) (x3 : Int32) (H : Heap) (locs : List Loc) (ls : Array Slot), Hd ω μ H → FS ω s H locs → lv_has ls 6 [(0, .ref (wB ω + 0)), (1, .int x1), (2, .int x2), (3, .int x3)] → fX12_whoseBits_l4 x1 μ n x2 x3 = some rr → W p l e (rmd 3) s m args below meth c H locs 0 0 (MQ below (QR ω (some (.int rr)) μ) args s 0 0 (wA ω)) (F0 m 4 ls []) := by
  intro n
  induction n with
  | zero => intro x2 x3 H locs ls hH hS hl h; cases h
  | succ n ih => intro x2 x3 H locs ls hH hS hl h; exact wX12_whoseBits_s4 hW C hr hk ih hH hS hl h
set_option maxHeartbeats 4000000 in
set_option maxRecDepth 100000 in
theorem wX12_whoseBits_e (hW : FWM ω) (C : Cx ω p s m args c cX12_whoseBits 6 RX12) (hr : meth.sig.returnType = some .int) (hk : meth.locks = false) {rr : Int32} {μ : Mem} {x1 : Int32} {H : Heap} {locs : List Loc} {ls : Array Slot} (hH : Hd ω μ H) (hS : FS ω s H locs) (hl : lv_has ls 6 [(0, .ref (wB ω + 0)), (1, .int x1)]) (h : fX12_whoseBits x1 μ = some rr) : W p l e (rmd 3) s m args below meth c H locs 0 0 (MQ below (QR ω (some (.int rr)) μ) args s 0 0 (wA ω)) (F0 m 0 ls []) := by
  have hx := C.1
  have hb := C.2.1
  unfold fX12_whoseBits at h
  refine lv_iconst (v := 0) hx hb dX12_whoseBits_0 (by decide) ?_
  refine lv_istore_n (lv' := [(2, .int 0), (0, .ref (wB ω + 0)), (1, .int x1)]) hx hb dX12_whoseBits_1 rfl hl (by decide) rfl (fun ls hl => ?_)
  refine lv_iconst (v := 0) hx hb dX12_whoseBits_2 (by decide) ?_
  refine lv_istore_n (lv' := [(3, .int 0), (2, .int 0), (0, .ref (wB ω + 0)), (1, .int x1)]) hx hb dX12_whoseBits_3 rfl hl (by decide) rfl (fun ls hl => ?_)
  exact wX12_whoseBits_l4 hW C hr hk FU _ _ H locs ls hH hS (lv_sub hl [2, 3, 1, 0] rfl) h
theorem c_X12_whoseBits {l : Launch} {ω : WW} {x1 : Int32} (hW : FWM ω) {μ : Mem} {rr : Int32} (h : fX12_whoseBits x1 μ = some rr) : Con l yX12_whoseBits cX12_whoseBits 6 (some .int) 3 ω [.ref (wB ω + 0), .int x1] μ (some (.int rr)) μ :=
  con_of (by decide) (Nat.le_of_ble_eq_true rfl) (fun p e s m args below meth c ls C hr hk hl hH hS => wX12_whoseBits_e hW C hr hk hH hS (lv_sub hl [0, 1] rfl) h)
set_option maxHeartbeats 4000000 in
set_option maxRecDepth 100000 in
theorem wX12_look_s57 (hW : FWM ω) (C : Cx ω p s m args c cX12_look 9 RX12) (hr : meth.sig.returnType = some .int) (hk : meth.locks = false) {rr : Int32} {μ : Mem} {x2 : Int32} {x3 : Int32} {x4 : Int32} {x5 : Int32} {x6 : Int32} {x7 : Int32} {x8 : Int32} {rec : Int32 → Int32 → Option Int32} (hrec : ∀ (z7 : Int32) (z8 : Int32) (H : Heap) (locs : List Loc) (ls : Array Slot), Hd ω μ H → FS ω s H locs → lv_has ls 9 [(0, .ref (wB ω + 0)), (2, .int x2), (3, .int x3), (4, .int x4), (5, .int x5), (6, .int x6), (7, .int z7), (8, .int z8)] → rec z7 z8 = some rr → W p l e (rmd 4) s m args below meth c H locs 0 0 (MQ below (QR ω (some (.int rr)) μ) args s 0 0 (wA ω)) (F0 m 57 ls [])) {K : Int32 → Option Int32} (hK : ∀ (z7 : Int32) (H : Heap) (locs : List Loc) (ls : Array Slot), Hd ω μ H → FS ω s H locs → lv_has ls 9 [(0, .ref (wB ω + 0)), (2, .int x2), (3, .int x3), (4, .int x4), (5, .int x5), (6, .int x6), (7, .int z7)] → K z7 = some rr → W p l e (rmd 4) s m args below meth c H locs 0 0 (MQ below (QR ω (some (.int rr)) μ) args s 0 0 (wA ω)) (F0 m 97 ls [])) {H : Heap} {locs : List Loc} {ls : Array Slot} (hH : Hd ω μ H) (hS : FS ω s H locs) (hl : lv_has ls 9 [(0, .ref (wB ω + 0)), (2, .int x2), (3, .int x3), (4, .int x4), (5, .int x5), (6, .int x6), (7, .int x7), (8, .int x8)]) (h : fX12_look_s57 rec K x2 x3 x6 x7 x8 μ = some rr) : W p l e (rmd 4) s m args below meth c H locs 0 0 (MQ below (QR ω (some (.int rr)) μ) args s 0 0 (wA ω)) (F0 m 57 ls []) := by
  have hx := C.1
  have hb := C.2.1
  unfold fX12_look_s57 at h
  refine lv_iload hx hb dX12_look_57 (lv_at hl 7 rfl) ?_
  refine lv_aload_n hx hb dX12_look_59 rfl (lv_at hl 0 rfl) ?_
  obtain ⟨r8, e7, h⟩ := b1_e h
  refine cVi (as := []) (rest := [.int x8]) (c_X12_many hW e7) C hl.1 hH hS rfl (jM_0 hW) rfl wd_31 wd_1182 mw_X12_many wd_1180 rfl (rm_ok (by decide) (by decide)) (Nat.le_of_ble_eq_true rfl) ⟨Nat.zero_le _, Nat.zero_le _⟩ (by decide) dX12_look_60 (fun H locs hH hS => ?_)
  refine lv_icmp_ge (tgt := 97) hx hb dX12_look_63 (by decide) (fun hc => ?_) (fun hc => ?_)
  · have h := ite_t hc h
    exact hK _ H locs ls hH hS (lv_sub hl [0, 1, 2, 3, 4, 5, 6] rfl) h
  · have h := ite_f hc h
    refine lv_iload_n hx hb dX12_look_66 rfl (lv_at hl 2 rfl) ?_
    refine lv_iload hx hb dX12_look_67 (lv_at hl 7 rfl) ?_
    refine lv_ishr hx hb dX12_look_69 ?_
    refine lv_iconst (v := 1) hx hb dX12_look_70 (by decide) ?_
    refine lv_iand hx hb dX12_look_71 ?_
    refine lv_iconst (v := 1) hx hb dX12_look_72 (by decide) ?_
    refine lv_icmp_ne (tgt := 91) hx hb dX12_look_73 (by decide) (fun hc => ?_) (fun hc => ?_)
    · have h := ite_f hc h
      refine lv_iinc (v := x8 + 1) (lv' := [(8, .int (x8 + 1)), (0, .ref (wB ω + 0)), (2, .int x2), (3, .int x3), (4, .int x4), (5, .int x5), (6, .int x6), (7, .int x7)]) hx hb dX12_look_91 hl (k := 7) rfl rfl (by decide) rfl (fun ls hl => ?_)
      refine lv_goto (tgt := 57) hx hb dX12_look_94 (by decide) ?_
      exact hrec _ _ H locs ls hH hS (lv_sub hl [1, 2, 3, 4, 5, 6, 7, 0] rfl) h
    · have h := ite_t hc h
      refine lv_aload_n hx hb dX12_look_76 rfl (lv_at hl 0 rfl) ?_
      refine lv_iload hx hb dX12_look_77 (lv_at hl 7 rfl) ?_
      refine lv_iload hx hb dX12_look_79 (lv_at hl 5 rfl) ?_
      obtain ⟨r10, e9, h⟩ := b1_e h
      refine cVi (as := [.int x8, .int x6]) (rest := []) (c_X12_markOf hW e9) C hl.1 hH hS rfl (jM_0 hW) rfl wd_94 wd_1818 mw_X12_markOf wd_1816 rfl (rm_ok (by decide) (by decide)) (Nat.le_of_ble_eq_true rfl) ⟨Nat.zero_le _, Nat.zero_le _⟩ (by decide) dX12_look_81 (fun H locs hH hS => ?_)
      refine lv_iload_n hx hb dX12_look_84 rfl (lv_at hl 1 rfl) ?_
      refine lv_icmp_lt (tgt := 91) hx hb dX12_look_85 (by decide) (fun hc => ?_) (fun hc => ?_)
      · have h := ite_t hc h
        refine lv_iinc (v := x8 + 1) (lv' := [(8, .int (x8 + 1)), (0, .ref (wB ω + 0)), (2, .int x2), (3, .int x3), (4, .int x4), (5, .int x5), (6, .int x6), (7, .int x7)]) hx hb dX12_look_91 hl (k := 7) rfl rfl (by decide) rfl (fun ls hl => ?_)
        refine lv_goto (tgt := 57) hx hb dX12_look_94 (by decide) ?_
        exact hrec _ _ H locs ls hH hS (lv_sub hl [1, 2, 3, 4, 5, 6, 7, 0] rfl) h
      · have h := ite_f hc h
        refine lv_iinc (v := x7 + 1) (lv' := [(7, .int (x7 + 1)), (0, .ref (wB ω + 0)), (2, .int x2), (3, .int x3), (4, .int x4), (5, .int x5), (6, .int x6), (8, .int x8)]) hx hb dX12_look_88 hl (k := 6) rfl rfl (by decide) rfl (fun ls hl => ?_)
        refine lv_iinc (v := x8 + 1) (lv' := [(8, .int (x8 + 1)), (7, .int (x7 + 1)), (0, .ref (wB ω + 0)), (2, .int x2), (3, .int x3), (4, .int x4), (5, .int x5), (6, .int x6)]) hx hb dX12_look_91 hl (k := 7) rfl rfl (by decide) rfl (fun ls hl => ?_)
        refine lv_goto (tgt := 57) hx hb dX12_look_94 (by decide) ?_
        exact hrec _ _ H locs ls hH hS (lv_sub hl [2, 3, 4, 5, 6, 7, 1, 0] rfl) h
theorem wX12_look_l57 (hW : FWM ω) (C : Cx ω p s m args c cX12_look 9 RX12) (hr : meth.sig.returnType = some .int) (hk : meth.locks = false) {rr : Int32} {μ : Mem} {x2 : Int32} {x3 : Int32} {x6 : Int32} {x4 : Int32} {x5 : Int32} {K : Int32 → Option Int32} (hK : ∀ (z7 : Int32) (H : Heap) (locs : List Loc) (ls : Array Slot), Hd ω μ H → FS ω s H locs → lv_has ls 9 [(0, .ref (wB ω + 0)), (2, .int x2), (3, .int x3), (4, .int x4), (5, .int x5), (6, .int x6), (7, .int z7)] → K z7 = some rr → W p l e (rmd 4) s m args below meth c H locs 0 0 (MQ below (QR ω (some (.int rr)) μ) args s 0 0 (wA ω)) (F0 m 97 ls [])) : ∀ (n : Nat) (x7 : Int32) (x8 : Int32) (H : Heap) (locs : List Loc) (ls : Array Slot), Hd ω μ H → FS ω s H locs → lv_has ls 9 [(0, .ref (wB ω + 0)), (2, .int x2), (3, .int x3), (4, .int x4), (5, .int x5), (6, .int x6), (7, .int x7), (8, .int x8)] → fX12_look_l57 K x2 x3 x6 μ n x7 x8 = some rr → W p l e (rmd 4) s m args below meth c H locs 0 0 (MQ below (QR ω (some (.int rr)) μ) args s 0 0 (wA ω)) (F0 m 57 ls []) := by
  intro n
  induction n with
  | zero => intro x7 x8 H locs ls hH hS hl h; cases h
  | succ n ih => intro x7 x8 H locs ls hH hS hl h; exact wX12_look_s57 hW C hr hk ih hK hH hS hl h
set_option maxHeartbeats 4000000 in
set_option maxRecDepth 100000 in
theorem wX12_look_b121 (hW : FWM ω) (C : Cx ω p s m args c cX12_look 9 RX12) (hr : meth.sig.returnType = some .int) (hk : meth.locks = false) {rr : Int32} {μ : Mem} {x2 : Int32} {x3 : Int32} {x4 : Int32} {x5 : Int32} {x6 : Int32} {rec : Int32 → Int32 → Int32 → Option Int32} (hrec : ∀ (z4 : Int32) (z5 : Int32) (z6 : Int32) (H : Heap) (locs : List Loc) (ls : Array Slot), Hd ω μ H → FS ω s H locs → lv_has ls 9 [(0, .ref (wB ω + 0)), (2, .int x2), (3, .int x3), (4, .int z4), (5, .int z5), (6, .int z6)] → rec z4 z5 z6 = some rr → W p l e (rmd 4) s m args below meth c H locs 0 0 (MQ below (QR ω (some (.int rr)) μ) args s 0 0 (wA ω)) (F0 m 41 ls [])) {k0 : Int32} {H : Heap} {locs : List Loc} {ls : Array Slot} (hH : Hd ω μ H) (hS : FS ω s H locs) (hl : lv_has ls 9 [(0, .ref (wB ω + 0)), (2, .int x2), (3, .int x3), (4, .int x4), (5, .int x5), (6, .int x6)]) (h : fX12_look_b121 rec x2 x3 x4 x5 x6 k0 μ = some rr) : W p l e (rmd 4) s m args below meth c H locs 0 0 (MQ below (QR ω (some (.int rr)) μ) args s 0 0 (wA ω)) (F0 m 121 ls [.int k0]) := by
  have hx := C.1
  have hb := C.2.1
  unfold fX12_look_b121 at h
  refine lv_istore (lv' := [(8, .int k0), (0, .ref (wB ω + 0)), (2, .int x2), (3, .int x3), (4, .int x4), (5, .int x5), (6, .int x6)]) hx hb dX12_look_121 hl (by decide) rfl (fun ls hl => ?_)
  refine lv_iload hx hb dX12_look_123 (lv_at hl 4 rfl) ?_
  refine lv_if_lt (tgt := 138) hx hb dX12_look_125 (by decide) (fun hc => ?_) (fun hc => ?_)
  · have h := ite_t hc h
    refine lv_iload hx hb dX12_look_138 (lv_at hl 6 rfl) ?_
    refine lv_istore (lv' := [(4, .int x6), (8, .int k0), (0, .ref (wB ω + 0)), (2, .int x2), (3, .int x3), (5, .int x5), (6, .int x6)]) hx hb dX12_look_140 hl (by decide) rfl (fun ls hl => ?_)
    refine lv_iload hx hb dX12_look_142 (lv_at hl 1 rfl) ?_
    refine lv_istore (lv' := [(5, .int k0), (4, .int x6), (8, .int k0), (0, .ref (wB ω + 0)), (2, .int x2), (3, .int x3), (6, .int x6)]) hx hb dX12_look_144 hl (by decide) rfl (fun ls hl => ?_)
    refine lv_iinc (v := x6 + 1) (lv' := [(6, .int (x6 + 1)), (5, .int k0), (4, .int x6), (8, .int k0), (0, .ref (wB ω + 0)), (2, .int x2), (3, .int x3)]) hx hb dX12_look_146 hl (k := 6) rfl rfl (by decide) rfl (fun ls hl => ?_)
    refine lv_goto (tgt := 41) hx hb dX12_look_149 (by decide) ?_
    exact hrec _ _ _ H locs ls hH hS (lv_sub hl [4, 5, 6, 2, 1, 0] rfl) h
  · have h := ite_f hc h
    refine lv_iload hx hb dX12_look_128 (lv_at hl 0 rfl) ?_
    refine lv_iload hx hb dX12_look_130 (lv_at hl 5 rfl) ?_
    refine lv_icmp_lt (tgt := 138) hx hb dX12_look_132 (by decide) (fun hc => ?_) (fun hc => ?_)
    · have h := ite_t hc h
      refine lv_iload hx hb dX12_look_138 (lv_at hl 6 rfl) ?_
      refine lv_istore (lv' := [(4, .int x6), (8, .int k0), (0, .ref (wB ω + 0)), (2, .int x2), (3, .int x3), (5, .int x5), (6, .int x6)]) hx hb dX12_look_140 hl (by decide) rfl (fun ls hl => ?_)
      refine lv_iload hx hb dX12_look_142 (lv_at hl 1 rfl) ?_
      refine lv_istore (lv' := [(5, .int k0), (4, .int x6), (8, .int k0), (0, .ref (wB ω + 0)), (2, .int x2), (3, .int x3), (6, .int x6)]) hx hb dX12_look_144 hl (by decide) rfl (fun ls hl => ?_)
      refine lv_iinc (v := x6 + 1) (lv' := [(6, .int (x6 + 1)), (5, .int k0), (4, .int x6), (8, .int k0), (0, .ref (wB ω + 0)), (2, .int x2), (3, .int x3)]) hx hb dX12_look_146 hl (k := 6) rfl rfl (by decide) rfl (fun ls hl => ?_)
      refine lv_goto (tgt := 41) hx hb dX12_look_149 (by decide) ?_
      exact hrec _ _ _ H locs ls hH hS (lv_sub hl [4, 5, 6, 2, 1, 0] rfl) h
    · have h := ite_f hc h
      refine lv_goto (tgt := 146) hx hb dX12_look_135 (by decide) ?_
      refine lv_iinc (v := x6 + 1) (lv' := [(6, .int (x6 + 1)), (8, .int k0), (0, .ref (wB ω + 0)), (2, .int x2), (3, .int x3), (4, .int x4), (5, .int x5)]) hx hb dX12_look_146 hl (k := 6) rfl rfl (by decide) rfl (fun ls hl => ?_)
      refine lv_goto (tgt := 41) hx hb dX12_look_149 (by decide) ?_
      exact hrec _ _ _ H locs ls hH hS (lv_sub hl [2, 3, 4, 5, 6, 0] rfl) h
set_option maxHeartbeats 4000000 in
set_option maxRecDepth 100000 in
theorem wX12_look_s41 (hW : FWM ω) (C : Cx ω p s m args c cX12_look 9 RX12) (hr : meth.sig.returnType = some .int) (hk : meth.locks = false) {rr : Int32} {μ : Mem} {x2 : Int32} {x3 : Int32} {x4 : Int32} {x5 : Int32} {x6 : Int32} {rec : Int32 → Int32 → Int32 → Option Int32} (hrec : ∀ (z4 : Int32) (z5 : Int32) (z6 : Int32) (H : Heap) (locs : List Loc) (ls : Array Slot), Hd ω μ H → FS ω s H locs → lv_has ls 9 [(0, .ref (wB ω + 0)), (2, .int x2), (3, .int x3), (4, .int z4), (5, .int z5), (6, .int z6)] → rec z4 z5 z6 = some rr → W p l e (rmd 4) s m args below meth c H locs 0 0 (MQ below (QR ω (some (.int rr)) μ) args s 0 0 (wA ω)) (F0 m 41 ls [])) {H : Heap} {locs : List Loc} {ls : Array Slot} (hH : Hd ω μ H) (hS : FS ω s H locs) (hl : lv_has ls 9 [(0, .ref (wB ω + 0)), (2, .int x2), (3, .int x3), (4, .int x4), (5, .int x5), (6, .int x6)]) (h : fX12_look_s41 rec x2 x3 x4 x5 x6 μ = some rr) : W p l e (rmd 4) s m args below meth c H locs 0 0 (MQ below (QR ω (some (.int rr)) μ) args s 0 0 (wA ω)) (F0 m 41 ls []) := by
  have hx := C.1
  have hb := C.2.1
  unfold fX12_look_s41 at h
  refine lv_iload hx hb dX12_look_41 (lv_at hl 5 rfl) ?_
  refine lv_iconst (v := 4) hx hb dX12_look_43 (by decide) ?_
  refine lv_icmp_ge (tgt := 152) hx hb dX12_look_44 (by decide) (fun hc => ?_) (fun hc => ?_)
  · have h := ite_t hc h
    refine lv_iload hx hb dX12_look_152 (lv_at hl 3 rfl) ?_
    exact h_iret C hr hk hH hS rfl (by cases h; rfl) dX12_look_154
  · have h := ite_f hc h
    refine lv_iload_n hx hb dX12_look_47 rfl (lv_at hl 2 rfl) ?_
    refine lv_if_eq (tgt := 152) hx hb dX12_look_48 (by decide) (fun hc => ?_) (fun hc => ?_)
    · have h := ite_t hc h
      refine lv_iload hx hb dX12_look_152 (lv_at hl 3 rfl) ?_
      exact h_iret C hr hk hH hS rfl (by cases h; rfl) dX12_look_154
    · have h := ite_f hc h
      refine lv_iconst (v := 0) hx hb dX12_look_51 (by decide) ?_
      refine lv_istore (lv' := [(7, .int 0), (0, .ref (wB ω + 0)), (2, .int x2), (3, .int x3), (4, .int x4), (5, .int x5), (6, .int x6)]) hx hb dX12_look_52 hl (by decide) rfl (fun ls hl => ?_)
      refine lv_iconst (v := 0) hx hb dX12_look_54 (by decide) ?_
      refine lv_istore (lv' := [(8, .int 0), (7, .int 0), (0, .ref (wB ω + 0)), (2, .int x2), (3, .int x3), (4, .int x4), (5, .int x5), (6, .int x6)]) hx hb dX12_look_55 hl (by decide) rfl (fun ls hl => ?_)
      refine wX12_look_l57 hW C hr hk (fun y11 H locs ls hH hS hl h => ?_) FU _ _ H locs ls hH hS (lv_sub hl [2, 3, 4, 5, 6, 7, 1, 0] rfl) h
      refine lv_iload hx hb dX12_look_97 (lv_at hl 6 rfl) ?_
      refine lv_iload_n hx hb dX12_look_99 rfl (lv_at hl 2 rfl) ?_
      obtain ⟨r13, e12, h⟩ := b1_e h
      refine cSi (as := [.int x3]) (rest := [.int y11]) (c_X12_bits e12) C hl.1 hH hS rfl wd_1821 mw_X12_bits wd_1820 rfl (rm_ok (by decide) (by decide)) (Nat.le_of_ble_eq_true rfl) ⟨Nat.zero_le _, Nat.zero_le _⟩ dX12_look_100 (fun H locs hH hS => ?_)
      refine lv_iload hx hb dX12_look_103 (lv_at hl 6 rfl) ?_
      refine lv_isub hx hb dX12_look_105 ?_
      refine lv_icmp_le (tgt := 114) hx hb dX12_look_106 (by decide) (fun hc => ?_) (fun hc => ?_)
      · have h := ite_t hc h
        refine lv_iload_n hx hb dX12_look_114 rfl (lv_at hl 2 rfl) ?_
        obtain ⟨r15, e14, h⟩ := b1_e h
        refine cSi (as := [.int x3]) (rest := []) (c_X12_bits e14) C hl.1 hH hS rfl wd_1821 mw_X12_bits wd_1820 rfl (rm_ok (by decide) (by decide)) (Nat.le_of_ble_eq_true rfl) ⟨Nat.zero_le _, Nat.zero_le _⟩ dX12_look_115 (fun H locs hH hS => ?_)
        refine lv_iload hx hb dX12_look_118 (lv_at hl 6 rfl) ?_
        refine lv_isub hx hb dX12_look_120 ?_
        exact wX12_look_b121 hW C hr hk hrec hH hS (lv_sub hl [0, 1, 2, 3, 4, 5] rfl) h
      · have h := ite_f hc h
        refine lv_iload hx hb dX12_look_109 (lv_at hl 6 rfl) ?_
        refine lv_goto (tgt := 121) hx hb dX12_look_111 (by decide) ?_
        exact wX12_look_b121 hW C hr hk hrec hH hS (lv_sub hl [0, 1, 2, 3, 4, 5] rfl) h
theorem wX12_look_l41 (hW : FWM ω) (C : Cx ω p s m args c cX12_look 9 RX12) (hr : meth.sig.returnType = some .int) (hk : meth.locks = false) {rr : Int32} {μ : Mem} {x2 : Int32} {x3 : Int32} : ∀ (n : Nat) (x4 : Int32) (x5 : Int32) (x6 : Int32) (H : Heap) (locs : List Loc) (ls : Array Slot), Hd ω μ H → FS ω s H locs → lv_has ls 9 [(0, .ref (wB ω + 0)), (2, .int x2), (3, .int x3), (4, .int x4), (5, .int x5), (6, .int x6)] → fX12_look_l41 x2 x3 μ n x4 x5 x6 = some rr → W p l e (rmd 4) s m args below meth c H locs 0 0 (MQ below (QR ω (some (.int rr)) μ) args s 0 0 (wA ω)) (F0 m 41 ls []) := by
  intro n
  induction n with
  | zero => intro x4 x5 x6 H locs ls hH hS hl h; cases h
  | succ n ih => intro x4 x5 x6 H locs ls hH hS hl h; exact wX12_look_s41 hW C hr hk ih hH hS hl h
set_option maxHeartbeats 4000000 in
set_option maxRecDepth 100000 in
theorem wX12_look_e (hW : FWM ω) (C : Cx ω p s m args c cX12_look 9 RX12) (hr : meth.sig.returnType = some .int) (hk : meth.locks = false) {rr : Int32} {μ : Mem} {x1 : Int32} {x2 : Int32} {H : Heap} {locs : List Loc} {ls : Array Slot} (hH : Hd ω μ H) (hS : FS ω s H locs) (hl : lv_has ls 9 [(0, .ref (wB ω + 0)), (1, .int x1), (2, .int x2)]) (h : fX12_look x1 x2 μ = some rr) : W p l e (rmd 4) s m args below meth c H locs 0 0 (MQ below (QR ω (some (.int rr)) μ) args s 0 0 (wA ω)) (F0 m 0 ls []) := by
  have hx := C.1
  have hb := C.2.1
  unfold fX12_look at h
  refine lv_iload_n hx hb dX12_look_0 rfl (lv_at hl 1 rfl) ?_
  refine lv_iconst (v := 0) hx hb dX12_look_1 (by decide) ?_
  refine lv_aload_n hx hb dX12_look_2 rfl (lv_at hl 0 rfl) ?_
  refine g_1250 C hH (jM_0 hW) dX12_look_3 ?_
  obtain ⟨r2, e1, h⟩ := b1_e h
  refine cSi (as := [.int x1, .int 0, .int (μ.1 0 63)]) (rest := []) (c_X12_in e1) C hl.1 hH hS rfl wd_1506 mw_X12_in wd_1505 rfl (rm_ok (by decide) (by decide)) (Nat.le_of_ble_eq_true rfl) ⟨Nat.zero_le _, Nat.zero_le _⟩ dX12_look_6 (fun H locs hH hS => ?_)
  refine lv_if_eq (tgt := 23) hx hb dX12_look_9 (by decide) (fun hc => ?_) (fun hc => ?_)
  · have h := ite_t hc h
    refine lv_iconst (v := (-1)) hx hb dX12_look_23 (by decide) ?_
    exact h_iret C hr hk hH hS rfl (by cases h; rfl) dX12_look_24
  · have h := ite_f hc h
    refine lv_iload_n hx hb dX12_look_12 rfl (lv_at hl 2 rfl) ?_
    refine lv_iconst (v := 0) hx hb dX12_look_13 (by decide) ?_
    refine lv_sipush (v := 999) hx hb dX12_look_14 (by decide) ?_
    obtain ⟨r4, e3, h⟩ := b1_e h
    refine cSi (as := [.int x2, .int 0, .int 999]) (rest := []) (c_X12_in e3) C hl.1 hH hS rfl wd_1506 mw_X12_in wd_1505 rfl (rm_ok (by decide) (by decide)) (Nat.le_of_ble_eq_true rfl) ⟨Nat.zero_le _, Nat.zero_le _⟩ dX12_look_17 (fun H locs hH hS => ?_)
    refine lv_if_ne (tgt := 25) hx hb dX12_look_20 (by decide) (fun hc => ?_) (fun hc => ?_)
    · have h := ite_f hc h
      refine lv_aload_n hx hb dX12_look_25 rfl (lv_at hl 0 rfl) ?_
      refine lv_iload_n hx hb dX12_look_26 rfl (lv_at hl 1 rfl) ?_
      obtain ⟨r6, e5, h⟩ := b1_e h
      refine cVi (as := [.int x1]) (rest := []) (c_X12_whoseBits hW e5) C hl.1 hH hS rfl (jM_0 hW) rfl wd_93 wd_1814 mw_X12_whoseBits wd_1812 rfl (rm_ok (by decide) (by decide)) (Nat.le_of_ble_eq_true rfl) ⟨Nat.zero_le _, Nat.zero_le _⟩ (by decide) dX12_look_27 (fun H locs hH hS => ?_)
      refine lv_istore_n (lv' := [(3, .int r6), (0, .ref (wB ω + 0)), (1, .int x1), (2, .int x2)]) hx hb dX12_look_30 rfl hl (by decide) rfl (fun ls hl => ?_)
      refine lv_bipush (v := (-2)) hx hb dX12_look_31 (by decide) ?_
      refine lv_istore (lv' := [(4, .int (-2)), (3, .int r6), (0, .ref (wB ω + 0)), (1, .int x1), (2, .int x2)]) hx hb dX12_look_33 hl (by decide) rfl (fun ls hl => ?_)
      refine lv_iconst (v := 0) hx hb dX12_look_35 (by decide) ?_
      refine lv_istore (lv' := [(5, .int 0), (4, .int (-2)), (3, .int r6), (0, .ref (wB ω + 0)), (1, .int x1), (2, .int x2)]) hx hb dX12_look_36 hl (by decide) rfl (fun ls hl => ?_)
      refine lv_iconst (v := 0) hx hb dX12_look_38 (by decide) ?_
      refine lv_istore (lv' := [(6, .int 0), (5, .int 0), (4, .int (-2)), (3, .int r6), (0, .ref (wB ω + 0)), (1, .int x1), (2, .int x2)]) hx hb dX12_look_39 hl (by decide) rfl (fun ls hl => ?_)
      exact wX12_look_l41 hW C hr hk FU _ _ _ H locs ls hH hS (lv_sub hl [4, 6, 3, 2, 1, 0] rfl) h
    · have h := ite_t hc h
      refine lv_iconst (v := (-1)) hx hb dX12_look_23 (by decide) ?_
      exact h_iret C hr hk hH hS rfl (by cases h; rfl) dX12_look_24
theorem c_X12_look {l : Launch} {ω : WW} {x1 : Int32} {x2 : Int32} (hW : FWM ω) {μ : Mem} {rr : Int32} (h : fX12_look x1 x2 μ = some rr) : Con l yX12_look cX12_look 9 (some .int) 4 ω [.ref (wB ω + 0), .int x1, .int x2] μ (some (.int rr)) μ :=
  con_of (by decide) (Nat.le_of_ble_eq_true rfl) (fun p e s m args below meth c ls C hr hk hl hH hS => wX12_look_e hW C hr hk hH hS (lv_sub hl [0, 1, 2] rfl) h)
set_option maxHeartbeats 4000000 in
set_option maxRecDepth 100000 in
theorem wX12_loss_e (hW : FWM ω) (C : Cx ω p s m args c cX12_loss 3 RX12) (hr : meth.sig.returnType = some .int) (hk : meth.locks = false) {rr : Int32} {μo : Mem} {x1 : Int32} {x2 : Int32} {μ : Mem} {H : Heap} {locs : List Loc} {ls : Array Slot} (hH : Hd ω μ H) (hS : FS ω s H locs) (hl : lv_has ls 3 [(0, .ref (wB ω + 0)), (1, .int x1), (2, .int x2)]) (h : fX12_loss x1 x2 μ = some (rr, μo)) : W p l e (rmd 7) s m args below meth c H locs 0 0 (MQ below (QR ω (some (.int rr)) μo) args s 0 0 (wA ω)) (F0 m 0 ls []) := by
  have hx := C.1
  have hb := C.2.1
  unfold fX12_loss at h
  refine lv_aload_n hx hb dX12_loss_0 rfl (lv_at hl 0 rfl) ?_
  refine lv_iload_n hx hb dX12_loss_1 rfl (lv_at hl 1 rfl) ?_
  obtain ⟨r2, e1, h⟩ := b1_e h
  refine cVi (as := [.int x1]) (rest := []) (c_X12_isHouse hW e1) C hl.1 hH hS rfl (jM_0 hW) rfl wd_53 wd_1503 mw_X12_isHouse wd_1501 rfl (rm_ok (by decide) (by decide)) (Nat.le_of_ble_eq_true rfl) ⟨Nat.zero_le _, Nat.zero_le _⟩ (by decide) dX12_loss_2 (fun H locs hH hS => ?_)
  refine lv_if_eq (tgt := 15) hx hb dX12_loss_5 (by decide) (fun hc => ?_) (fun hc => ?_)
  · have h := ite_t hc h
    refine lv_iconst (v := (-1)) hx hb dX12_loss_15 (by decide) ?_
    exact h_iret C hr hk hH hS rfl (by cases h; rfl) dX12_loss_16
  · have h := ite_f hc h
    refine lv_iload_n hx hb dX12_loss_8 rfl (lv_at hl 2 rfl) ?_
    obtain ⟨r4, e3, h⟩ := b1_e h
    refine cSi (as := [.int x2]) (rest := []) (c_X12_isSmall e3) C hl.1 hH hS rfl wd_1619 mw_X12_isSmall wd_1618 rfl (rm_ok (by decide) (by decide)) (Nat.le_of_ble_eq_true rfl) ⟨Nat.zero_le _, Nat.zero_le _⟩ dX12_loss_9 (fun H locs hH hS => ?_)
    refine lv_if_ne (tgt := 17) hx hb dX12_loss_12 (by decide) (fun hc => ?_) (fun hc => ?_)
    · have h := ite_f hc h
      refine lv_aload_n hx hb dX12_loss_17 rfl (lv_at hl 0 rfl) ?_
      obtain ⟨μ6, e5, h⟩ := b1_e h
      refine cVv (as := []) (rest := []) (c_X12_copies hW e5) C hl.1 hH hS rfl (jM_0 hW) rfl wd_54 wd_1510 mw_X12_copies wd_1508 rfl (rm_ok (by decide) (by decide)) (Nat.le_of_ble_eq_true rfl) ⟨Nat.zero_le _, Nat.zero_le _⟩ (by decide) dX12_loss_18 (fun H locs hH hS => ?_)
      refine lv_aload_n hx hb dX12_loss_21 rfl (lv_at hl 0 rfl) ?_
      refine lv_iload_n hx hb dX12_loss_22 rfl (lv_at hl 1 rfl) ?_
      refine lv_iload_n hx hb dX12_loss_23 rfl (lv_at hl 2 rfl) ?_
      obtain ⟨μ8, e7, h⟩ := b1_e h
      refine cVv (as := [.int x1, .int x2]) (rest := []) (c_X12_burns hW e7) C hl.1 hH hS rfl (jM_0 hW) rfl wd_63 wd_1553 mw_X12_burns wd_1551 rfl (rm_ok (by decide) (by decide)) (Nat.le_of_ble_eq_true rfl) ⟨Nat.zero_le _, Nat.zero_le _⟩ (by decide) dX12_loss_24 (fun H locs hH hS => ?_)
      refine lv_aload_n hx hb dX12_loss_27 rfl (lv_at hl 0 rfl) ?_
      refine lv_iload_n hx hb dX12_loss_28 rfl (lv_at hl 1 rfl) ?_
      obtain ⟨r11, μ10, e9, h⟩ := b2_e h
      refine cVi (as := [.int x1]) (rest := []) (c_X12_fadesOf hW e9) C hl.1 hH hS rfl (jM_0 hW) rfl wd_61 wd_1541 mw_X12_fadesOf wd_1539 rfl (rm_ok (by decide) (by decide)) (Nat.le_of_ble_eq_true rfl) ⟨Nat.zero_le _, Nat.zero_le _⟩ (by decide) dX12_loss_29 (fun H locs hH hS => ?_)
      exact h_iret C hr hk hH hS rfl (by cases h; rfl) dX12_loss_32
    · have h := ite_t hc h
      refine lv_iconst (v := (-1)) hx hb dX12_loss_15 (by decide) ?_
      exact h_iret C hr hk hH hS rfl (by cases h; rfl) dX12_loss_16
theorem c_X12_loss {l : Launch} {ω : WW} {x1 : Int32} {x2 : Int32} (hW : FWM ω) {μ : Mem} {rr : Int32} {μo : Mem} (h : fX12_loss x1 x2 μ = some (rr, μo)) : Con l yX12_loss cX12_loss 3 (some .int) 7 ω [.ref (wB ω + 0), .int x1, .int x2] μ (some (.int rr)) μo :=
  con_of (by decide) (Nat.le_of_ble_eq_true rfl) (fun p e s m args below meth c ls C hr hk hl hH hS => wX12_loss_e hW C hr hk hH hS (lv_sub hl [0, 1, 2] rfl) h)
set_option maxHeartbeats 4000000 in
set_option maxRecDepth 100000 in
theorem wX12_mend_e (hW : FWM ω) (C : Cx ω p s m args c cX12_mend 3 RX12) (hr : meth.sig.returnType = some .int) (hk : meth.locks = false) {rr : Int32} {μo : Mem} {x1 : Int32} {μ : Mem} {H : Heap} {locs : List Loc} {ls : Array Slot} (hH : Hd ω μ H) (hS : FS ω s H locs) (hl : lv_has ls 3 [(0, .ref (wB ω + 0)), (1, .int x1)]) (h : fX12_mend x1 μ = some (rr, μo)) : W p l e (rmd 5) s m args below meth c H locs 0 0 (MQ below (QR ω (some (.int rr)) μo) args s 0 0 (wA ω)) (F0 m 0 ls []) := by
  have hx := C.1
  have hb := C.2.1
  unfold fX12_mend at h
  refine lv_aload_n hx hb dX12_mend_0 rfl (lv_at hl 0 rfl) ?_
  refine lv_iload_n hx hb dX12_mend_1 rfl (lv_at hl 1 rfl) ?_
  obtain ⟨r2, e1, h⟩ := b1_e h
  refine cVi (as := [.int x1]) (rest := []) (c_X12_isHouse hW e1) C hl.1 hH hS rfl (jM_0 hW) rfl wd_53 wd_1503 mw_X12_isHouse wd_1501 rfl (rm_ok (by decide) (by decide)) (Nat.le_of_ble_eq_true rfl) ⟨Nat.zero_le _, Nat.zero_le _⟩ (by decide) dX12_mend_2 (fun H locs hH hS => ?_)
  refine lv_if_eq (tgt := 17) hx hb dX12_mend_5 (by decide) (fun hc => ?_) (fun hc => ?_)
  · have h := ite_t hc h
    refine lv_iconst (v := (-1)) hx hb dX12_mend_17 (by decide) ?_
    exact h_iret C hr hk hH hS rfl (by cases h; rfl) dX12_mend_18
  · have h := ite_f hc h
    refine lv_aload_n hx hb dX12_mend_8 rfl (lv_at hl 0 rfl) ?_
    refine g_1234 (i := 31) C hH (jM_0 hW) rfl dX12_mend_9 ?_
    refine lv_iload_n hx hb dX12_mend_12 rfl (lv_at hl 1 rfl) ?_
    obtain ⟨b3, h⟩ := gd_e h
    refine h_iald C hH (jM_31 hW).1 (jM_31 hW).2.1 b3 dX12_mend_13 ?_
    refine lv_if_ne (tgt := 19) hx hb dX12_mend_14 (by decide) (fun hc => ?_) (fun hc => ?_)
    · have h := ite_f hc h
      refine lv_aload_n hx hb dX12_mend_19 rfl (lv_at hl 0 rfl) ?_
      obtain ⟨μ5, e4, h⟩ := b1_e h
      refine cVv (as := []) (rest := []) (c_X12_copies hW e4) C hl.1 hH hS rfl (jM_0 hW) rfl wd_54 wd_1510 mw_X12_copies wd_1508 rfl (rm_ok (by decide) (by decide)) (Nat.le_of_ble_eq_true rfl) ⟨Nat.zero_le _, Nat.zero_le _⟩ (by decide) dX12_mend_20 (fun H locs hH hS => ?_)
      refine lv_aload_n hx hb dX12_mend_23 rfl (lv_at hl 0 rfl) ?_
      refine lv_iload_n hx hb dX12_mend_24 rfl (lv_at hl 1 rfl) ?_
      obtain ⟨r8, μ7, e6, h⟩ := b2_e h
      refine cVi (as := [.int x1]) (rest := []) (c_X12_mendsOf hW e6) C hl.1 hH hS rfl (jM_0 hW) rfl wd_62 wd_1545 mw_X12_mendsOf wd_1543 rfl (rm_ok (by decide) (by decide)) (Nat.le_of_ble_eq_true rfl) ⟨Nat.zero_le _, Nat.zero_le _⟩ (by decide) dX12_mend_25 (fun H locs hH hS => ?_)
      refine lv_istore_n (lv' := [(2, .int r8), (0, .ref (wB ω + 0)), (1, .int x1)]) hx hb dX12_mend_28 rfl hl (by decide) rfl (fun ls hl => ?_)
      refine lv_iload_n hx hb dX12_mend_29 rfl (lv_at hl 0 rfl) ?_
      refine lv_aload_n hx hb dX12_mend_30 rfl (lv_at hl 1 rfl) ?_
      refine g_1235 (i := 32) C hH (jM_0 hW) rfl dX12_mend_31 ?_
      refine lv_bipush (v := 37) hx hb dX12_mend_34 (by decide) ?_
      refine h_iald C hH (jM_32 hW).1 (jM_32 hW).2.1 (by decide) dX12_mend_36 ?_
      refine h_topi (y := μ7.1 32 37) rfl ?_
      refine lv_icmp_le (tgt := 42) hx hb dX12_mend_37 (by decide) (fun hc => ?_) (fun hc => ?_)
      · have h := ite_t hc h
        refine lv_aload_n hx hb dX12_mend_42 rfl (lv_at hl 1 rfl) ?_
        refine g_1235 (i := 32) C hH (jM_0 hW) rfl dX12_mend_43 ?_
        refine lv_iload_n hx hb dX12_mend_46 rfl (lv_at hl 2 rfl) ?_
        refine lv_dup2_11 hx hb dX12_mend_47 rfl rfl ?_
        obtain ⟨b9, h⟩ := gd_e h
        refine h_iald C hH (jM_32 hW).1 (jM_32 hW).2.1 b9 dX12_mend_48 ?_
        refine lv_iconst (v := 1) hx hb dX12_mend_49 (by decide) ?_
        refine lv_isub hx hb dX12_mend_50 ?_
        obtain ⟨b10, h⟩ := gd_e h
        obtain ⟨μ11, e12, h⟩ := bd_e h
        refine h_iast C hH hS (jM_32 hW).1 (jM_32 hW).2.1 b10 dX12_mend_51 (fun H locs hH hS => ?_)
        have hH := Hd.to e12 hH
        refine lv_aload_n hx hb dX12_mend_52 rfl (lv_at hl 1 rfl) ?_
        refine g_1235 (i := 32) C hH (jM_0 hW) rfl dX12_mend_53 ?_
        refine lv_bipush (v := 37) hx hb dX12_mend_56 (by decide) ?_
        refine lv_dup2_11 hx hb dX12_mend_58 rfl rfl ?_
        refine h_iald C hH (jM_32 hW).1 (jM_32 hW).2.1 (by decide) dX12_mend_59 ?_
        refine h_topi (y := μ11.1 32 37) rfl ?_
        refine lv_iload_n hx hb dX12_mend_60 rfl (lv_at hl 0 rfl) ?_
        refine lv_isub hx hb dX12_mend_61 ?_
        obtain ⟨μ13, e14, h⟩ := bd_e h
        refine h_iast C hH hS (jM_32 hW).1 (jM_32 hW).2.1 (by decide) dX12_mend_62 (fun H locs hH hS => ?_)
        have hH := Hd.to e14 hH
        refine lv_aload_n hx hb dX12_mend_63 rfl (lv_at hl 1 rfl) ?_
        obtain ⟨μ16, e15, h⟩ := b1_e h
        refine cVv (as := []) (rest := []) (c_X12_records hW e15) C hl.1 hH hS rfl (jM_0 hW) rfl wd_65 wd_1561 mw_X12_records wd_1559 rfl (rm_ok (by decide) (by decide)) (Nat.le_of_ble_eq_true rfl) ⟨Nat.zero_le _, Nat.zero_le _⟩ (by decide) dX12_mend_64 (fun H locs hH hS => ?_)
        refine lv_iload_n hx hb dX12_mend_67 rfl (lv_at hl 0 rfl) ?_
        exact h_iret C hr hk hH hS rfl (by cases h; rfl) dX12_mend_68
      · have h := ite_f hc h
        refine lv_iconst (v := (-1)) hx hb dX12_mend_40 (by decide) ?_
        exact h_iret C hr hk hH hS rfl (by cases h; rfl) dX12_mend_41
    · have h := ite_t hc h
      refine lv_iconst (v := (-1)) hx hb dX12_mend_17 (by decide) ?_
      exact h_iret C hr hk hH hS rfl (by cases h; rfl) dX12_mend_18
theorem c_X12_mend {l : Launch} {ω : WW} {x1 : Int32} (hW : FWM ω) {μ : Mem} {rr : Int32} {μo : Mem} (h : fX12_mend x1 μ = some (rr, μo)) : Con l yX12_mend cX12_mend 3 (some .int) 5 ω [.ref (wB ω + 0), .int x1] μ (some (.int rr)) μo :=
  con_of (by decide) (Nat.le_of_ble_eq_true rfl) (fun p e s m args below meth c ls C hr hk hl hH hS => wX12_mend_e hW C hr hk hH hS (lv_sub hl [0, 1] rfl) h)
set_option maxHeartbeats 4000000 in
set_option maxRecDepth 100000 in
theorem wX12_must_e (hW : FWM ω) (C : Cx ω p s m args c cX12_must 2 RX12) (hr : meth.sig.returnType = none) (hk : meth.locks = false) {μo : Mem} {x1 : Int32} {μ : Mem} {H : Heap} {locs : List Loc} {ls : Array Slot} (hH : Hd ω μ H) (hS : FS ω s H locs) (hl : lv_has ls 2 [(0, .ref (wB ω + 0)), (1, .int x1)]) (h : fX12_must x1 μ = some μo) : W p l e (rmd 3) s m args below meth c H locs 0 0 (MQ below (QR ω none μo) args s 0 0 (wA ω)) (F0 m 0 ls []) := by
  have hx := C.1
  have hb := C.2.1
  unfold fX12_must at h
  refine lv_aload_n hx hb dX12_must_0 rfl (lv_at hl 0 rfl) ?_
  refine lv_iload_n hx hb dX12_must_1 rfl (lv_at hl 1 rfl) ?_
  obtain ⟨r2, e1, h⟩ := b1_e h
  refine cVi (as := [.int x1]) (rest := []) (c_X12_is hW e1) C hl.1 hH hS rfl (jM_0 hW) rfl wd_38 wd_1435 mw_X12_is wd_1433 rfl (rm_ok (by decide) (by decide)) (Nat.le_of_ble_eq_true rfl) ⟨Nat.zero_le _, Nat.zero_le _⟩ (by decide) dX12_must_2 (fun H locs hH hS => ?_)
  refine lv_if_eq (tgt := 15) hx hb dX12_must_5 (by decide) (fun hc => ?_) (fun hc => ?_)
  · have h := ite_t hc h
    refine lv_aload_n hx hb dX12_must_15 rfl (lv_at hl 0 rfl) ?_
    refine lv_iconst (v := 1) hx hb dX12_must_16 (by decide) ?_
    obtain ⟨μ4, e3, h⟩ := b1_e h
    refine cVv (as := [.int 1]) (rest := []) (c_X12_fail hW e3) C hl.1 hH hS rfl (jM_0 hW) rfl wd_40 wd_1443 mw_X12_fail wd_1441 rfl (rm_ok (by decide) (by decide)) (Nat.le_of_ble_eq_true rfl) ⟨Nat.zero_le _, Nat.zero_le _⟩ (by decide) dX12_must_17 (fun H locs hH hS => ?_)
    exact h_vret C hr hk hH hS (by cases h; rfl) dX12_must_20
  · have h := ite_f hc h
    refine lv_aload_n hx hb dX12_must_8 rfl (lv_at hl 0 rfl) ?_
    obtain ⟨μ6, e5, h⟩ := b1_e h
    refine cVv (as := []) (rest := []) (c_X12_goesOn hW e5) C hl.1 hH hS rfl (jM_0 hW) rfl wd_42 wd_1451 mw_X12_goesOn wd_1449 rfl (rm_ok (by decide) (by decide)) (Nat.le_of_ble_eq_true rfl) ⟨Nat.zero_le _, Nat.zero_le _⟩ (by decide) dX12_must_9 (fun H locs hH hS => ?_)
    refine lv_goto (tgt := 20) hx hb dX12_must_12 (by decide) ?_
    exact h_vret C hr hk hH hS (by cases h; rfl) dX12_must_20
theorem c_X12_must {l : Launch} {ω : WW} {x1 : Int32} (hW : FWM ω) {μ : Mem} {μo : Mem} (h : fX12_must x1 μ = some μo) : Con l yX12_must cX12_must 2 none 3 ω [.ref (wB ω + 0), .int x1] μ none μo :=
  con_of (by decide) (Nat.le_of_ble_eq_true rfl) (fun p e s m args below meth c ls C hr hk hl hH hS => wX12_must_e hW C hr hk hH hS (lv_sub hl [0, 1] rfl) h)
set_option maxHeartbeats 4000000 in
set_option maxRecDepth 100000 in
theorem wX12_nearestIn_s6 (hW : FWM ω) (C : Cx ω p s m args c cX12_nearestIn 5 RX12) (hr : meth.sig.returnType = some .int) (hk : meth.locks = false) {rr : Int32} {μ : Mem} {x1 : Int32} {x2 : Int32} {x3 : Int32} {x4 : Int32} {rec : Int32 → Int32 → Option Int32} (hrec : ∀ (z3 : Int32) (z4 : Int32) (H : Heap) (locs : List Loc) (ls : Array Slot), Hd ω μ H → FS ω s H locs → lv_has ls 5 [(0, .ref (wB ω + 0)), (1, .int x1), (2, .int x2), (3, .int z3), (4, .int z4)] → rec z3 z4 = some rr → W p l e (rmd 3) s m args below meth c H locs 0 0 (MQ below (QR ω (some (.int rr)) μ) args s 0 0 (wA ω)) (F0 m 6 ls [])) {H : Heap} {locs : List Loc} {ls : Array Slot} (hH : Hd ω μ H) (hS : FS ω s H locs) (hl : lv_has ls 5 [(0, .ref (wB ω + 0)), (1, .int x1), (2, .int x2), (3, .int x3), (4, .int x4)]) (h : fX12_nearestIn_s6 rec x1 x2 x3 x4 μ = some rr) : W p l e (rmd 3) s m args below meth c H locs 0 0 (MQ below (QR ω (some (.int rr)) μ) args s 0 0 (wA ω)) (F0 m 6 ls []) := by
  have hx := C.1
  have hb := C.2.1
  unfold fX12_nearestIn_s6 at h
  refine lv_iload hx hb dX12_nearestIn_6 (lv_at hl 4 rfl) ?_
  refine lv_aload_n hx hb dX12_nearestIn_8 rfl (lv_at hl 0 rfl) ?_
  obtain ⟨r2, e1, h⟩ := b1_e h
  refine cVi (as := []) (rest := [.int x4]) (c_X12_many hW e1) C hl.1 hH hS rfl (jM_0 hW) rfl wd_31 wd_1182 mw_X12_many wd_1180 rfl (rm_ok (by decide) (by decide)) (Nat.le_of_ble_eq_true rfl) ⟨Nat.zero_le _, Nat.zero_le _⟩ (by decide) dX12_nearestIn_9 (fun H locs hH hS => ?_)
  refine lv_icmp_ge (tgt := 54) hx hb dX12_nearestIn_12 (by decide) (fun hc => ?_) (fun hc => ?_)
  · have h := ite_t hc h
    refine lv_iload_n hx hb dX12_nearestIn_54 rfl (lv_at hl 3 rfl) ?_
    exact h_iret C hr hk hH hS rfl (by cases h; rfl) dX12_nearestIn_55
  · have h := ite_f hc h
    refine lv_iload_n hx hb dX12_nearestIn_15 rfl (lv_at hl 2 rfl) ?_
    refine lv_iload hx hb dX12_nearestIn_16 (lv_at hl 4 rfl) ?_
    refine lv_ishr hx hb dX12_nearestIn_18 ?_
    refine lv_iconst (v := 1) hx hb dX12_nearestIn_19 (by decide) ?_
    refine lv_iand hx hb dX12_nearestIn_20 ?_
    refine lv_iconst (v := 1) hx hb dX12_nearestIn_21 (by decide) ?_
    refine lv_icmp_ne (tgt := 48) hx hb dX12_nearestIn_22 (by decide) (fun hc => ?_) (fun hc => ?_)
    · have h := ite_f hc h
      refine lv_iinc (v := x4 + 1) (lv' := [(4, .int (x4 + 1)), (0, .ref (wB ω + 0)), (1, .int x1), (2, .int x2), (3, .int x3)]) hx hb dX12_nearestIn_48 hl (k := 4) rfl rfl (by decide) rfl (fun ls hl => ?_)
      refine lv_goto (tgt := 6) hx hb dX12_nearestIn_51 (by decide) ?_
      exact hrec _ _ H locs ls hH hS (lv_sub hl [1, 2, 3, 4, 0] rfl) h
    · have h := ite_t hc h
      refine lv_iload_n hx hb dX12_nearestIn_25 rfl (lv_at hl 3 rfl) ?_
      refine lv_if_lt (tgt := 45) hx hb dX12_nearestIn_26 (by decide) (fun hc => ?_) (fun hc => ?_)
      · have h := ite_t hc h
        refine lv_iload hx hb dX12_nearestIn_45 (lv_at hl 4 rfl) ?_
        refine lv_istore_n (lv' := [(3, .int x4), (0, .ref (wB ω + 0)), (1, .int x1), (2, .int x2), (4, .int x4)]) hx hb dX12_nearestIn_47 rfl hl (by decide) rfl (fun ls hl => ?_)
        refine lv_iinc (v := x4 + 1) (lv' := [(4, .int (x4 + 1)), (3, .int x4), (0, .ref (wB ω + 0)), (1, .int x1), (2, .int x2)]) hx hb dX12_nearestIn_48 hl (k := 4) rfl rfl (by decide) rfl (fun ls hl => ?_)
        refine lv_goto (tgt := 6) hx hb dX12_nearestIn_51 (by decide) ?_
        exact hrec _ _ H locs ls hH hS (lv_sub hl [2, 3, 4, 1, 0] rfl) h
      · have h := ite_f hc h
        refine lv_aload_n hx hb dX12_nearestIn_29 rfl (lv_at hl 0 rfl) ?_
        refine lv_iload_n hx hb dX12_nearestIn_30 rfl (lv_at hl 1 rfl) ?_
        refine lv_iload hx hb dX12_nearestIn_31 (lv_at hl 4 rfl) ?_
        obtain ⟨r4, e3, h⟩ := b1_e h
        refine cVi (as := [.int x1, .int x4]) (rest := []) (c_X12_farOf hW e3) C hl.1 hH hS rfl (jM_0 hW) rfl wd_84 wd_1716 mw_X12_farOf wd_1714 rfl (rm_ok (by decide) (by decide)) (Nat.le_of_ble_eq_true rfl) ⟨Nat.zero_le _, Nat.zero_le _⟩ (by decide) dX12_nearestIn_33 (fun H locs hH hS => ?_)
        refine lv_aload_n hx hb dX12_nearestIn_36 rfl (lv_at hl 0 rfl) ?_
        refine lv_iload_n hx hb dX12_nearestIn_37 rfl (lv_at hl 1 rfl) ?_
        refine lv_iload_n hx hb dX12_nearestIn_38 rfl (lv_at hl 3 rfl) ?_
        obtain ⟨r6, e5, h⟩ := b1_e h
        refine cVi (as := [.int x1, .int x3]) (rest := [.int r4]) (c_X12_farOf hW e5) C hl.1 hH hS rfl (jM_0 hW) rfl wd_84 wd_1716 mw_X12_farOf wd_1714 rfl (rm_ok (by decide) (by decide)) (Nat.le_of_ble_eq_true rfl) ⟨Nat.zero_le _, Nat.zero_le _⟩ (by decide) dX12_nearestIn_39 (fun H locs hH hS => ?_)
        refine lv_icmp_ge (tgt := 48) hx hb dX12_nearestIn_42 (by decide) (fun hc => ?_) (fun hc => ?_)
        · have h := ite_t hc h
          refine lv_iinc (v := x4 + 1) (lv' := [(4, .int (x4 + 1)), (0, .ref (wB ω + 0)), (1, .int x1), (2, .int x2), (3, .int x3)]) hx hb dX12_nearestIn_48 hl (k := 4) rfl rfl (by decide) rfl (fun ls hl => ?_)
          refine lv_goto (tgt := 6) hx hb dX12_nearestIn_51 (by decide) ?_
          exact hrec _ _ H locs ls hH hS (lv_sub hl [1, 2, 3, 4, 0] rfl) h
        · have h := ite_f hc h
          refine lv_iload hx hb dX12_nearestIn_45 (lv_at hl 4 rfl) ?_
          refine lv_istore_n (lv' := [(3, .int x4), (0, .ref (wB ω + 0)), (1, .int x1), (2, .int x2), (4, .int x4)]) hx hb dX12_nearestIn_47 rfl hl (by decide) rfl (fun ls hl => ?_)
          refine lv_iinc (v := x4 + 1) (lv' := [(4, .int (x4 + 1)), (3, .int x4), (0, .ref (wB ω + 0)), (1, .int x1), (2, .int x2)]) hx hb dX12_nearestIn_48 hl (k := 4) rfl rfl (by decide) rfl (fun ls hl => ?_)
          refine lv_goto (tgt := 6) hx hb dX12_nearestIn_51 (by decide) ?_
          exact hrec _ _ H locs ls hH hS (lv_sub hl [2, 3, 4, 1, 0] rfl) h
theorem wX12_nearestIn_l6 (hW : FWM ω) (C : Cx ω p s m args c cX12_nearestIn 5 RX12) (hr : meth.sig.returnType = some .int) (hk : meth.locks = false) {rr : Int32} {μ : Mem} {x1 : Int32} {x2 : Int32} : ∀ (n : Nat) (x3 : Int32) (x4 : Int32) (H : Heap) (locs : List Loc) (ls : Array Slot), Hd ω μ H → FS ω s H locs → lv_has ls 5 [(0, .ref (wB ω + 0)), (1, .int x1), (2, .int x2), (3, .int x3), (4, .int x4)] → fX12_nearestIn_l6 x1 x2 μ n x3 x4 = some rr → W p l e (rmd 3) s m args below meth c H locs 0 0 (MQ below (QR ω (some (.int rr)) μ) args s 0 0 (wA ω)) (F0 m 6 ls []) := by
  intro n
  induction n with
  | zero => intro x3 x4 H locs ls hH hS hl h; cases h
  | succ n ih => intro x3 x4 H locs ls hH hS hl h; exact wX12_nearestIn_s6 hW C hr hk ih hH hS hl h
set_option maxHeartbeats 4000000 in
set_option maxRecDepth 100000 in
theorem wX12_nearestIn_e (hW : FWM ω) (C : Cx ω p s m args c cX12_nearestIn 5 RX12) (hr : meth.sig.returnType = some .int) (hk : meth.locks = false) {rr : Int32} {μ : Mem} {x1 : Int32} {x2 : Int32} {H : Heap} {locs : List Loc} {ls : Array Slot} (hH : Hd ω μ H) (hS : FS ω s H locs) (hl : lv_has ls 5 [(0, .ref (wB ω + 0)), (1, .int x1), (2, .int x2)]) (h : fX12_nearestIn x1 x2 μ = some rr) : W p l e (rmd 3) s m args below meth c H locs 0 0 (MQ below (QR ω (some (.int rr)) μ) args s 0 0 (wA ω)) (F0 m 0 ls []) := by
  have hx := C.1
  have hb := C.2.1
  unfold fX12_nearestIn at h
  refine lv_bipush (v := (-2)) hx hb dX12_nearestIn_0 (by decide) ?_
  refine lv_istore_n (lv' := [(3, .int (-2)), (0, .ref (wB ω + 0)), (1, .int x1), (2, .int x2)]) hx hb dX12_nearestIn_2 rfl hl (by decide) rfl (fun ls hl => ?_)
  refine lv_iconst (v := 0) hx hb dX12_nearestIn_3 (by decide) ?_
  refine lv_istore (lv' := [(4, .int 0), (3, .int (-2)), (0, .ref (wB ω + 0)), (1, .int x1), (2, .int x2)]) hx hb dX12_nearestIn_4 hl (by decide) rfl (fun ls hl => ?_)
  exact wX12_nearestIn_l6 hW C hr hk FU _ _ H locs ls hH hS (lv_sub hl [2, 3, 4, 1, 0] rfl) h
theorem c_X12_nearestIn {l : Launch} {ω : WW} {x1 : Int32} {x2 : Int32} (hW : FWM ω) {μ : Mem} {rr : Int32} (h : fX12_nearestIn x1 x2 μ = some rr) : Con l yX12_nearestIn cX12_nearestIn 5 (some .int) 3 ω [.ref (wB ω + 0), .int x1, .int x2] μ (some (.int rr)) μ :=
  con_of (by decide) (Nat.le_of_ble_eq_true rfl) (fun p e s m args below meth c ls C hr hk hl hH hS => wX12_nearestIn_e hW C hr hk hH hS (lv_sub hl [0, 1, 2] rfl) h)
set_option maxHeartbeats 4000000 in
set_option maxRecDepth 100000 in
theorem wX12_nearest_e (hW : FWM ω) (C : Cx ω p s m args c cX12_nearest 2 RX12) (hr : meth.sig.returnType = some .int) (hk : meth.locks = false) {rr : Int32} {μ : Mem} {x1 : Int32} {H : Heap} {locs : List Loc} {ls : Array Slot} (hH : Hd ω μ H) (hS : FS ω s H locs) (hl : lv_has ls 2 [(0, .ref (wB ω + 0)), (1, .int x1)]) (h : fX12_nearest x1 μ = some rr) : W p l e (rmd 4) s m args below meth c H locs 0 0 (MQ below (QR ω (some (.int rr)) μ) args s 0 0 (wA ω)) (F0 m 0 ls []) := by
  have hx := C.1
  have hb := C.2.1
  unfold fX12_nearest at h
  refine lv_aload_n hx hb dX12_nearest_0 rfl (lv_at hl 0 rfl) ?_
  refine lv_iload_n hx hb dX12_nearest_1 rfl (lv_at hl 1 rfl) ?_
  obtain ⟨r2, e1, h⟩ := b1_e h
  refine cVi (as := [.int x1]) (rest := []) (c_X12_isHouse hW e1) C hl.1 hH hS rfl (jM_0 hW) rfl wd_53 wd_1503 mw_X12_isHouse wd_1501 rfl (rm_ok (by decide) (by decide)) (Nat.le_of_ble_eq_true rfl) ⟨Nat.zero_le _, Nat.zero_le _⟩ (by decide) dX12_nearest_2 (fun H locs hH hS => ?_)
  refine lv_if_eq (tgt := 30) hx hb dX12_nearest_5 (by decide) (fun hc => ?_) (fun hc => ?_)
  · have h := ite_t hc h
    refine lv_iconst (v := (-1)) hx hb dX12_nearest_30 (by decide) ?_
    exact h_iret C hr hk hH hS rfl (by cases h; rfl) dX12_nearest_31
  · have h := ite_f hc h
    refine lv_aload_n hx hb dX12_nearest_8 rfl (lv_at hl 0 rfl) ?_
    refine lv_iload_n hx hb dX12_nearest_9 rfl (lv_at hl 1 rfl) ?_
    refine lv_iconst (v := 1) hx hb dX12_nearest_10 (by decide) ?_
    refine lv_aload_n hx hb dX12_nearest_11 rfl (lv_at hl 0 rfl) ?_
    obtain ⟨r4, e3, h⟩ := b1_e h
    refine cVi (as := []) (rest := [.int 1, .int x1, .ref (wB ω + 0)]) (c_X12_many hW e3) C hl.1 hH hS rfl (jM_0 hW) rfl wd_31 wd_1182 mw_X12_many wd_1180 rfl (rm_ok (by decide) (by decide)) (Nat.le_of_ble_eq_true rfl) ⟨Nat.zero_le _, Nat.zero_le _⟩ (by decide) dX12_nearest_12 (fun H locs hH hS => ?_)
    refine lv_ishl hx hb dX12_nearest_15 ?_
    refine lv_iconst (v := 1) hx hb dX12_nearest_16 (by decide) ?_
    refine lv_isub hx hb dX12_nearest_17 ?_
    refine lv_iconst (v := 1) hx hb dX12_nearest_18 (by decide) ?_
    refine lv_iload_n hx hb dX12_nearest_19 rfl (lv_at hl 1 rfl) ?_
    refine lv_ishl hx hb dX12_nearest_20 ?_
    refine lv_iconst (v := (-1)) hx hb dX12_nearest_21 (by decide) ?_
    refine lv_ixor hx hb dX12_nearest_22 ?_
    refine lv_iand hx hb dX12_nearest_23 ?_
    obtain ⟨r6, e5, h⟩ := b1_e h
    refine cVi (as := [.int x1, .int ((((1 : Int32) <<< (r4 &&& 31)) - 1) &&& (((1 : Int32) <<< (x1 &&& 31)) ^^^ (-1)))]) (rest := []) (c_X12_nearestIn hW e5) C hl.1 hH hS rfl (jM_0 hW) rfl wd_87 wd_1743 mw_X12_nearestIn wd_1741 rfl (rm_ok (by decide) (by decide)) (Nat.le_of_ble_eq_true rfl) ⟨Nat.zero_le _, Nat.zero_le _⟩ (by decide) dX12_nearest_24 (fun H locs hH hS => ?_)
    refine lv_goto (tgt := 31) hx hb dX12_nearest_27 (by decide) ?_
    exact h_iret C hr hk hH hS rfl (by cases h; rfl) dX12_nearest_31
theorem c_X12_nearest {l : Launch} {ω : WW} {x1 : Int32} (hW : FWM ω) {μ : Mem} {rr : Int32} (h : fX12_nearest x1 μ = some rr) : Con l yX12_nearest cX12_nearest 2 (some .int) 4 ω [.ref (wB ω + 0), .int x1] μ (some (.int rr)) μ :=
  con_of (by decide) (Nat.le_of_ble_eq_true rfl) (fun p e s m args below meth c ls C hr hk hl hH hS => wX12_nearest_e hW C hr hk hH hS (lv_sub hl [0, 1] rfl) h)
end WK11
