theorem dX12_comesOut_0 : decode cX12_comesOut 0 = .ok (.aload_n 0, 1) := by decide +kernel
theorem dX12_comesOut_1 : decode cX12_comesOut 1 = .ok (.getfield 292, 3) := by decide +kernel
theorem dX12_comesOut_4 : decode cX12_comesOut 4 = .ok (.ifCond .le 87, 3) := by decide +kernel
theorem dX12_comesOut_7 : decode cX12_comesOut 7 = .ok (.aload_n 0, 1) := by decide +kernel
theorem dX12_comesOut_8 : decode cX12_comesOut 8 = .ok (.getfield 101, 3) := by decide +kernel
theorem dX12_comesOut_11 : decode cX12_comesOut 11 = .ok (.aload_n 0, 1) := by decide +kernel
theorem dX12_comesOut_12 : decode cX12_comesOut 12 = .ok (.getfield 292, 3) := by decide +kernel
theorem dX12_comesOut_15 : decode cX12_comesOut 15 = .ok (.iconst 1, 1) := by decide +kernel
theorem dX12_comesOut_16 : decode cX12_comesOut 16 = .ok (.isub, 1) := by decide +kernel
theorem dX12_comesOut_17 : decode cX12_comesOut 17 = .ok (.iaload, 1) := by decide +kernel
theorem dX12_comesOut_18 : decode cX12_comesOut 18 = .ok (.istore_n 2, 1) := by decide +kernel
theorem dX12_comesOut_19 : decode cX12_comesOut 19 = .ok (.iload_n 2, 1) := by decide +kernel
theorem dX12_comesOut_20 : decode cX12_comesOut 20 = .ok (.bipush 6, 2) := by decide +kernel
theorem dX12_comesOut_22 : decode cX12_comesOut 22 = .ok (.if_icmp .eq 19, 3) := by decide +kernel
theorem dX12_comesOut_25 : decode cX12_comesOut 25 = .ok (.iload_n 1, 1) := by decide +kernel
theorem dX12_comesOut_26 : decode cX12_comesOut 26 = .ok (.ifCond .eq 16, 3) := by decide +kernel
theorem dX12_comesOut_29 : decode cX12_comesOut 29 = .ok (.iload_n 2, 1) := by decide +kernel
theorem dX12_comesOut_30 : decode cX12_comesOut 30 = .ok (.bipush 8, 2) := by decide +kernel
theorem dX12_comesOut_32 : decode cX12_comesOut 32 = .ok (.if_icmp .eq 9, 3) := by decide +kernel
theorem dX12_comesOut_35 : decode cX12_comesOut 35 = .ok (.iload_n 2, 1) := by decide +kernel
theorem dX12_comesOut_36 : decode cX12_comesOut 36 = .ok (.bipush 9, 2) := by decide +kernel
theorem dX12_comesOut_38 : decode cX12_comesOut 38 = .ok (.if_icmp .ne 4, 3) := by decide +kernel
theorem dX12_comesOut_41 : decode cX12_comesOut 41 = .ok (.return_, 1) := by decide +kernel
theorem dX12_comesOut_42 : decode cX12_comesOut 42 = .ok (.aload_n 0, 1) := by decide +kernel
theorem dX12_comesOut_43 : decode cX12_comesOut 43 = .ok (.dup, 1) := by decide +kernel
theorem dX12_comesOut_44 : decode cX12_comesOut 44 = .ok (.getfield 292, 3) := by decide +kernel
theorem dX12_comesOut_47 : decode cX12_comesOut 47 = .ok (.iconst 1, 1) := by decide +kernel
theorem dX12_comesOut_48 : decode cX12_comesOut 48 = .ok (.isub, 1) := by decide +kernel
theorem dX12_comesOut_49 : decode cX12_comesOut 49 = .ok (.putfield 292, 3) := by decide +kernel
theorem dX12_comesOut_52 : decode cX12_comesOut 52 = .ok (.aload_n 0, 1) := by decide +kernel
theorem dX12_comesOut_53 : decode cX12_comesOut 53 = .ok (.iload_n 2, 1) := by decide +kernel
theorem dX12_comesOut_54 : decode cX12_comesOut 54 = .ok (.bipush 8, 2) := by decide +kernel
theorem dX12_comesOut_56 : decode cX12_comesOut 56 = .ok (.if_icmp .ne 7, 3) := by decide +kernel
theorem dX12_comesOut_59 : decode cX12_comesOut 59 = .ok (.iconst 2, 1) := by decide +kernel
theorem dX12_comesOut_60 : decode cX12_comesOut 60 = .ok (.goto 24, 3) := by decide +kernel
theorem dX12_comesOut_63 : decode cX12_comesOut 63 = .ok (.iload_n 2, 1) := by decide +kernel
theorem dX12_comesOut_64 : decode cX12_comesOut 64 = .ok (.bipush 9, 2) := by decide +kernel
theorem dX12_comesOut_66 : decode cX12_comesOut 66 = .ok (.if_icmp .ne 7, 3) := by decide +kernel
theorem dX12_comesOut_69 : decode cX12_comesOut 69 = .ok (.iconst 3, 1) := by decide +kernel
theorem dX12_comesOut_70 : decode cX12_comesOut 70 = .ok (.goto 14, 3) := by decide +kernel
theorem dX12_comesOut_73 : decode cX12_comesOut 73 = .ok (.iload_n 2, 1) := by decide +kernel
theorem dX12_comesOut_74 : decode cX12_comesOut 74 = .ok (.bipush 10, 2) := by decide +kernel
theorem dX12_comesOut_76 : decode cX12_comesOut 76 = .ok (.if_icmp .ne 7, 3) := by decide +kernel
theorem dX12_comesOut_79 : decode cX12_comesOut 79 = .ok (.iconst 4, 1) := by decide +kernel
theorem dX12_comesOut_80 : decode cX12_comesOut 80 = .ok (.goto 4, 3) := by decide +kernel
theorem dX12_comesOut_83 : decode cX12_comesOut 83 = .ok (.iconst 5, 1) := by decide +kernel
theorem dX12_comesOut_84 : decode cX12_comesOut 84 = .ok (.iconst 0, 1) := by decide +kernel
theorem dX12_comesOut_85 : decode cX12_comesOut 85 = .ok (.invokevirtual 295, 3) := by decide +kernel
theorem dX12_comesOut_88 : decode cX12_comesOut 88 = .ok (.goto (-88), 3) := by decide +kernel
theorem dX12_comesOut_91 : decode cX12_comesOut 91 = .ok (.return_, 1) := by decide +kernel
theorem dX12_sumNow_0 : decode cX12_sumNow 0 = .ok (.iconst 0, 1) := by decide +kernel
theorem dX12_sumNow_1 : decode cX12_sumNow 1 = .ok (.istore_n 2, 1) := by decide +kernel
theorem dX12_sumNow_2 : decode cX12_sumNow 2 = .ok (.iload_n 1, 1) := by decide +kernel
theorem dX12_sumNow_3 : decode cX12_sumNow 3 = .ok (.istore_n 3, 1) := by decide +kernel
theorem dX12_sumNow_4 : decode cX12_sumNow 4 = .ok (.iload_n 3, 1) := by decide +kernel
theorem dX12_sumNow_5 : decode cX12_sumNow 5 = .ok (.iload_n 1, 1) := by decide +kernel
theorem dX12_sumNow_6 : decode cX12_sumNow 6 = .ok (.bipush 6, 2) := by decide +kernel
theorem dX12_sumNow_8 : decode cX12_sumNow 8 = .ok (.iadd, 1) := by decide +kernel
theorem dX12_sumNow_9 : decode cX12_sumNow 9 = .ok (.if_icmp .ge 18, 3) := by decide +kernel
theorem dX12_sumNow_12 : decode cX12_sumNow 12 = .ok (.iload_n 2, 1) := by decide +kernel
theorem dX12_sumNow_13 : decode cX12_sumNow 13 = .ok (.aload_n 0, 1) := by decide +kernel
theorem dX12_sumNow_14 : decode cX12_sumNow 14 = .ok (.getfield 110, 3) := by decide +kernel
theorem dX12_sumNow_17 : decode cX12_sumNow 17 = .ok (.iload_n 3, 1) := by decide +kernel
theorem dX12_sumNow_18 : decode cX12_sumNow 18 = .ok (.iaload, 1) := by decide +kernel
theorem dX12_sumNow_19 : decode cX12_sumNow 19 = .ok (.iadd, 1) := by decide +kernel
theorem dX12_sumNow_20 : decode cX12_sumNow 20 = .ok (.istore_n 2, 1) := by decide +kernel
theorem dX12_sumNow_21 : decode cX12_sumNow 21 = .ok (.iinc 3 1, 3) := by decide +kernel
theorem dX12_sumNow_24 : decode cX12_sumNow 24 = .ok (.goto (-20), 3) := by decide +kernel
theorem dX12_sumNow_27 : decode cX12_sumNow 27 = .ok (.iload_n 2, 1) := by decide +kernel
theorem dX12_sumNow_28 : decode cX12_sumNow 28 = .ok (.ireturn, 1) := by decide +kernel
theorem dX12_noneBits_0 : decode cX12_noneBits 0 = .ok (.iconst 0, 1) := by decide +kernel
theorem dX12_noneBits_1 : decode cX12_noneBits 1 = .ok (.istore_n 2, 1) := by decide +kernel
theorem dX12_noneBits_2 : decode cX12_noneBits 2 = .ok (.iconst 0, 1) := by decide +kernel
theorem dX12_noneBits_3 : decode cX12_noneBits 3 = .ok (.istore_n 3, 1) := by decide +kernel
theorem dX12_noneBits_4 : decode cX12_noneBits 4 = .ok (.iload_n 3, 1) := by decide +kernel
theorem dX12_noneBits_5 : decode cX12_noneBits 5 = .ok (.aload_n 0, 1) := by decide +kernel
theorem dX12_noneBits_6 : decode cX12_noneBits 6 = .ok (.invokevirtual 309, 3) := by decide +kernel
theorem dX12_noneBits_9 : decode cX12_noneBits 9 = .ok (.if_icmp .ge 26, 3) := by decide +kernel
theorem dX12_noneBits_12 : decode cX12_noneBits 12 = .ok (.aload_n 0, 1) := by decide +kernel
theorem dX12_noneBits_13 : decode cX12_noneBits 13 = .ok (.getfield 110, 3) := by decide +kernel
theorem dX12_noneBits_16 : decode cX12_noneBits 16 = .ok (.iload_n 1, 1) := by decide +kernel
theorem dX12_noneBits_17 : decode cX12_noneBits 17 = .ok (.iload_n 3, 1) := by decide +kernel
theorem dX12_noneBits_18 : decode cX12_noneBits 18 = .ok (.iadd, 1) := by decide +kernel
theorem dX12_noneBits_19 : decode cX12_noneBits 19 = .ok (.iaload, 1) := by decide +kernel
theorem dX12_noneBits_20 : decode cX12_noneBits 20 = .ok (.ifCond .ne 9, 3) := by decide +kernel
theorem dX12_noneBits_23 : decode cX12_noneBits 23 = .ok (.iload_n 2, 1) := by decide +kernel
theorem dX12_noneBits_24 : decode cX12_noneBits 24 = .ok (.iconst 1, 1) := by decide +kernel
theorem dX12_noneBits_25 : decode cX12_noneBits 25 = .ok (.iload_n 3, 1) := by decide +kernel
theorem dX12_noneBits_26 : decode cX12_noneBits 26 = .ok (.ishl, 1) := by decide +kernel
theorem dX12_noneBits_27 : decode cX12_noneBits 27 = .ok (.ior, 1) := by decide +kernel
theorem dX12_noneBits_28 : decode cX12_noneBits 28 = .ok (.istore_n 2, 1) := by decide +kernel
theorem dX12_noneBits_29 : decode cX12_noneBits 29 = .ok (.iinc 3 1, 3) := by decide +kernel
theorem dX12_noneBits_32 : decode cX12_noneBits 32 = .ok (.goto (-28), 3) := by decide +kernel
theorem dX12_noneBits_35 : decode cX12_noneBits 35 = .ok (.iload_n 2, 1) := by decide +kernel
theorem dX12_noneBits_36 : decode cX12_noneBits 36 = .ok (.ireturn, 1) := by decide +kernel
theorem dX12_count_0 : decode cX12_count 0 = .ok (.aload_n 0, 1) := by decide +kernel
theorem dX12_count_1 : decode cX12_count 1 = .ok (.invokevirtual 323, 3) := by decide +kernel
theorem dX12_count_4 : decode cX12_count 4 = .ok (.iconst 0, 1) := by decide +kernel
theorem dX12_count_5 : decode cX12_count 5 = .ok (.istore_n 2, 1) := by decide +kernel
theorem dX12_count_6 : decode cX12_count 6 = .ok (.iload_n 1, 1) := by decide +kernel
theorem dX12_count_7 : decode cX12_count 7 = .ok (.tableswitch 323 0 19 #[93, 98, 106, 114, 121, 128, 134, 152, 159, 164, 169, 174, 219, 232, 258, 266, 292, 299, 306, 316], 93) := by decide +kernel
theorem dX12_count_100 : decode cX12_count 100 = .ok (.aload_n 0, 1) := by decide +kernel
theorem dX12_count_101 : decode cX12_count 101 = .ok (.invokevirtual 309, 3) := by decide +kernel
theorem dX12_count_104 : decode cX12_count 104 = .ok (.ireturn, 1) := by decide +kernel
theorem dX12_count_105 : decode cX12_count 105 = .ok (.aload_n 0, 1) := by decide +kernel
theorem dX12_count_106 : decode cX12_count 106 = .ok (.getfield 113, 3) := by decide +kernel
theorem dX12_count_109 : decode cX12_count 109 = .ok (.bipush 36, 2) := by decide +kernel
theorem dX12_count_111 : decode cX12_count 111 = .ok (.iaload, 1) := by decide +kernel
theorem dX12_count_112 : decode cX12_count 112 = .ok (.ireturn, 1) := by decide +kernel
theorem dX12_count_113 : decode cX12_count 113 = .ok (.aload_n 0, 1) := by decide +kernel
theorem dX12_count_114 : decode cX12_count 114 = .ok (.getfield 113, 3) := by decide +kernel
theorem dX12_count_117 : decode cX12_count 117 = .ok (.bipush 37, 2) := by decide +kernel
theorem dX12_count_119 : decode cX12_count 119 = .ok (.iaload, 1) := by decide +kernel
theorem dX12_count_120 : decode cX12_count 120 = .ok (.ireturn, 1) := by decide +kernel
theorem dX12_count_121 : decode cX12_count 121 = .ok (.aload_n 0, 1) := by decide +kernel
theorem dX12_count_122 : decode cX12_count 122 = .ok (.bipush 12, 2) := by decide +kernel
theorem dX12_count_124 : decode cX12_count 124 = .ok (.invokevirtual 474, 3) := by decide +kernel
theorem dX12_count_127 : decode cX12_count 127 = .ok (.ireturn, 1) := by decide +kernel
theorem dX12_count_128 : decode cX12_count 128 = .ok (.aload_n 0, 1) := by decide +kernel
theorem dX12_count_129 : decode cX12_count 129 = .ok (.bipush 6, 2) := by decide +kernel
theorem dX12_count_131 : decode cX12_count 131 = .ok (.invokevirtual 474, 3) := by decide +kernel
theorem dX12_count_134 : decode cX12_count 134 = .ok (.ireturn, 1) := by decide +kernel
theorem dX12_count_135 : decode cX12_count 135 = .ok (.aload_n 0, 1) := by decide +kernel
theorem dX12_count_136 : decode cX12_count 136 = .ok (.iconst 0, 1) := by decide +kernel
theorem dX12_count_137 : decode cX12_count 137 = .ok (.invokevirtual 474, 3) := by decide +kernel
theorem dX12_count_140 : decode cX12_count 140 = .ok (.ireturn, 1) := by decide +kernel
theorem dX12_count_141 : decode cX12_count 141 = .ok (.iconst 1, 1) := by decide +kernel
theorem dX12_count_142 : decode cX12_count 142 = .ok (.aload_n 0, 1) := by decide +kernel
theorem dX12_count_143 : decode cX12_count 143 = .ok (.invokevirtual 309, 3) := by decide +kernel
theorem dX12_count_146 : decode cX12_count 146 = .ok (.ishl, 1) := by decide +kernel
theorem dX12_count_147 : decode cX12_count 147 = .ok (.iconst 1, 1) := by decide +kernel
theorem dX12_count_148 : decode cX12_count 148 = .ok (.isub, 1) := by decide +kernel
theorem dX12_count_149 : decode cX12_count 149 = .ok (.aload_n 0, 1) := by decide +kernel
theorem dX12_count_150 : decode cX12_count 150 = .ok (.bipush 18, 2) := by decide +kernel
theorem dX12_count_152 : decode cX12_count 152 = .ok (.invokevirtual 477, 3) := by decide +kernel
theorem dX12_count_155 : decode cX12_count 155 = .ok (.iconst (-1), 1) := by decide +kernel
theorem dX12_count_156 : decode cX12_count 156 = .ok (.ixor, 1) := by decide +kernel
theorem dX12_count_157 : decode cX12_count 157 = .ok (.iand, 1) := by decide +kernel
theorem dX12_count_158 : decode cX12_count 158 = .ok (.ireturn, 1) := by decide +kernel
theorem dX12_count_159 : decode cX12_count 159 = .ok (.aload_n 0, 1) := by decide +kernel
theorem dX12_count_160 : decode cX12_count 160 = .ok (.bipush 12, 2) := by decide +kernel
theorem dX12_count_162 : decode cX12_count 162 = .ok (.invokevirtual 477, 3) := by decide +kernel
theorem dX12_count_165 : decode cX12_count 165 = .ok (.ireturn, 1) := by decide +kernel
theorem dX12_count_166 : decode cX12_count 166 = .ok (.aload_n 0, 1) := by decide +kernel
theorem dX12_count_167 : decode cX12_count 167 = .ok (.getfield 178, 3) := by decide +kernel
theorem dX12_count_170 : decode cX12_count 170 = .ok (.ireturn, 1) := by decide +kernel
theorem dX12_count_171 : decode cX12_count 171 = .ok (.aload_n 0, 1) := by decide +kernel
theorem dX12_count_172 : decode cX12_count 172 = .ok (.getfield 260, 3) := by decide +kernel
theorem dX12_count_175 : decode cX12_count 175 = .ok (.ireturn, 1) := by decide +kernel
theorem dX12_count_176 : decode cX12_count 176 = .ok (.aload_n 0, 1) := by decide +kernel
theorem dX12_count_177 : decode cX12_count 177 = .ok (.getfield 263, 3) := by decide +kernel
theorem dX12_count_180 : decode cX12_count 180 = .ok (.ireturn, 1) := by decide +kernel
theorem dX12_count_181 : decode cX12_count 181 = .ok (.aload_n 0, 1) := by decide +kernel
theorem dX12_count_182 : decode cX12_count 182 = .ok (.getfield 158, 3) := by decide +kernel
theorem dX12_count_185 : decode cX12_count 185 = .ok (.iconst 0, 1) := by decide +kernel
theorem dX12_count_186 : decode cX12_count 186 = .ok (.baload, 1) := by decide +kernel
theorem dX12_count_187 : decode cX12_count 187 = .ok (.ifCond .eq 7, 3) := by decide +kernel
theorem dX12_count_190 : decode cX12_count 190 = .ok (.iconst 1, 1) := by decide +kernel
theorem dX12_count_191 : decode cX12_count 191 = .ok (.goto 4, 3) := by decide +kernel
theorem dX12_count_194 : decode cX12_count 194 = .ok (.iconst 0, 1) := by decide +kernel
theorem dX12_count_195 : decode cX12_count 195 = .ok (.aload_n 0, 1) := by decide +kernel
theorem dX12_count_196 : decode cX12_count 196 = .ok (.getfield 158, 3) := by decide +kernel
theorem dX12_count_199 : decode cX12_count 199 = .ok (.iconst 1, 1) := by decide +kernel
theorem dX12_count_200 : decode cX12_count 200 = .ok (.baload, 1) := by decide +kernel
theorem dX12_count_201 : decode cX12_count 201 = .ok (.ifCond .eq 7, 3) := by decide +kernel
theorem dX12_count_204 : decode cX12_count 204 = .ok (.iconst 1, 1) := by decide +kernel
theorem dX12_count_205 : decode cX12_count 205 = .ok (.goto 4, 3) := by decide +kernel
theorem dX12_count_208 : decode cX12_count 208 = .ok (.iconst 0, 1) := by decide +kernel
theorem dX12_count_209 : decode cX12_count 209 = .ok (.iadd, 1) := by decide +kernel
theorem dX12_count_210 : decode cX12_count 210 = .ok (.aload_n 0, 1) := by decide +kernel
theorem dX12_count_211 : decode cX12_count 211 = .ok (.getfield 158, 3) := by decide +kernel
theorem dX12_count_214 : decode cX12_count 214 = .ok (.iconst 2, 1) := by decide +kernel
theorem dX12_count_215 : decode cX12_count 215 = .ok (.baload, 1) := by decide +kernel
theorem dX12_count_216 : decode cX12_count 216 = .ok (.ifCond .eq 7, 3) := by decide +kernel
theorem dX12_count_219 : decode cX12_count 219 = .ok (.iconst 1, 1) := by decide +kernel
theorem dX12_count_220 : decode cX12_count 220 = .ok (.goto 4, 3) := by decide +kernel
theorem dX12_count_223 : decode cX12_count 223 = .ok (.iconst 0, 1) := by decide +kernel
theorem dX12_count_224 : decode cX12_count 224 = .ok (.iadd, 1) := by decide +kernel
theorem dX12_count_225 : decode cX12_count 225 = .ok (.ireturn, 1) := by decide +kernel
theorem dX12_count_226 : decode cX12_count 226 = .ok (.aload_n 0, 1) := by decide +kernel
theorem dX12_count_227 : decode cX12_count 227 = .ok (.invokevirtual 364, 3) := by decide +kernel
theorem dX12_count_230 : decode cX12_count 230 = .ok (.ifCond .eq 7, 3) := by decide +kernel
theorem dX12_count_233 : decode cX12_count 233 = .ok (.iconst 1, 1) := by decide +kernel
theorem dX12_count_234 : decode cX12_count 234 = .ok (.goto 4, 3) := by decide +kernel
theorem dX12_count_237 : decode cX12_count 237 = .ok (.iconst 0, 1) := by decide +kernel
theorem dX12_count_238 : decode cX12_count 238 = .ok (.ireturn, 1) := by decide +kernel
theorem dX12_count_239 : decode cX12_count 239 = .ok (.iconst 0, 1) := by decide +kernel
theorem dX12_count_240 : decode cX12_count 240 = .ok (.istore_n 3, 1) := by decide +kernel
theorem dX12_count_241 : decode cX12_count 241 = .ok (.iload_n 3, 1) := by decide +kernel
theorem dX12_count_242 : decode cX12_count 242 = .ok (.aload_n 0, 1) := by decide +kernel
theorem dX12_count_243 : decode cX12_count 243 = .ok (.invokevirtual 309, 3) := by decide +kernel
theorem dX12_count_246 : decode cX12_count 246 = .ok (.if_icmp .ge 17, 3) := by decide +kernel
theorem dX12_count_249 : decode cX12_count 249 = .ok (.iload_n 2, 1) := by decide +kernel
theorem dX12_count_250 : decode cX12_count 250 = .ok (.aload_n 0, 1) := by decide +kernel
theorem dX12_count_251 : decode cX12_count 251 = .ok (.iload_n 3, 1) := by decide +kernel
theorem dX12_count_252 : decode cX12_count 252 = .ok (.invokevirtual 358, 3) := by decide +kernel
theorem dX12_count_255 : decode cX12_count 255 = .ok (.iadd, 1) := by decide +kernel
theorem dX12_count_256 : decode cX12_count 256 = .ok (.istore_n 2, 1) := by decide +kernel
theorem dX12_count_257 : decode cX12_count 257 = .ok (.iinc 3 1, 3) := by decide +kernel
theorem dX12_count_260 : decode cX12_count 260 = .ok (.goto (-19), 3) := by decide +kernel
theorem dX12_count_263 : decode cX12_count 263 = .ok (.iload_n 2, 1) := by decide +kernel
theorem dX12_count_264 : decode cX12_count 264 = .ok (.ireturn, 1) := by decide +kernel
theorem dX12_count_265 : decode cX12_count 265 = .ok (.aload_n 0, 1) := by decide +kernel
theorem dX12_count_266 : decode cX12_count 266 = .ok (.getfield 113, 3) := by decide +kernel
theorem dX12_count_269 : decode cX12_count 269 = .ok (.bipush 38, 2) := by decide +kernel
theorem dX12_count_271 : decode cX12_count 271 = .ok (.iaload, 1) := by decide +kernel
theorem dX12_count_272 : decode cX12_count 272 = .ok (.ireturn, 1) := by decide +kernel
theorem dX12_count_273 : decode cX12_count 273 = .ok (.iconst 0, 1) := by decide +kernel
theorem dX12_count_274 : decode cX12_count 274 = .ok (.istore_n 3, 1) := by decide +kernel
theorem dX12_count_275 : decode cX12_count 275 = .ok (.iload_n 3, 1) := by decide +kernel
theorem dX12_count_276 : decode cX12_count 276 = .ok (.aload_n 0, 1) := by decide +kernel
theorem dX12_count_277 : decode cX12_count 277 = .ok (.invokevirtual 309, 3) := by decide +kernel
theorem dX12_count_280 : decode cX12_count 280 = .ok (.if_icmp .ge 17, 3) := by decide +kernel
theorem dX12_count_283 : decode cX12_count 283 = .ok (.iload_n 2, 1) := by decide +kernel
theorem dX12_count_284 : decode cX12_count 284 = .ok (.aload_n 0, 1) := by decide +kernel
theorem dX12_count_285 : decode cX12_count 285 = .ok (.iload_n 3, 1) := by decide +kernel
theorem dX12_count_286 : decode cX12_count 286 = .ok (.invokevirtual 336, 3) := by decide +kernel
theorem dX12_count_289 : decode cX12_count 289 = .ok (.iadd, 1) := by decide +kernel
theorem dX12_count_290 : decode cX12_count 290 = .ok (.istore_n 2, 1) := by decide +kernel
theorem dX12_count_291 : decode cX12_count 291 = .ok (.iinc 3 1, 3) := by decide +kernel
theorem dX12_count_294 : decode cX12_count 294 = .ok (.goto (-19), 3) := by decide +kernel
theorem dX12_count_297 : decode cX12_count 297 = .ok (.iload_n 2, 1) := by decide +kernel
theorem dX12_count_298 : decode cX12_count 298 = .ok (.ireturn, 1) := by decide +kernel
theorem dX12_count_299 : decode cX12_count 299 = .ok (.aload_n 0, 1) := by decide +kernel
theorem dX12_count_300 : decode cX12_count 300 = .ok (.bipush 24, 2) := by decide +kernel
theorem dX12_count_302 : decode cX12_count 302 = .ok (.invokevirtual 474, 3) := by decide +kernel
theorem dX12_count_305 : decode cX12_count 305 = .ok (.ireturn, 1) := by decide +kernel
theorem dX12_count_306 : decode cX12_count 306 = .ok (.aload_n 0, 1) := by decide +kernel
theorem dX12_count_307 : decode cX12_count 307 = .ok (.bipush 6, 2) := by decide +kernel
theorem dX12_count_309 : decode cX12_count 309 = .ok (.invokevirtual 477, 3) := by decide +kernel
theorem dX12_count_312 : decode cX12_count 312 = .ok (.ireturn, 1) := by decide +kernel
theorem dX12_count_313 : decode cX12_count 313 = .ok (.aload_n 0, 1) := by decide +kernel
theorem dX12_count_314 : decode cX12_count 314 = .ok (.getfield 64, 3) := by decide +kernel
theorem dX12_count_317 : decode cX12_count 317 = .ok (.aload_n 0, 1) := by decide +kernel
theorem dX12_count_318 : decode cX12_count 318 = .ok (.getfield 245, 3) := by decide +kernel
theorem dX12_count_321 : decode cX12_count 321 = .ok (.iaload, 1) := by decide +kernel
theorem dX12_count_322 : decode cX12_count 322 = .ok (.ireturn, 1) := by decide +kernel
theorem dX12_count_323 : decode cX12_count 323 = .ok (.aload_n 0, 1) := by decide +kernel
theorem dX12_count_324 : decode cX12_count 324 = .ok (.bipush 30, 2) := by decide +kernel
theorem dX12_count_326 : decode cX12_count 326 = .ok (.invokevirtual 474, 3) := by decide +kernel
theorem dX12_count_329 : decode cX12_count 329 = .ok (.ireturn, 1) := by decide +kernel
theorem dX12_count_330 : decode cX12_count 330 = .ok (.iconst (-1), 1) := by decide +kernel
theorem dX12_count_331 : decode cX12_count 331 = .ok (.ireturn, 1) := by decide +kernel
theorem dX12_cut_0 : decode cX12_cut 0 = .ok (.aload_n 0, 1) := by decide +kernel
theorem dX12_cut_1 : decode cX12_cut 1 = .ok (.iload_n 1, 1) := by decide +kernel
theorem dX12_cut_2 : decode cX12_cut 2 = .ok (.invokevirtual 371, 3) := by decide +kernel
theorem dX12_cut_5 : decode cX12_cut 5 = .ok (.ifCond .eq 16, 3) := by decide +kernel
theorem dX12_cut_8 : decode cX12_cut 8 = .ok (.aload_n 0, 1) := by decide +kernel
theorem dX12_cut_9 : decode cX12_cut 9 = .ok (.iload_n 2, 1) := by decide +kernel
theorem dX12_cut_10 : decode cX12_cut 10 = .ok (.invokevirtual 371, 3) := by decide +kernel
theorem dX12_cut_13 : decode cX12_cut 13 = .ok (.ifCond .eq 8, 3) := by decide +kernel
theorem dX12_cut_16 : decode cX12_cut 16 = .ok (.iload_n 1, 1) := by decide +kernel
theorem dX12_cut_17 : decode cX12_cut 17 = .ok (.iload_n 2, 1) := by decide +kernel
theorem dX12_cut_18 : decode cX12_cut 18 = .ok (.if_icmp .ne 5, 3) := by decide +kernel
theorem dX12_cut_21 : decode cX12_cut 21 = .ok (.iconst (-1), 1) := by decide +kernel
theorem dX12_cut_22 : decode cX12_cut 22 = .ok (.ireturn, 1) := by decide +kernel
theorem dX12_cut_23 : decode cX12_cut 23 = .ok (.aload_n 0, 1) := by decide +kernel
theorem dX12_cut_24 : decode cX12_cut 24 = .ok (.invokevirtual 323, 3) := by decide +kernel
theorem dX12_cut_27 : decode cX12_cut 27 = .ok (.aload_n 0, 1) := by decide +kernel
theorem dX12_cut_28 : decode cX12_cut 28 = .ok (.getfield 113, 3) := by decide +kernel
theorem dX12_cut_31 : decode cX12_cut 31 = .ok (.bipush 12, 2) := by decide +kernel
theorem dX12_cut_33 : decode cX12_cut 33 = .ok (.iload_n 1, 1) := by decide +kernel
theorem dX12_cut_34 : decode cX12_cut 34 = .ok (.iadd, 1) := by decide +kernel
theorem dX12_cut_35 : decode cX12_cut 35 = .ok (.iaload, 1) := by decide +kernel
theorem dX12_cut_36 : decode cX12_cut 36 = .ok (.bipush 10, 2) := by decide +kernel
theorem dX12_cut_38 : decode cX12_cut 38 = .ok (.idiv, 1) := by decide +kernel
theorem dX12_cut_39 : decode cX12_cut 39 = .ok (.istore_n 3, 1) := by decide +kernel
theorem dX12_cut_40 : decode cX12_cut 40 = .ok (.aload_n 0, 1) := by decide +kernel
theorem dX12_cut_41 : decode cX12_cut 41 = .ok (.getfield 113, 3) := by decide +kernel
theorem dX12_cut_44 : decode cX12_cut 44 = .ok (.bipush 12, 2) := by decide +kernel
theorem dX12_cut_46 : decode cX12_cut 46 = .ok (.iload_n 1, 1) := by decide +kernel
theorem dX12_cut_47 : decode cX12_cut 47 = .ok (.iadd, 1) := by decide +kernel
theorem dX12_cut_48 : decode cX12_cut 48 = .ok (.dup2, 1) := by decide +kernel
theorem dX12_cut_49 : decode cX12_cut 49 = .ok (.iaload, 1) := by decide +kernel
theorem dX12_cut_50 : decode cX12_cut 50 = .ok (.iload_n 3, 1) := by decide +kernel
theorem dX12_cut_51 : decode cX12_cut 51 = .ok (.isub, 1) := by decide +kernel
theorem dX12_cut_52 : decode cX12_cut 52 = .ok (.iastore, 1) := by decide +kernel
theorem dX12_cut_53 : decode cX12_cut 53 = .ok (.aload_n 0, 1) := by decide +kernel
theorem dX12_cut_54 : decode cX12_cut 54 = .ok (.getfield 113, 3) := by decide +kernel
theorem dX12_cut_57 : decode cX12_cut 57 = .ok (.bipush 12, 2) := by decide +kernel
theorem dX12_cut_59 : decode cX12_cut 59 = .ok (.iload_n 2, 1) := by decide +kernel
theorem dX12_cut_60 : decode cX12_cut 60 = .ok (.iadd, 1) := by decide +kernel
theorem dX12_cut_61 : decode cX12_cut 61 = .ok (.aload_n 0, 1) := by decide +kernel
theorem dX12_cut_62 : decode cX12_cut 62 = .ok (.getfield 113, 3) := by decide +kernel
theorem dX12_cut_65 : decode cX12_cut 65 = .ok (.bipush 12, 2) := by decide +kernel
theorem dX12_cut_67 : decode cX12_cut 67 = .ok (.iload_n 2, 1) := by decide +kernel
theorem dX12_cut_68 : decode cX12_cut 68 = .ok (.iadd, 1) := by decide +kernel
theorem dX12_cut_69 : decode cX12_cut 69 = .ok (.iaload, 1) := by decide +kernel
theorem dX12_cut_70 : decode cX12_cut 70 = .ok (.iload_n 3, 1) := by decide +kernel
theorem dX12_cut_71 : decode cX12_cut 71 = .ok (.iadd, 1) := by decide +kernel
theorem dX12_cut_72 : decode cX12_cut 72 = .ok (.iconst 0, 1) := by decide +kernel
theorem dX12_cut_73 : decode cX12_cut 73 = .ok (.sipush 999, 3) := by decide +kernel
theorem dX12_cut_76 : decode cX12_cut 76 = .ok (.invokestatic 342, 3) := by decide +kernel
theorem dX12_cut_79 : decode cX12_cut 79 = .ok (.iastore, 1) := by decide +kernel
theorem dX12_cut_80 : decode cX12_cut 80 = .ok (.aload_n 0, 1) := by decide +kernel
theorem dX12_cut_81 : decode cX12_cut 81 = .ok (.getfield 113, 3) := by decide +kernel
theorem dX12_cut_84 : decode cX12_cut 84 = .ok (.bipush 24, 2) := by decide +kernel
theorem dX12_cut_86 : decode cX12_cut 86 = .ok (.iload_n 2, 1) := by decide +kernel
theorem dX12_cut_87 : decode cX12_cut 87 = .ok (.iadd, 1) := by decide +kernel
theorem dX12_cut_88 : decode cX12_cut 88 = .ok (.dup2, 1) := by decide +kernel
theorem dX12_cut_89 : decode cX12_cut 89 = .ok (.iaload, 1) := by decide +kernel
theorem dX12_cut_90 : decode cX12_cut 90 = .ok (.iconst 1, 1) := by decide +kernel
theorem dX12_cut_91 : decode cX12_cut 91 = .ok (.iadd, 1) := by decide +kernel
theorem dX12_cut_92 : decode cX12_cut 92 = .ok (.iastore, 1) := by decide +kernel
theorem dX12_cut_93 : decode cX12_cut 93 = .ok (.aload_n 0, 1) := by decide +kernel
theorem dX12_cut_94 : decode cX12_cut 94 = .ok (.invokevirtual 380, 3) := by decide +kernel
theorem dX12_cut_97 : decode cX12_cut 97 = .ok (.iload_n 3, 1) := by decide +kernel
theorem dX12_cut_98 : decode cX12_cut 98 = .ok (.ireturn, 1) := by decide +kernel
theorem dX12_token_0 : decode cX12_token 0 = .ok (.aload_n 0, 1) := by decide +kernel
theorem dX12_token_1 : decode cX12_token 1 = .ok (.getfield 20, 3) := by decide +kernel
theorem dX12_token_4 : decode cX12_token 4 = .ok (.aload_n 0, 1) := by decide +kernel
theorem dX12_token_5 : decode cX12_token 5 = .ok (.getfield 193, 3) := by decide +kernel
theorem dX12_token_8 : decode cX12_token 8 = .ok (.iload_n 1, 1) := by decide +kernel
theorem dX12_token_9 : decode cX12_token 9 = .ok (.iastore, 1) := by decide +kernel
theorem dX12_token_10 : decode cX12_token 10 = .ok (.aload_n 0, 1) := by decide +kernel
theorem dX12_token_11 : decode cX12_token 11 = .ok (.getfield 24, 3) := by decide +kernel
theorem dX12_token_14 : decode cX12_token 14 = .ok (.aload_n 0, 1) := by decide +kernel
theorem dX12_token_15 : decode cX12_token 15 = .ok (.getfield 193, 3) := by decide +kernel
theorem dX12_token_18 : decode cX12_token 18 = .ok (.iload_n 2, 1) := by decide +kernel
theorem dX12_token_19 : decode cX12_token 19 = .ok (.iastore, 1) := by decide +kernel
theorem dX12_token_20 : decode cX12_token 20 = .ok (.aload_n 0, 1) := by decide +kernel
theorem dX12_token_21 : decode cX12_token 21 = .ok (.getfield 27, 3) := by decide +kernel
theorem dX12_token_24 : decode cX12_token 24 = .ok (.aload_n 0, 1) := by decide +kernel
theorem dX12_token_25 : decode cX12_token 25 = .ok (.getfield 193, 3) := by decide +kernel
theorem dX12_token_28 : decode cX12_token 28 = .ok (.iload_n 3, 1) := by decide +kernel
theorem dX12_token_29 : decode cX12_token 29 = .ok (.iastore, 1) := by decide +kernel
theorem dX12_token_30 : decode cX12_token 30 = .ok (.aload_n 0, 1) := by decide +kernel
theorem dX12_token_31 : decode cX12_token 31 = .ok (.getfield 30, 3) := by decide +kernel
theorem dX12_token_34 : decode cX12_token 34 = .ok (.aload_n 0, 1) := by decide +kernel
theorem dX12_token_35 : decode cX12_token 35 = .ok (.getfield 193, 3) := by decide +kernel
theorem dX12_token_38 : decode cX12_token 38 = .ok (.lload 4, 2) := by decide +kernel
theorem dX12_token_40 : decode cX12_token 40 = .ok (.lastore, 1) := by decide +kernel
theorem dX12_token_41 : decode cX12_token 41 = .ok (.aload_n 0, 1) := by decide +kernel
theorem dX12_token_42 : decode cX12_token 42 = .ok (.dup, 1) := by decide +kernel
theorem dX12_token_43 : decode cX12_token 43 = .ok (.getfield 193, 3) := by decide +kernel
theorem dX12_token_46 : decode cX12_token 46 = .ok (.iconst 1, 1) := by decide +kernel
theorem dX12_token_47 : decode cX12_token 47 = .ok (.iadd, 1) := by decide +kernel
theorem dX12_token_48 : decode cX12_token 48 = .ok (.putfield 193, 3) := by decide +kernel
theorem dX12_token_51 : decode cX12_token 51 = .ok (.return_, 1) := by decide +kernel
theorem dX12_isLetter_0 : decode cX12_isLetter 0 = .ok (.iload_n 0, 1) := by decide +kernel
theorem dX12_isLetter_1 : decode cX12_isLetter 1 = .ok (.bipush 97, 2) := by decide +kernel
theorem dX12_isLetter_3 : decode cX12_isLetter 3 = .ok (.if_icmp .lt 13, 3) := by decide +kernel
theorem dX12_isLetter_6 : decode cX12_isLetter 6 = .ok (.iload_n 0, 1) := by decide +kernel
theorem dX12_isLetter_7 : decode cX12_isLetter 7 = .ok (.bipush 122, 2) := by decide +kernel
theorem dX12_isLetter_9 : decode cX12_isLetter 9 = .ok (.if_icmp .gt 7, 3) := by decide +kernel
theorem dX12_isLetter_12 : decode cX12_isLetter 12 = .ok (.iconst 1, 1) := by decide +kernel
theorem dX12_isLetter_13 : decode cX12_isLetter 13 = .ok (.goto 4, 3) := by decide +kernel
theorem dX12_isLetter_16 : decode cX12_isLetter 16 = .ok (.iconst 0, 1) := by decide +kernel
theorem dX12_isLetter_17 : decode cX12_isLetter 17 = .ok (.ireturn, 1) := by decide +kernel
theorem dX12_isDigit_0 : decode cX12_isDigit 0 = .ok (.iload_n 0, 1) := by decide +kernel
theorem dX12_isDigit_1 : decode cX12_isDigit 1 = .ok (.bipush 48, 2) := by decide +kernel
theorem dX12_isDigit_3 : decode cX12_isDigit 3 = .ok (.if_icmp .lt 13, 3) := by decide +kernel
theorem dX12_isDigit_6 : decode cX12_isDigit 6 = .ok (.iload_n 0, 1) := by decide +kernel
theorem dX12_isDigit_7 : decode cX12_isDigit 7 = .ok (.bipush 57, 2) := by decide +kernel
theorem dX12_isDigit_9 : decode cX12_isDigit 9 = .ok (.if_icmp .gt 7, 3) := by decide +kernel
theorem dX12_isDigit_12 : decode cX12_isDigit 12 = .ok (.iconst 1, 1) := by decide +kernel
theorem dX12_isDigit_13 : decode cX12_isDigit 13 = .ok (.goto 4, 3) := by decide +kernel
theorem dX12_isDigit_16 : decode cX12_isDigit 16 = .ok (.iconst 0, 1) := by decide +kernel
theorem dX12_isDigit_17 : decode cX12_isDigit 17 = .ok (.ireturn, 1) := by decide +kernel
theorem dX12_sign_0 : decode cX12_sign 0 = .ok (.iload_n 2, 1) := by decide +kernel
theorem dX12_sign_1 : decode cX12_sign 1 = .ok (.bipush 59, 2) := by decide +kernel
theorem dX12_sign_3 : decode cX12_sign 3 = .ok (.if_icmp .ne 7, 3) := by decide +kernel
theorem dX12_sign_6 : decode cX12_sign 6 = .ok (.iconst 4, 1) := by decide +kernel
theorem dX12_sign_7 : decode cX12_sign 7 = .ok (.goto 36, 3) := by decide +kernel
theorem dX12_sign_10 : decode cX12_sign 10 = .ok (.iload_n 2, 1) := by decide +kernel
theorem dX12_sign_11 : decode cX12_sign 11 = .ok (.bipush 61, 2) := by decide +kernel
theorem dX12_sign_13 : decode cX12_sign 13 = .ok (.if_icmp .ne 7, 3) := by decide +kernel
theorem dX12_sign_16 : decode cX12_sign 16 = .ok (.iconst 5, 1) := by decide +kernel
theorem dX12_sign_17 : decode cX12_sign 17 = .ok (.goto 26, 3) := by decide +kernel
theorem dX12_sign_20 : decode cX12_sign 20 = .ok (.iload_n 2, 1) := by decide +kernel
theorem dX12_sign_21 : decode cX12_sign 21 = .ok (.bipush 40, 2) := by decide +kernel
theorem dX12_sign_23 : decode cX12_sign 23 = .ok (.if_icmp .ne 8, 3) := by decide +kernel
theorem dX12_sign_26 : decode cX12_sign 26 = .ok (.bipush 6, 2) := by decide +kernel
theorem dX12_sign_28 : decode cX12_sign 28 = .ok (.goto 15, 3) := by decide +kernel
theorem dX12_sign_31 : decode cX12_sign 31 = .ok (.iload_n 2, 1) := by decide +kernel
theorem dX12_sign_32 : decode cX12_sign 32 = .ok (.bipush 41, 2) := by decide +kernel
theorem dX12_sign_34 : decode cX12_sign 34 = .ok (.if_icmp .ne 8, 3) := by decide +kernel
theorem dX12_sign_37 : decode cX12_sign 37 = .ok (.bipush 7, 2) := by decide +kernel
theorem dX12_sign_39 : decode cX12_sign 39 = .ok (.goto 4, 3) := by decide +kernel
theorem dX12_sign_42 : decode cX12_sign 42 = .ok (.iconst 3, 1) := by decide +kernel
theorem dX12_sign_43 : decode cX12_sign 43 = .ok (.istore 4, 2) := by decide +kernel
theorem dX12_sign_45 : decode cX12_sign 45 = .ok (.iload_n 2, 1) := by decide +kernel
theorem dX12_sign_46 : decode cX12_sign 46 = .ok (.bipush 43, 2) := by decide +kernel
theorem dX12_sign_48 : decode cX12_sign 48 = .ok (.if_icmp .ne 7, 3) := by decide +kernel
theorem dX12_sign_51 : decode cX12_sign 51 = .ok (.bipush 8, 2) := by decide +kernel
theorem dX12_sign_53 : decode cX12_sign 53 = .ok (.istore 4, 2) := by decide +kernel
theorem dX12_sign_55 : decode cX12_sign 55 = .ok (.iload_n 2, 1) := by decide +kernel
theorem dX12_sign_56 : decode cX12_sign 56 = .ok (.bipush 45, 2) := by decide +kernel
theorem dX12_sign_58 : decode cX12_sign 58 = .ok (.if_icmp .ne 7, 3) := by decide +kernel
theorem dX12_sign_61 : decode cX12_sign 61 = .ok (.bipush 9, 2) := by decide +kernel
theorem dX12_sign_63 : decode cX12_sign 63 = .ok (.istore 4, 2) := by decide +kernel
theorem dX12_sign_65 : decode cX12_sign 65 = .ok (.iload_n 2, 1) := by decide +kernel
theorem dX12_sign_66 : decode cX12_sign 66 = .ok (.bipush 42, 2) := by decide +kernel
theorem dX12_sign_68 : decode cX12_sign 68 = .ok (.if_icmp .ne 7, 3) := by decide +kernel
theorem dX12_sign_71 : decode cX12_sign 71 = .ok (.bipush 10, 2) := by decide +kernel
theorem dX12_sign_73 : decode cX12_sign 73 = .ok (.istore 4, 2) := by decide +kernel
theorem dX12_sign_75 : decode cX12_sign 75 = .ok (.iload_n 2, 1) := by decide +kernel
theorem dX12_sign_76 : decode cX12_sign 76 = .ok (.bipush 47, 2) := by decide +kernel
theorem dX12_sign_78 : decode cX12_sign 78 = .ok (.if_icmp .ne 7, 3) := by decide +kernel
theorem dX12_sign_81 : decode cX12_sign 81 = .ok (.bipush 15, 2) := by decide +kernel
theorem dX12_sign_83 : decode cX12_sign 83 = .ok (.istore 4, 2) := by decide +kernel
theorem dX12_sign_85 : decode cX12_sign 85 = .ok (.iload_n 2, 1) := by decide +kernel
theorem dX12_sign_86 : decode cX12_sign 86 = .ok (.bipush 60, 2) := by decide +kernel
theorem dX12_sign_88 : decode cX12_sign 88 = .ok (.if_icmp .ne 7, 3) := by decide +kernel
theorem dX12_sign_91 : decode cX12_sign 91 = .ok (.bipush 13, 2) := by decide +kernel
theorem dX12_sign_93 : decode cX12_sign 93 = .ok (.istore 4, 2) := by decide +kernel
theorem dX12_sign_95 : decode cX12_sign 95 = .ok (.aload_n 0, 1) := by decide +kernel
theorem dX12_sign_96 : decode cX12_sign 96 = .ok (.iload 4, 2) := by decide +kernel
theorem dX12_sign_98 : decode cX12_sign 98 = .ok (.iload_n 1, 1) := by decide +kernel
theorem dX12_sign_99 : decode cX12_sign 99 = .ok (.iconst 0, 1) := by decide +kernel
theorem dX12_sign_100 : decode cX12_sign 100 = .ok (.lconst 0, 1) := by decide +kernel
theorem dX12_sign_101 : decode cX12_sign 101 = .ok (.invokevirtual 200, 3) := by decide +kernel
theorem dX12_sign_104 : decode cX12_sign 104 = .ok (.iconst 1, 1) := by decide +kernel
theorem dX12_sign_105 : decode cX12_sign 105 = .ok (.ireturn, 1) := by decide +kernel
theorem dX12_cutsUp_0 : decode cX12_cutsUp 0 = .ok (.aload_n 0, 1) := by decide +kernel
theorem dX12_cutsUp_1 : decode cX12_cutsUp 1 = .ok (.iconst 0, 1) := by decide +kernel
theorem dX12_cutsUp_2 : decode cX12_cutsUp 2 = .ok (.putfield 193, 3) := by decide +kernel
theorem dX12_cutsUp_5 : decode cX12_cutsUp 5 = .ok (.iconst 0, 1) := by decide +kernel
theorem dX12_cutsUp_6 : decode cX12_cutsUp 6 = .ok (.istore_n 1, 1) := by decide +kernel
theorem dX12_cutsUp_7 : decode cX12_cutsUp 7 = .ok (.aload_n 0, 1) := by decide +kernel
theorem dX12_cutsUp_8 : decode cX12_cutsUp 8 = .ok (.getfield 193, 3) := by decide +kernel
theorem dX12_cutsUp_11 : decode cX12_cutsUp 11 = .ok (.sipush 400, 3) := by decide +kernel
theorem dX12_cutsUp_14 : decode cX12_cutsUp 14 = .ok (.if_icmp .gt 280, 3) := by decide +kernel
theorem dX12_cutsUp_17 : decode cX12_cutsUp 17 = .ok (.aload_n 0, 1) := by decide +kernel
theorem dX12_cutsUp_18 : decode cX12_cutsUp 18 = .ok (.iload_n 1, 1) := by decide +kernel
theorem dX12_cutsUp_19 : decode cX12_cutsUp 19 = .ok (.invokevirtual 196, 3) := by decide +kernel
theorem dX12_cutsUp_22 : decode cX12_cutsUp 22 = .ok (.istore_n 2, 1) := by decide +kernel
theorem dX12_cutsUp_23 : decode cX12_cutsUp 23 = .ok (.iload_n 1, 1) := by decide +kernel
theorem dX12_cutsUp_24 : decode cX12_cutsUp 24 = .ok (.aload_n 0, 1) := by decide +kernel
theorem dX12_cutsUp_25 : decode cX12_cutsUp 25 = .ok (.getfield 184, 3) := by decide +kernel
theorem dX12_cutsUp_28 : decode cX12_cutsUp 28 = .ok (.if_icmp .lt 15, 3) := by decide +kernel
theorem dX12_cutsUp_31 : decode cX12_cutsUp 31 = .ok (.aload_n 0, 1) := by decide +kernel
theorem dX12_cutsUp_32 : decode cX12_cutsUp 32 = .ok (.iconst 0, 1) := by decide +kernel
theorem dX12_cutsUp_33 : decode cX12_cutsUp 33 = .ok (.aload_n 0, 1) := by decide +kernel
theorem dX12_cutsUp_34 : decode cX12_cutsUp 34 = .ok (.getfield 184, 3) := by decide +kernel
theorem dX12_cutsUp_37 : decode cX12_cutsUp 37 = .ok (.iconst 0, 1) := by decide +kernel
theorem dX12_cutsUp_38 : decode cX12_cutsUp 38 = .ok (.lconst 0, 1) := by decide +kernel
theorem dX12_cutsUp_39 : decode cX12_cutsUp 39 = .ok (.invokevirtual 200, 3) := by decide +kernel
theorem dX12_cutsUp_42 : decode cX12_cutsUp 42 = .ok (.return_, 1) := by decide +kernel
theorem dX12_cutsUp_43 : decode cX12_cutsUp 43 = .ok (.iload_n 2, 1) := by decide +kernel
theorem dX12_cutsUp_44 : decode cX12_cutsUp 44 = .ok (.bipush 9, 2) := by decide +kernel
theorem dX12_cutsUp_46 : decode cX12_cutsUp 46 = .ok (.if_icmp .eq 21, 3) := by decide +kernel
theorem dX12_cutsUp_49 : decode cX12_cutsUp 49 = .ok (.iload_n 2, 1) := by decide +kernel
theorem dX12_cutsUp_50 : decode cX12_cutsUp 50 = .ok (.bipush 10, 2) := by decide +kernel
theorem dX12_cutsUp_52 : decode cX12_cutsUp 52 = .ok (.if_icmp .eq 15, 3) := by decide +kernel
theorem dX12_cutsUp_55 : decode cX12_cutsUp 55 = .ok (.iload_n 2, 1) := by decide +kernel
theorem dX12_cutsUp_56 : decode cX12_cutsUp 56 = .ok (.bipush 13, 2) := by decide +kernel
theorem dX12_cutsUp_58 : decode cX12_cutsUp 58 = .ok (.if_icmp .eq 9, 3) := by decide +kernel
theorem dX12_cutsUp_61 : decode cX12_cutsUp 61 = .ok (.iload_n 2, 1) := by decide +kernel
theorem dX12_cutsUp_62 : decode cX12_cutsUp 62 = .ok (.bipush 32, 2) := by decide +kernel
theorem dX12_cutsUp_64 : decode cX12_cutsUp 64 = .ok (.if_icmp .ne 9, 3) := by decide +kernel
theorem dX12_cutsUp_67 : decode cX12_cutsUp 67 = .ok (.iinc 1 1, 3) := by decide +kernel
theorem dX12_cutsUp_70 : decode cX12_cutsUp 70 = .ok (.goto 221, 3) := by decide +kernel
theorem dX12_cutsUp_73 : decode cX12_cutsUp 73 = .ok (.iload_n 2, 1) := by decide +kernel
theorem dX12_cutsUp_74 : decode cX12_cutsUp 74 = .ok (.invokestatic 204, 3) := by decide +kernel
theorem dX12_cutsUp_77 : decode cX12_cutsUp 77 = .ok (.ifCond .eq 119, 3) := by decide +kernel
theorem dX12_cutsUp_80 : decode cX12_cutsUp 80 = .ok (.iconst 0, 1) := by decide +kernel
theorem dX12_cutsUp_81 : decode cX12_cutsUp 81 = .ok (.istore_n 3, 1) := by decide +kernel
theorem dX12_cutsUp_82 : decode cX12_cutsUp 82 = .ok (.lconst 0, 1) := by decide +kernel
theorem dX12_cutsUp_83 : decode cX12_cutsUp 83 = .ok (.lstore 4, 2) := by decide +kernel
theorem dX12_cutsUp_85 : decode cX12_cutsUp 85 = .ok (.aload_n 0, 1) := by decide +kernel
theorem dX12_cutsUp_86 : decode cX12_cutsUp 86 = .ok (.iload_n 1, 1) := by decide +kernel
theorem dX12_cutsUp_87 : decode cX12_cutsUp 87 = .ok (.iload_n 3, 1) := by decide +kernel
theorem dX12_cutsUp_88 : decode cX12_cutsUp 88 = .ok (.iadd, 1) := by decide +kernel
theorem dX12_cutsUp_89 : decode cX12_cutsUp 89 = .ok (.invokevirtual 196, 3) := by decide +kernel
theorem dX12_cutsUp_92 : decode cX12_cutsUp 92 = .ok (.invokestatic 204, 3) := by decide +kernel
theorem dX12_cutsUp_95 : decode cX12_cutsUp 95 = .ok (.ifCond .eq 29, 3) := by decide +kernel
theorem dX12_cutsUp_98 : decode cX12_cutsUp 98 = .ok (.iload_n 3, 1) := by decide +kernel
theorem dX12_cutsUp_99 : decode cX12_cutsUp 99 = .ok (.bipush 8, 2) := by decide +kernel
theorem dX12_cutsUp_101 : decode cX12_cutsUp 101 = .ok (.if_icmp .ge 17, 3) := by decide +kernel
theorem dX12_cutsUp_104 : decode cX12_cutsUp 104 = .ok (.lload 4, 2) := by decide +kernel
theorem dX12_cutsUp_106 : decode cX12_cutsUp 106 = .ok (.aload_n 0, 1) := by decide +kernel
theorem dX12_cutsUp_107 : decode cX12_cutsUp 107 = .ok (.iload_n 1, 1) := by decide +kernel
theorem dX12_cutsUp_108 : decode cX12_cutsUp 108 = .ok (.iload_n 3, 1) := by decide +kernel
theorem dX12_cutsUp_109 : decode cX12_cutsUp 109 = .ok (.iadd, 1) := by decide +kernel
theorem dX12_cutsUp_110 : decode cX12_cutsUp 110 = .ok (.invokevirtual 196, 3) := by decide +kernel
theorem dX12_cutsUp_113 : decode cX12_cutsUp 113 = .ok (.invokestatic 189, 3) := by decide +kernel
theorem dX12_cutsUp_116 : decode cX12_cutsUp 116 = .ok (.lstore 4, 2) := by decide +kernel
theorem dX12_cutsUp_118 : decode cX12_cutsUp 118 = .ok (.iinc 3 1, 3) := by decide +kernel
theorem dX12_cutsUp_121 : decode cX12_cutsUp 121 = .ok (.goto (-36), 3) := by decide +kernel
theorem dX12_cutsUp_124 : decode cX12_cutsUp 124 = .ok (.iload_n 3, 1) := by decide +kernel
theorem dX12_cutsUp_125 : decode cX12_cutsUp 125 = .ok (.bipush 8, 2) := by decide +kernel
theorem dX12_cutsUp_127 : decode cX12_cutsUp 127 = .ok (.if_icmp .le 7, 3) := by decide +kernel
theorem dX12_cutsUp_130 : decode cX12_cutsUp 130 = .ok (.iconst 3, 1) := by decide +kernel
theorem dX12_cutsUp_131 : decode cX12_cutsUp 131 = .ok (.goto 4, 3) := by decide +kernel
theorem dX12_cutsUp_134 : decode cX12_cutsUp 134 = .ok (.iconst 1, 1) := by decide +kernel
theorem dX12_cutsUp_135 : decode cX12_cutsUp 135 = .ok (.istore 6, 2) := by decide +kernel
theorem dX12_cutsUp_137 : decode cX12_cutsUp 137 = .ok (.iload_n 3, 1) := by decide +kernel
theorem dX12_cutsUp_138 : decode cX12_cutsUp 138 = .ok (.bipush 8, 2) := by decide +kernel
theorem dX12_cutsUp_140 : decode cX12_cutsUp 140 = .ok (.if_icmp .gt 39, 3) := by decide +kernel
theorem dX12_cutsUp_143 : decode cX12_cutsUp 143 = .ok (.iconst 0, 1) := by decide +kernel
theorem dX12_cutsUp_144 : decode cX12_cutsUp 144 = .ok (.istore 7, 2) := by decide +kernel
theorem dX12_cutsUp_146 : decode cX12_cutsUp 146 = .ok (.iload 7, 2) := by decide +kernel
theorem dX12_cutsUp_148 : decode cX12_cutsUp 148 = .ok (.bipush 21, 2) := by decide +kernel
theorem dX12_cutsUp_150 : decode cX12_cutsUp 150 = .ok (.if_icmp .ge 29, 3) := by decide +kernel
theorem dX12_cutsUp_153 : decode cX12_cutsUp 153 = .ok (.aload_n 0, 1) := by decide +kernel
theorem dX12_cutsUp_154 : decode cX12_cutsUp 154 = .ok (.getfield 34, 3) := by decide +kernel
theorem dX12_cutsUp_157 : decode cX12_cutsUp 157 = .ok (.iload 7, 2) := by decide +kernel
theorem dX12_cutsUp_159 : decode cX12_cutsUp 159 = .ok (.laload, 1) := by decide +kernel
theorem dX12_cutsUp_160 : decode cX12_cutsUp 160 = .ok (.lload 4, 2) := by decide +kernel
theorem dX12_cutsUp_162 : decode cX12_cutsUp 162 = .ok (.lcmp, 1) := by decide +kernel
theorem dX12_cutsUp_163 : decode cX12_cutsUp 163 = .ok (.ifCond .ne 10, 3) := by decide +kernel
theorem dX12_cutsUp_166 : decode cX12_cutsUp 166 = .ok (.bipush 20, 2) := by decide +kernel
theorem dX12_cutsUp_168 : decode cX12_cutsUp 168 = .ok (.iload 7, 2) := by decide +kernel
theorem dX12_cutsUp_170 : decode cX12_cutsUp 170 = .ok (.iadd, 1) := by decide +kernel
theorem dX12_cutsUp_171 : decode cX12_cutsUp 171 = .ok (.istore 6, 2) := by decide +kernel
theorem dX12_cutsUp_173 : decode cX12_cutsUp 173 = .ok (.iinc 7 1, 3) := by decide +kernel
theorem dX12_cutsUp_176 : decode cX12_cutsUp 176 = .ok (.goto (-30), 3) := by decide +kernel
theorem dX12_cutsUp_179 : decode cX12_cutsUp 179 = .ok (.aload_n 0, 1) := by decide +kernel
theorem dX12_cutsUp_180 : decode cX12_cutsUp 180 = .ok (.iload 6, 2) := by decide +kernel
theorem dX12_cutsUp_182 : decode cX12_cutsUp 182 = .ok (.iload_n 1, 1) := by decide +kernel
theorem dX12_cutsUp_183 : decode cX12_cutsUp 183 = .ok (.iconst 0, 1) := by decide +kernel
theorem dX12_cutsUp_184 : decode cX12_cutsUp 184 = .ok (.lload 4, 2) := by decide +kernel
theorem dX12_cutsUp_186 : decode cX12_cutsUp 186 = .ok (.invokevirtual 200, 3) := by decide +kernel
theorem dX12_cutsUp_189 : decode cX12_cutsUp 189 = .ok (.iload_n 1, 1) := by decide +kernel
theorem dX12_cutsUp_190 : decode cX12_cutsUp 190 = .ok (.iload_n 3, 1) := by decide +kernel
theorem dX12_cutsUp_191 : decode cX12_cutsUp 191 = .ok (.iadd, 1) := by decide +kernel
theorem dX12_cutsUp_192 : decode cX12_cutsUp 192 = .ok (.istore_n 1, 1) := by decide +kernel
theorem dX12_cutsUp_193 : decode cX12_cutsUp 193 = .ok (.goto 98, 3) := by decide +kernel
theorem dX12_cutsUp_196 : decode cX12_cutsUp 196 = .ok (.iload_n 2, 1) := by decide +kernel
theorem dX12_cutsUp_197 : decode cX12_cutsUp 197 = .ok (.invokestatic 208, 3) := by decide +kernel
theorem dX12_cutsUp_200 : decode cX12_cutsUp 200 = .ok (.ifCond .eq 75, 3) := by decide +kernel
theorem dX12_cutsUp_203 : decode cX12_cutsUp 203 = .ok (.iconst 0, 1) := by decide +kernel
theorem dX12_cutsUp_204 : decode cX12_cutsUp 204 = .ok (.istore_n 3, 1) := by decide +kernel
theorem dX12_cutsUp_205 : decode cX12_cutsUp 205 = .ok (.iconst 0, 1) := by decide +kernel
theorem dX12_cutsUp_206 : decode cX12_cutsUp 206 = .ok (.istore 4, 2) := by decide +kernel
theorem dX12_cutsUp_208 : decode cX12_cutsUp 208 = .ok (.aload_n 0, 1) := by decide +kernel
theorem dX12_cutsUp_209 : decode cX12_cutsUp 209 = .ok (.iload_n 1, 1) := by decide +kernel
theorem dX12_cutsUp_210 : decode cX12_cutsUp 210 = .ok (.iload_n 3, 1) := by decide +kernel
theorem dX12_cutsUp_211 : decode cX12_cutsUp 211 = .ok (.iadd, 1) := by decide +kernel
theorem dX12_cutsUp_212 : decode cX12_cutsUp 212 = .ok (.invokevirtual 196, 3) := by decide +kernel
theorem dX12_cutsUp_215 : decode cX12_cutsUp 215 = .ok (.invokestatic 208, 3) := by decide +kernel
theorem dX12_cutsUp_218 : decode cX12_cutsUp 218 = .ok (.ifCond .eq 32, 3) := by decide +kernel
theorem dX12_cutsUp_221 : decode cX12_cutsUp 221 = .ok (.iload_n 3, 1) := by decide +kernel
theorem dX12_cutsUp_222 : decode cX12_cutsUp 222 = .ok (.iconst 4, 1) := by decide +kernel
theorem dX12_cutsUp_223 : decode cX12_cutsUp 223 = .ok (.if_icmp .ge 21, 3) := by decide +kernel
theorem dX12_cutsUp_226 : decode cX12_cutsUp 226 = .ok (.bipush 10, 2) := by decide +kernel
theorem dX12_cutsUp_228 : decode cX12_cutsUp 228 = .ok (.iload 4, 2) := by decide +kernel
theorem dX12_cutsUp_230 : decode cX12_cutsUp 230 = .ok (.imul, 1) := by decide +kernel
theorem dX12_cutsUp_231 : decode cX12_cutsUp 231 = .ok (.aload_n 0, 1) := by decide +kernel
theorem dX12_cutsUp_232 : decode cX12_cutsUp 232 = .ok (.iload_n 1, 1) := by decide +kernel
theorem dX12_cutsUp_233 : decode cX12_cutsUp 233 = .ok (.iload_n 3, 1) := by decide +kernel
theorem dX12_cutsUp_234 : decode cX12_cutsUp 234 = .ok (.iadd, 1) := by decide +kernel
theorem dX12_cutsUp_235 : decode cX12_cutsUp 235 = .ok (.invokevirtual 196, 3) := by decide +kernel
theorem dX12_cutsUp_238 : decode cX12_cutsUp 238 = .ok (.iadd, 1) := by decide +kernel
theorem dX12_cutsUp_239 : decode cX12_cutsUp 239 = .ok (.bipush 48, 2) := by decide +kernel
theorem dX12_cutsUp_241 : decode cX12_cutsUp 241 = .ok (.isub, 1) := by decide +kernel
theorem dX12_cutsUp_242 : decode cX12_cutsUp 242 = .ok (.istore 4, 2) := by decide +kernel
theorem dX12_cutsUp_244 : decode cX12_cutsUp 244 = .ok (.iinc 3 1, 3) := by decide +kernel
theorem dX12_cutsUp_247 : decode cX12_cutsUp 247 = .ok (.goto (-39), 3) := by decide +kernel
theorem dX12_cutsUp_250 : decode cX12_cutsUp 250 = .ok (.aload_n 0, 1) := by decide +kernel
theorem dX12_cutsUp_251 : decode cX12_cutsUp 251 = .ok (.iload_n 3, 1) := by decide +kernel
theorem dX12_cutsUp_252 : decode cX12_cutsUp 252 = .ok (.iconst 4, 1) := by decide +kernel
theorem dX12_cutsUp_253 : decode cX12_cutsUp 253 = .ok (.if_icmp .le 7, 3) := by decide +kernel
theorem dX12_cutsUp_256 : decode cX12_cutsUp 256 = .ok (.iconst 3, 1) := by decide +kernel
theorem dX12_cutsUp_257 : decode cX12_cutsUp 257 = .ok (.goto 4, 3) := by decide +kernel
theorem dX12_cutsUp_260 : decode cX12_cutsUp 260 = .ok (.iconst 2, 1) := by decide +kernel
theorem dX12_cutsUp_261 : decode cX12_cutsUp 261 = .ok (.iload_n 1, 1) := by decide +kernel
theorem dX12_cutsUp_262 : decode cX12_cutsUp 262 = .ok (.iload 4, 2) := by decide +kernel
theorem dX12_cutsUp_264 : decode cX12_cutsUp 264 = .ok (.lconst 0, 1) := by decide +kernel
theorem dX12_cutsUp_265 : decode cX12_cutsUp 265 = .ok (.invokevirtual 200, 3) := by decide +kernel
theorem dX12_cutsUp_268 : decode cX12_cutsUp 268 = .ok (.iload_n 1, 1) := by decide +kernel
theorem dX12_cutsUp_269 : decode cX12_cutsUp 269 = .ok (.iload_n 3, 1) := by decide +kernel
theorem dX12_cutsUp_270 : decode cX12_cutsUp 270 = .ok (.iadd, 1) := by decide +kernel
theorem dX12_cutsUp_271 : decode cX12_cutsUp 271 = .ok (.istore_n 1, 1) := by decide +kernel
theorem dX12_cutsUp_272 : decode cX12_cutsUp 272 = .ok (.goto 19, 3) := by decide +kernel
theorem dX12_cutsUp_275 : decode cX12_cutsUp 275 = .ok (.iload_n 1, 1) := by decide +kernel
theorem dX12_cutsUp_276 : decode cX12_cutsUp 276 = .ok (.aload_n 0, 1) := by decide +kernel
theorem dX12_cutsUp_277 : decode cX12_cutsUp 277 = .ok (.iload_n 1, 1) := by decide +kernel
theorem dX12_cutsUp_278 : decode cX12_cutsUp 278 = .ok (.iload_n 2, 1) := by decide +kernel
theorem dX12_cutsUp_279 : decode cX12_cutsUp 279 = .ok (.aload_n 0, 1) := by decide +kernel
theorem dX12_cutsUp_280 : decode cX12_cutsUp 280 = .ok (.iload_n 1, 1) := by decide +kernel
theorem dX12_cutsUp_281 : decode cX12_cutsUp 281 = .ok (.iconst 1, 1) := by decide +kernel
theorem dX12_cutsUp_282 : decode cX12_cutsUp 282 = .ok (.iadd, 1) := by decide +kernel
theorem dX12_cutsUp_283 : decode cX12_cutsUp 283 = .ok (.invokevirtual 196, 3) := by decide +kernel
theorem dX12_cutsUp_286 : decode cX12_cutsUp 286 = .ok (.invokevirtual 211, 3) := by decide +kernel
theorem dX12_cutsUp_289 : decode cX12_cutsUp 289 = .ok (.iadd, 1) := by decide +kernel
theorem dX12_cutsUp_290 : decode cX12_cutsUp 290 = .ok (.istore_n 1, 1) := by decide +kernel
theorem dX12_cutsUp_291 : decode cX12_cutsUp 291 = .ok (.goto (-284), 3) := by decide +kernel
theorem dX12_cutsUp_294 : decode cX12_cutsUp 294 = .ok (.return_, 1) := by decide +kernel
theorem dX12_isLong_0 : decode cX12_isLong 0 = .ok (.iload_n 0, 1) := by decide +kernel
theorem dX12_isLong_1 : decode cX12_isLong 1 = .ok (.iconst 0, 1) := by decide +kernel
theorem dX12_isLong_2 : decode cX12_isLong 2 = .ok (.bipush 60, 2) := by decide +kernel
theorem dX12_isLong_4 : decode cX12_isLong 4 = .ok (.invokestatic 313, 3) := by decide +kernel
theorem dX12_isLong_7 : decode cX12_isLong 7 = .ok (.ireturn, 1) := by decide +kernel
theorem dX12_goes_0 : decode cX12_goes 0 = .ok (.iconst 0, 1) := by decide +kernel
theorem dX12_goes_1 : decode cX12_goes 1 = .ok (.istore_n 2, 1) := by decide +kernel
theorem dX12_goes_2 : decode cX12_goes 2 = .ok (.iload_n 2, 1) := by decide +kernel
theorem dX12_goes_3 : decode cX12_goes 3 = .ok (.iload_n 1, 1) := by decide +kernel
theorem dX12_goes_4 : decode cX12_goes 4 = .ok (.if_icmp .ge 13, 3) := by decide +kernel
theorem dX12_goes_7 : decode cX12_goes 7 = .ok (.aload_n 0, 1) := by decide +kernel
theorem dX12_goes_8 : decode cX12_goes 8 = .ok (.invokevirtual 368, 3) := by decide +kernel
theorem dX12_goes_11 : decode cX12_goes 11 = .ok (.iinc 2 1, 3) := by decide +kernel
theorem dX12_goes_14 : decode cX12_goes 14 = .ok (.goto (-12), 3) := by decide +kernel
theorem dX12_goes_17 : decode cX12_goes 17 = .ok (.return_, 1) := by decide +kernel
theorem dX12_days_0 : decode cX12_days 0 = .ok (.iload_n 1, 1) := by decide +kernel
theorem dX12_days_1 : decode cX12_days 1 = .ok (.invokestatic 383, 3) := by decide +kernel
theorem dX12_days_4 : decode cX12_days 4 = .ok (.ifCond .ne 5, 3) := by decide +kernel
theorem dX12_days_7 : decode cX12_days 7 = .ok (.iconst (-1), 1) := by decide +kernel
theorem dX12_days_8 : decode cX12_days 8 = .ok (.ireturn, 1) := by decide +kernel
theorem dX12_days_9 : decode cX12_days 9 = .ok (.iload_n 1, 1) := by decide +kernel
theorem dX12_days_10 : decode cX12_days 10 = .ok (.ifCond .ne 11, 3) := by decide +kernel
theorem dX12_days_13 : decode cX12_days 13 = .ok (.aload_n 0, 1) := by decide +kernel
theorem dX12_days_14 : decode cX12_days 14 = .ok (.getfield 110, 3) := by decide +kernel
theorem dX12_days_17 : decode cX12_days 17 = .ok (.bipush 36, 2) := by decide +kernel
theorem dX12_days_19 : decode cX12_days 19 = .ok (.iaload, 1) := by decide +kernel
theorem dX12_days_20 : decode cX12_days 20 = .ok (.ireturn, 1) := by decide +kernel
theorem dX12_days_21 : decode cX12_days 21 = .ok (.aload_n 0, 1) := by decide +kernel
theorem dX12_days_22 : decode cX12_days 22 = .ok (.invokevirtual 323, 3) := by decide +kernel
theorem dX12_days_25 : decode cX12_days 25 = .ok (.aload_n 0, 1) := by decide +kernel
theorem dX12_days_26 : decode cX12_days 26 = .ok (.iload_n 1, 1) := by decide +kernel
theorem dX12_days_27 : decode cX12_days 27 = .ok (.invokevirtual 386, 3) := by decide +kernel
theorem dX12_days_30 : decode cX12_days 30 = .ok (.aload_n 0, 1) := by decide +kernel
theorem dX12_days_31 : decode cX12_days 31 = .ok (.invokevirtual 380, 3) := by decide +kernel
theorem dX12_days_34 : decode cX12_days 34 = .ok (.aload_n 0, 1) := by decide +kernel
theorem dX12_days_35 : decode cX12_days 35 = .ok (.getfield 110, 3) := by decide +kernel
theorem dX12_days_38 : decode cX12_days 38 = .ok (.bipush 36, 2) := by decide +kernel
theorem dX12_days_40 : decode cX12_days 40 = .ok (.iaload, 1) := by decide +kernel
theorem dX12_days_41 : decode cX12_days 41 = .ok (.ireturn, 1) := by decide +kernel
section WK9
variable {p : Program} {l : Launch} {e : Env} {s : State} {m : MethodId} {args : Array Value} {below : List Frame} {meth : Method} {c : Code} {ω : WW}

set_option maxHeartbeats 4000000 in
set_option maxRecDepth 100000 in
theorem wX12_comesOut_b42 (hW : FWM ω) (C : Cx ω p s m args c cX12_comesOut 3 RX12) (hr : meth.sig.returnType = none) (hk : meth.locks = false) {μo : Mem} {x1 : Int32} {x2 : Int32} {rec : Mem → Option Mem} (hrec : ∀ (ν : Mem) (H : Heap) (locs : List Loc) (ls : Array Slot), Hd ω ν H → FS ω s H locs → lv_has ls 3 [(0, .ref (wB ω + 0)), (1, .int x1)] → rec ν = some μo → W p l e (rmd 2) s m args below meth c H locs 0 0 (MQ below (QR ω none μo) args s 0 0 (wA ω)) (F0 m 0 ls [])) {μ : Mem} {H : Heap} {locs : List Loc} {ls : Array Slot} (hH : Hd ω μ H) (hS : FS ω s H locs) (hl : lv_has ls 3 [(0, .ref (wB ω + 0)), (1, .int x1), (2, .int x2)]) (h : fX12_comesOut_b42 rec x1 x2 μ = some μo) : W p l e (rmd 2) s m args below meth c H locs 0 0 (MQ below (QR ω none μo) args s 0 0 (wA ω)) (F0 m 42 ls []) := by
  have hx := C.1
  have hb := C.2.1
  unfold fX12_comesOut_b42 at h
  refine lv_aload_n hx hb dX12_comesOut_42 rfl (lv_at hl 0 rfl) ?_
  refine lv_dup hx hb dX12_comesOut_43 rfl ?_
  refine g_1230 C hH (jM_0 hW) dX12_comesOut_44 ?_
  refine lv_iconst (v := 1) hx hb dX12_comesOut_47 (by decide) ?_
  refine lv_isub hx hb dX12_comesOut_48 ?_
  obtain ⟨μ4, e5, h⟩ := bd_e h
  refine p_1230 C hH hS (jM_0 hW) dX12_comesOut_49 (fun H locs hH hS => ?_)
  have hH := Hd.to e5 hH
  refine lv_aload_n hx hb dX12_comesOut_52 rfl (lv_at hl 0 rfl) ?_
  refine lv_iload_n hx hb dX12_comesOut_53 rfl (lv_at hl 2 rfl) ?_
  refine lv_bipush (v := 8) hx hb dX12_comesOut_54 (by decide) ?_
  refine lv_icmp_ne (tgt := 63) hx hb dX12_comesOut_56 (by decide) (fun hc => ?_) (fun hc => ?_)
  · have h := ite_f hc h
    refine lv_iload_n hx hb dX12_comesOut_63 rfl (lv_at hl 2 rfl) ?_
    refine lv_bipush (v := 9) hx hb dX12_comesOut_64 (by decide) ?_
    refine lv_icmp_ne (tgt := 73) hx hb dX12_comesOut_66 (by decide) (fun hc => ?_) (fun hc => ?_)
    · have h := ite_f hc h
      refine lv_iload_n hx hb dX12_comesOut_73 rfl (lv_at hl 2 rfl) ?_
      refine lv_bipush (v := 10) hx hb dX12_comesOut_74 (by decide) ?_
      refine lv_icmp_ne (tgt := 83) hx hb dX12_comesOut_76 (by decide) (fun hc => ?_) (fun hc => ?_)
      · have h := ite_f hc h
        refine lv_iconst (v := 5) hx hb dX12_comesOut_83 (by decide) ?_
        refine lv_iconst (v := 0) hx hb dX12_comesOut_84 (by decide) ?_
        obtain ⟨μ7, e6, h⟩ := b1_e h
        refine cVv (as := [.int 5, .int 0]) (rest := []) (c_X12_emit hW e6) C hl.1 hH hS rfl (jM_0 hW) rfl wd_50 wd_1483 mw_X12_emit wd_1481 rfl (rm_ok (by decide) (by decide)) (Nat.le_of_ble_eq_true rfl) ⟨Nat.zero_le _, Nat.zero_le _⟩ (by decide) dX12_comesOut_85 (fun H locs hH hS => ?_)
        refine lv_goto (tgt := 0) hx hb dX12_comesOut_88 (by decide) ?_
        exact hrec _ H locs ls hH hS (lv_sub hl [0, 1] rfl) h
      · have h := ite_t hc h
        refine lv_iconst (v := 4) hx hb dX12_comesOut_79 (by decide) ?_
        refine lv_goto (tgt := 84) hx hb dX12_comesOut_80 (by decide) ?_
        refine lv_iconst (v := 0) hx hb dX12_comesOut_84 (by decide) ?_
        obtain ⟨μ9, e8, h⟩ := b1_e h
        refine cVv (as := [.int 4, .int 0]) (rest := []) (c_X12_emit hW e8) C hl.1 hH hS rfl (jM_0 hW) rfl wd_50 wd_1483 mw_X12_emit wd_1481 rfl (rm_ok (by decide) (by decide)) (Nat.le_of_ble_eq_true rfl) ⟨Nat.zero_le _, Nat.zero_le _⟩ (by decide) dX12_comesOut_85 (fun H locs hH hS => ?_)
        refine lv_goto (tgt := 0) hx hb dX12_comesOut_88 (by decide) ?_
        exact hrec _ H locs ls hH hS (lv_sub hl [0, 1] rfl) h
    · have h := ite_t hc h
      refine lv_iconst (v := 3) hx hb dX12_comesOut_69 (by decide) ?_
      refine lv_goto (tgt := 84) hx hb dX12_comesOut_70 (by decide) ?_
      refine lv_iconst (v := 0) hx hb dX12_comesOut_84 (by decide) ?_
      obtain ⟨μ11, e10, h⟩ := b1_e h
      refine cVv (as := [.int 3, .int 0]) (rest := []) (c_X12_emit hW e10) C hl.1 hH hS rfl (jM_0 hW) rfl wd_50 wd_1483 mw_X12_emit wd_1481 rfl (rm_ok (by decide) (by decide)) (Nat.le_of_ble_eq_true rfl) ⟨Nat.zero_le _, Nat.zero_le _⟩ (by decide) dX12_comesOut_85 (fun H locs hH hS => ?_)
      refine lv_goto (tgt := 0) hx hb dX12_comesOut_88 (by decide) ?_
      exact hrec _ H locs ls hH hS (lv_sub hl [0, 1] rfl) h
  · have h := ite_t hc h
    refine lv_iconst (v := 2) hx hb dX12_comesOut_59 (by decide) ?_
    refine lv_goto (tgt := 84) hx hb dX12_comesOut_60 (by decide) ?_
    refine lv_iconst (v := 0) hx hb dX12_comesOut_84 (by decide) ?_
    obtain ⟨μ13, e12, h⟩ := b1_e h
    refine cVv (as := [.int 2, .int 0]) (rest := []) (c_X12_emit hW e12) C hl.1 hH hS rfl (jM_0 hW) rfl wd_50 wd_1483 mw_X12_emit wd_1481 rfl (rm_ok (by decide) (by decide)) (Nat.le_of_ble_eq_true rfl) ⟨Nat.zero_le _, Nat.zero_le _⟩ (by decide) dX12_comesOut_85 (fun H locs hH hS => ?_)
    refine lv_goto (tgt := 0) hx hb dX12_comesOut_88 (by decide) ?_
    exact hrec _ H locs ls hH hS (lv_sub hl [0, 1] rfl) h
set_option maxHeartbeats 4000000 in
set_option maxRecDepth 100000 in
theorem wX12_comesOut_s0 (hW : FWM ω) (C : Cx ω p s m args c cX12_comesOut 3 RX12) (hr : meth.sig.returnType = none) (hk : meth.locks = false) {μo : Mem} {x1 : Int32} {rec : Mem → Option Mem} (hrec : ∀ (ν : Mem) (H : Heap) (locs : List Loc) (ls : Array Slot), Hd ω ν H → FS ω s H locs → lv_has ls 3 [(0, .ref (wB ω + 0)), (1, .int x1)] → rec ν = some μo → W p l e (rmd 2) s m args below meth c H locs 0 0 (MQ below (QR ω none μo) args s 0 0 (wA ω)) (F0 m 0 ls [])) {μ : Mem} {H : Heap} {locs : List Loc} {ls : Array Slot} (hH : Hd ω μ H) (hS : FS ω s H locs) (hl : lv_has ls 3 [(0, .ref (wB ω + 0)), (1, .int x1)]) (h : fX12_comesOut_s0 rec x1 μ = some μo) : W p l e (rmd 2) s m args below meth c H locs 0 0 (MQ below (QR ω none μo) args s 0 0 (wA ω)) (F0 m 0 ls []) := by
  have hx := C.1
  have hb := C.2.1
  unfold fX12_comesOut_s0 at h
  refine lv_aload_n hx hb dX12_comesOut_0 rfl (lv_at hl 0 rfl) ?_
  refine g_1230 C hH (jM_0 hW) dX12_comesOut_1 ?_
  refine lv_if_le (tgt := 91) hx hb dX12_comesOut_4 (by decide) (fun hc => ?_) (fun hc => ?_)
  · have h := ite_t hc h
    exact h_vret C hr hk hH hS (by cases h; rfl) dX12_comesOut_91
  · have h := ite_f hc h
    refine lv_aload_n hx hb dX12_comesOut_7 rfl (lv_at hl 0 rfl) ?_
    refine g_1229 (i := 28) C hH (jM_0 hW) rfl dX12_comesOut_8 ?_
    refine lv_aload_n hx hb dX12_comesOut_11 rfl (lv_at hl 0 rfl) ?_
    refine g_1230 C hH (jM_0 hW) dX12_comesOut_12 ?_
    refine lv_iconst (v := 1) hx hb dX12_comesOut_15 (by decide) ?_
    refine lv_isub hx hb dX12_comesOut_16 ?_
    obtain ⟨b1, h⟩ := gd_e h
    refine h_iald C hH (jM_28 hW).1 (jM_28 hW).2.1 b1 dX12_comesOut_17 ?_
    obtain ⟨y2, e3, h⟩ := bd_e h
    refine h_topi e3 ?_
    refine lv_istore_n (lv' := [(2, .int y2), (0, .ref (wB ω + 0)), (1, .int x1)]) hx hb dX12_comesOut_18 rfl hl (by decide) rfl (fun ls hl => ?_)
    refine lv_iload_n hx hb dX12_comesOut_19 rfl (lv_at hl 0 rfl) ?_
    refine lv_bipush (v := 6) hx hb dX12_comesOut_20 (by decide) ?_
    refine lv_icmp_eq (tgt := 41) hx hb dX12_comesOut_22 (by decide) (fun hc => ?_) (fun hc => ?_)
    · have h := ite_t hc h
      exact h_vret C hr hk hH hS (by cases h; rfl) dX12_comesOut_41
    · have h := ite_f hc h
      refine lv_iload_n hx hb dX12_comesOut_25 rfl (lv_at hl 2 rfl) ?_
      refine lv_if_eq (tgt := 42) hx hb dX12_comesOut_26 (by decide) (fun hc => ?_) (fun hc => ?_)
      · have h := ite_t hc h
        exact wX12_comesOut_b42 hW C hr hk hrec hH hS (lv_sub hl [1, 2, 0] rfl) h
      · have h := ite_f hc h
        refine lv_iload_n hx hb dX12_comesOut_29 rfl (lv_at hl 0 rfl) ?_
        refine lv_bipush (v := 8) hx hb dX12_comesOut_30 (by decide) ?_
        refine lv_icmp_eq (tgt := 41) hx hb dX12_comesOut_32 (by decide) (fun hc => ?_) (fun hc => ?_)
        · have h := ite_t hc h
          exact h_vret C hr hk hH hS (by cases h; rfl) dX12_comesOut_41
        · have h := ite_f hc h
          refine lv_iload_n hx hb dX12_comesOut_35 rfl (lv_at hl 0 rfl) ?_
          refine lv_bipush (v := 9) hx hb dX12_comesOut_36 (by decide) ?_
          refine lv_icmp_ne (tgt := 42) hx hb dX12_comesOut_38 (by decide) (fun hc => ?_) (fun hc => ?_)
          · have h := ite_f hc h
            exact wX12_comesOut_b42 hW C hr hk hrec hH hS (lv_sub hl [1, 2, 0] rfl) h
          · have h := ite_t hc h
            exact h_vret C hr hk hH hS (by cases h; rfl) dX12_comesOut_41
theorem wX12_comesOut_l0 (hW : FWM ω) (C : Cx ω p s m args c cX12_comesOut 3 RX12) (hr : meth.sig.returnType = none) (hk : meth.locks = false) {μo : Mem} {x1 : Int32} : ∀ (n : Nat) (μ : Mem) (H : Heap) (locs : List Loc) (ls : Array Slot), Hd ω μ H → FS ω s H locs → lv_has ls 3 [(0, .ref (wB ω + 0)), (1, .int x1)] → fX12_comesOut_l0 x1 n μ = some μo → W p l e (rmd 2) s m args below meth c H locs 0 0 (MQ below (QR ω none μo) args s 0 0 (wA ω)) (F0 m 0 ls []) := by
  intro n
  induction n with
  | zero => intro μ H locs ls hH hS hl h; cases h
  | succ n ih => intro μ H locs ls hH hS hl h; exact wX12_comesOut_s0 hW C hr hk ih hH hS hl h
set_option maxHeartbeats 4000000 in
set_option maxRecDepth 100000 in
theorem wX12_comesOut_e (hW : FWM ω) (C : Cx ω p s m args c cX12_comesOut 3 RX12) (hr : meth.sig.returnType = none) (hk : meth.locks = false) {μo : Mem} {x1 : Int32} {μ : Mem} {H : Heap} {locs : List Loc} {ls : Array Slot} (hH : Hd ω μ H) (hS : FS ω s H locs) (hl : lv_has ls 3 [(0, .ref (wB ω + 0)), (1, .int x1)]) (h : fX12_comesOut x1 μ = some μo) : W p l e (rmd 2) s m args below meth c H locs 0 0 (MQ below (QR ω none μo) args s 0 0 (wA ω)) (F0 m 0 ls []) := by
  have hx := C.1
  have hb := C.2.1
  unfold fX12_comesOut at h
  exact wX12_comesOut_l0 hW C hr hk FU _ H locs ls hH hS hl h
theorem c_X12_comesOut {l : Launch} {ω : WW} {x1 : Int32} (hW : FWM ω) {μ : Mem} {μo : Mem} (h : fX12_comesOut x1 μ = some μo) : Con l yX12_comesOut cX12_comesOut 3 none 2 ω [.ref (wB ω + 0), .int x1] μ none μo :=
  con_of (by decide) (Nat.le_of_ble_eq_true rfl) (fun p e s m args below meth c ls C hr hk hl hH hS => wX12_comesOut_e hW C hr hk hH hS (lv_sub hl [0, 1] rfl) h)
set_option maxHeartbeats 4000000 in
set_option maxRecDepth 100000 in
theorem wX12_sumNow_s4 (hW : FWM ω) (C : Cx ω p s m args c cX12_sumNow 4 RX12) (hr : meth.sig.returnType = some .int) (hk : meth.locks = false) {rr : Int32} {μ : Mem} {x1 : Int32} {x2 : Int32} {x3 : Int32} {rec : Int32 → Int32 → Option Int32} (hrec : ∀ (z2 : Int32) (z3 : Int32) (H : Heap) (locs : List Loc) (ls : Array Slot), Hd ω μ H → FS ω s H locs → lv_has ls 4 [(0, .ref (wB ω + 0)), (1, .int x1), (2, .int z2), (3, .int z3)] → rec z2 z3 = some rr → W p l e (rmd 1) s m args below meth c H locs 0 0 (MQ below (QR ω (some (.int rr)) μ) args s 0 0 (wA ω)) (F0 m 4 ls [])) {H : Heap} {locs : List Loc} {ls : Array Slot} (hH : Hd ω μ H) (hS : FS ω s H locs) (hl : lv_has ls 4 [(0, .ref (wB ω + 0)), (1, .int x1), (2, .int x2), (3, .int x3)]) (h : fX12_sumNow_s4 rec x1 x2 x3 μ = some rr) : W p l e (rmd 1) s m args below meth c H locs 0 0 (MQ below (QR ω (some (.int rr)) μ) args s 0 0 (wA ω)) (F0 m 4 ls []) := by
  have hx := C.1
  have hb := C.2.1
  unfold fX12_sumNow_s4 at h
  refine lv_iload_n hx hb dX12_sumNow_4 rfl (lv_at hl 3 rfl) ?_
  refine lv_iload_n hx hb dX12_sumNow_5 rfl (lv_at hl 1 rfl) ?_
  refine lv_bipush (v := 6) hx hb dX12_sumNow_6 (by decide) ?_
  refine lv_iadd hx hb dX12_sumNow_8 ?_
  refine lv_icmp_ge (tgt := 27) hx hb dX12_sumNow_9 (by decide) (fun hc => ?_) (fun hc => ?_)
  · have h := ite_t hc h
    refine lv_iload_n hx hb dX12_sumNow_27 rfl (lv_at hl 2 rfl) ?_
    exact h_iret C hr hk hH hS rfl (by cases h; rfl) dX12_sumNow_28
  · have h := ite_f hc h
    refine lv_iload_n hx hb dX12_sumNow_12 rfl (lv_at hl 2 rfl) ?_
    refine lv_aload_n hx hb dX12_sumNow_13 rfl (lv_at hl 0 rfl) ?_
    refine g_1234 (i := 31) C hH (jM_0 hW) rfl dX12_sumNow_14 ?_
    refine lv_iload_n hx hb dX12_sumNow_17 rfl (lv_at hl 3 rfl) ?_
    obtain ⟨b1, h⟩ := gd_e h
    refine h_iald C hH (jM_31 hW).1 (jM_31 hW).2.1 b1 dX12_sumNow_18 ?_
    refine lv_iadd hx hb dX12_sumNow_19 ?_
    obtain ⟨y2, e3, h⟩ := bd_e h
    refine h_topi e3 ?_
    refine lv_istore_n (lv' := [(2, .int y2), (0, .ref (wB ω + 0)), (1, .int x1), (3, .int x3)]) hx hb dX12_sumNow_20 rfl hl (by decide) rfl (fun ls hl => ?_)
    refine lv_iinc (v := x3 + 1) (lv' := [(3, .int (x3 + 1)), (2, .int y2), (0, .ref (wB ω + 0)), (1, .int x1)]) hx hb dX12_sumNow_21 hl (k := 3) rfl rfl (by decide) rfl (fun ls hl => ?_)
    refine lv_goto (tgt := 4) hx hb dX12_sumNow_24 (by decide) ?_
    exact hrec _ _ H locs ls hH hS (lv_sub hl [2, 3, 1, 0] rfl) h
theorem wX12_sumNow_l4 (hW : FWM ω) (C : Cx ω p s m args c cX12_sumNow 4 RX12) (hr : meth.sig.returnType = some .int) (hk : meth.locks = false) {rr : Int32} {μ : Mem} {x1 : Int32} : ∀ (n : Nat) (x2 : Int32) (x3 : Int32) (H : Heap) (locs : List Loc) (ls : Array Slot), Hd ω μ H → FS ω s H locs → lv_has ls 4 [(0, .ref (wB ω + 0)), (1, .int x1), (2, .int x2), (3, .int x3)] → fX12_sumNow_l4 x1 μ n x2 x3 = some rr → W p l e (rmd 1) s m args below meth c H locs 0 0 (MQ below (QR ω (some (.int rr)) μ) args s 0 0 (wA ω)) (F0 m 4 ls []) := by
  intro n
  induction n with
  | zero => intro x2 x3 H locs ls hH hS hl h; cases h
  | succ n ih => intro x2 x3 H locs ls hH hS hl h; exact wX12_sumNow_s4 hW C hr hk ih hH hS hl h
set_option maxHeartbeats 4000000 in
set_option maxRecDepth 100000 in
theorem wX12_sumNow_e (hW : FWM ω) (C : Cx ω p s m args c cX12_sumNow 4 RX12) (hr : meth.sig.returnType = some .int) (hk : meth.locks = false) {rr : Int32} {μ : Mem} {x1 : Int32} {H : Heap} {locs : List Loc} {ls : Array Slot} (hH : Hd ω μ H) (hS : FS ω s H locs) (hl : lv_has ls 4 [(0, .ref (wB ω + 0)), (1, .int x1)]) (h : fX12_sumNow x1 μ = some rr) : W p l e (rmd 1) s m args below meth c H locs 0 0 (MQ below (QR ω (some (.int rr)) μ) args s 0 0 (wA ω)) (F0 m 0 ls []) := by
  have hx := C.1
  have hb := C.2.1
  unfold fX12_sumNow at h
  refine lv_iconst (v := 0) hx hb dX12_sumNow_0 (by decide) ?_
  refine lv_istore_n (lv' := [(2, .int 0), (0, .ref (wB ω + 0)), (1, .int x1)]) hx hb dX12_sumNow_1 rfl hl (by decide) rfl (fun ls hl => ?_)
  refine lv_iload_n hx hb dX12_sumNow_2 rfl (lv_at hl 2 rfl) ?_
  refine lv_istore_n (lv' := [(3, .int x1), (2, .int 0), (0, .ref (wB ω + 0)), (1, .int x1)]) hx hb dX12_sumNow_3 rfl hl (by decide) rfl (fun ls hl => ?_)
  exact wX12_sumNow_l4 hW C hr hk FU _ _ H locs ls hH hS (lv_sub hl [2, 3, 1, 0] rfl) h
theorem c_X12_sumNow {l : Launch} {ω : WW} {x1 : Int32} (hW : FWM ω) {μ : Mem} {rr : Int32} (h : fX12_sumNow x1 μ = some rr) : Con l yX12_sumNow cX12_sumNow 4 (some .int) 1 ω [.ref (wB ω + 0), .int x1] μ (some (.int rr)) μ :=
  con_of (by decide) (Nat.le_of_ble_eq_true rfl) (fun p e s m args below meth c ls C hr hk hl hH hS => wX12_sumNow_e hW C hr hk hH hS (lv_sub hl [0, 1] rfl) h)
set_option maxHeartbeats 4000000 in
set_option maxRecDepth 100000 in
theorem wX12_noneBits_s4 (hW : FWM ω) (C : Cx ω p s m args c cX12_noneBits 4 RX12) (hr : meth.sig.returnType = some .int) (hk : meth.locks = false) {rr : Int32} {μ : Mem} {x1 : Int32} {x2 : Int32} {x3 : Int32} {rec : Int32 → Int32 → Option Int32} (hrec : ∀ (z2 : Int32) (z3 : Int32) (H : Heap) (locs : List Loc) (ls : Array Slot), Hd ω μ H → FS ω s H locs → lv_has ls 4 [(0, .ref (wB ω + 0)), (1, .int x1), (2, .int z2), (3, .int z3)] → rec z2 z3 = some rr → W p l e (rmd 2) s m args below meth c H locs 0 0 (MQ below (QR ω (some (.int rr)) μ) args s 0 0 (wA ω)) (F0 m 4 ls [])) {H : Heap} {locs : List Loc} {ls : Array Slot} (hH : Hd ω μ H) (hS : FS ω s H locs) (hl : lv_has ls 4 [(0, .ref (wB ω + 0)), (1, .int x1), (2, .int x2), (3, .int x3)]) (h : fX12_noneBits_s4 rec x1 x2 x3 μ = some rr) : W p l e (rmd 2) s m args below meth c H locs 0 0 (MQ below (QR ω (some (.int rr)) μ) args s 0 0 (wA ω)) (F0 m 4 ls []) := by
  have hx := C.1
  have hb := C.2.1
  unfold fX12_noneBits_s4 at h
  refine lv_iload_n hx hb dX12_noneBits_4 rfl (lv_at hl 3 rfl) ?_
  refine lv_aload_n hx hb dX12_noneBits_5 rfl (lv_at hl 0 rfl) ?_
  obtain ⟨r2, e1, h⟩ := b1_e h
  refine cVi (as := []) (rest := [.int x3]) (c_X12_many hW e1) C hl.1 hH hS rfl (jM_0 hW) rfl wd_31 wd_1182 mw_X12_many wd_1180 rfl (rm_ok (by decide) (by decide)) (Nat.le_of_ble_eq_true rfl) ⟨Nat.zero_le _, Nat.zero_le _⟩ (by decide) dX12_noneBits_6 (fun H locs hH hS => ?_)
  refine lv_icmp_ge (tgt := 35) hx hb dX12_noneBits_9 (by decide) (fun hc => ?_) (fun hc => ?_)
  · have h := ite_t hc h
    refine lv_iload_n hx hb dX12_noneBits_35 rfl (lv_at hl 2 rfl) ?_
    exact h_iret C hr hk hH hS rfl (by cases h; rfl) dX12_noneBits_36
  · have h := ite_f hc h
    refine lv_aload_n hx hb dX12_noneBits_12 rfl (lv_at hl 0 rfl) ?_
    refine g_1234 (i := 31) C hH (jM_0 hW) rfl dX12_noneBits_13 ?_
    refine lv_iload_n hx hb dX12_noneBits_16 rfl (lv_at hl 1 rfl) ?_
    refine lv_iload_n hx hb dX12_noneBits_17 rfl (lv_at hl 3 rfl) ?_
    refine lv_iadd hx hb dX12_noneBits_18 ?_
    obtain ⟨b3, h⟩ := gd_e h
    refine h_iald C hH (jM_31 hW).1 (jM_31 hW).2.1 b3 dX12_noneBits_19 ?_
    refine lv_if_ne (tgt := 29) hx hb dX12_noneBits_20 (by decide) (fun hc => ?_) (fun hc => ?_)
    · have h := ite_f hc h
      refine lv_iinc (v := x3 + 1) (lv' := [(3, .int (x3 + 1)), (0, .ref (wB ω + 0)), (1, .int x1), (2, .int x2)]) hx hb dX12_noneBits_29 hl (k := 3) rfl rfl (by decide) rfl (fun ls hl => ?_)
      refine lv_goto (tgt := 4) hx hb dX12_noneBits_32 (by decide) ?_
      exact hrec _ _ H locs ls hH hS (lv_sub hl [1, 2, 3, 0] rfl) h
    · have h := ite_t hc h
      refine lv_iload_n hx hb dX12_noneBits_23 rfl (lv_at hl 2 rfl) ?_
      refine lv_iconst (v := 1) hx hb dX12_noneBits_24 (by decide) ?_
      refine lv_iload_n hx hb dX12_noneBits_25 rfl (lv_at hl 3 rfl) ?_
      refine lv_ishl hx hb dX12_noneBits_26 ?_
      refine lv_ior hx hb dX12_noneBits_27 ?_
      obtain ⟨y4, e5, h⟩ := bd_e h
      refine h_topi e5 ?_
      refine lv_istore_n (lv' := [(2, .int y4), (0, .ref (wB ω + 0)), (1, .int x1), (3, .int x3)]) hx hb dX12_noneBits_28 rfl hl (by decide) rfl (fun ls hl => ?_)
      refine lv_iinc (v := x3 + 1) (lv' := [(3, .int (x3 + 1)), (2, .int y4), (0, .ref (wB ω + 0)), (1, .int x1)]) hx hb dX12_noneBits_29 hl (k := 3) rfl rfl (by decide) rfl (fun ls hl => ?_)
      refine lv_goto (tgt := 4) hx hb dX12_noneBits_32 (by decide) ?_
      exact hrec _ _ H locs ls hH hS (lv_sub hl [2, 3, 1, 0] rfl) h
theorem wX12_noneBits_l4 (hW : FWM ω) (C : Cx ω p s m args c cX12_noneBits 4 RX12) (hr : meth.sig.returnType = some .int) (hk : meth.locks = false) {rr : Int32} {μ : Mem} {x1 : Int32} : ∀ (n : Nat) (x2 : Int32) (x3 : Int32) (H : Heap) (locs : List Loc) (ls : Array Slot), Hd ω μ H → FS ω s H locs → lv_has ls 4 [(0, .ref (wB ω + 0)), (1, .int x1), (2, .int x2), (3, .int x3)] → fX12_noneBits_l4 x1 μ n x2 x3 = some rr → W p l e (rmd 2) s m args below meth c H locs 0 0 (MQ below (QR ω (some (.int rr)) μ) args s 0 0 (wA ω)) (F0 m 4 ls []) := by
  intro n
  induction n with
  | zero => intro x2 x3 H locs ls hH hS hl h; cases h
  | succ n ih => intro x2 x3 H locs ls hH hS hl h; exact wX12_noneBits_s4 hW C hr hk ih hH hS hl h
set_option maxHeartbeats 4000000 in
set_option maxRecDepth 100000 in
theorem wX12_noneBits_e (hW : FWM ω) (C : Cx ω p s m args c cX12_noneBits 4 RX12) (hr : meth.sig.returnType = some .int) (hk : meth.locks = false) {rr : Int32} {μ : Mem} {x1 : Int32} {H : Heap} {locs : List Loc} {ls : Array Slot} (hH : Hd ω μ H) (hS : FS ω s H locs) (hl : lv_has ls 4 [(0, .ref (wB ω + 0)), (1, .int x1)]) (h : fX12_noneBits x1 μ = some rr) : W p l e (rmd 2) s m args below meth c H locs 0 0 (MQ below (QR ω (some (.int rr)) μ) args s 0 0 (wA ω)) (F0 m 0 ls []) := by
  have hx := C.1
  have hb := C.2.1
  unfold fX12_noneBits at h
  refine lv_iconst (v := 0) hx hb dX12_noneBits_0 (by decide) ?_
  refine lv_istore_n (lv' := [(2, .int 0), (0, .ref (wB ω + 0)), (1, .int x1)]) hx hb dX12_noneBits_1 rfl hl (by decide) rfl (fun ls hl => ?_)
  refine lv_iconst (v := 0) hx hb dX12_noneBits_2 (by decide) ?_
  refine lv_istore_n (lv' := [(3, .int 0), (2, .int 0), (0, .ref (wB ω + 0)), (1, .int x1)]) hx hb dX12_noneBits_3 rfl hl (by decide) rfl (fun ls hl => ?_)
  exact wX12_noneBits_l4 hW C hr hk FU _ _ H locs ls hH hS (lv_sub hl [2, 3, 1, 0] rfl) h
theorem c_X12_noneBits {l : Launch} {ω : WW} {x1 : Int32} (hW : FWM ω) {μ : Mem} {rr : Int32} (h : fX12_noneBits x1 μ = some rr) : Con l yX12_noneBits cX12_noneBits 4 (some .int) 2 ω [.ref (wB ω + 0), .int x1] μ (some (.int rr)) μ :=
  con_of (by decide) (Nat.le_of_ble_eq_true rfl) (fun p e s m args below meth c ls C hr hk hl hH hS => wX12_noneBits_e hW C hr hk hH hS (lv_sub hl [0, 1] rfl) h)
set_option maxHeartbeats 4000000 in
set_option maxRecDepth 100000 in
theorem wX12_count_b209 (hW : FWM ω) (C : Cx ω p s m args c cX12_count 4 RX12) (hr : meth.sig.returnType = some .int) (hk : meth.locks = false) {rr : Int32} {μo : Mem} {k0 : Int32} {k1 : Int32} {μ : Mem} {H : Heap} {locs : List Loc} {ls : Array Slot} (hH : Hd ω μ H) (hS : FS ω s H locs) (hl : lv_has ls 4 [(0, .ref (wB ω + 0))]) (h : fX12_count_b209 k0 k1 μ = some (rr, μo)) : W p l e (rmd 5) s m args below meth c H locs 0 0 (MQ below (QR ω (some (.int rr)) μo) args s 0 0 (wA ω)) (F0 m 209 ls [.int k1, .int k0]) := by
  have hx := C.1
  have hb := C.2.1
  unfold fX12_count_b209 at h
  refine lv_iadd hx hb dX12_count_209 ?_
  refine lv_aload_n hx hb dX12_count_210 rfl (lv_at hl 0 rfl) ?_
  refine g_1254 (i := 47) C hH (jM_0 hW) rfl dX12_count_211 ?_
  refine lv_iconst (v := 2) hx hb dX12_count_214 (by decide) ?_
  refine h_zald C hH (jM_47 hW).1 (jM_47 hW).2.1 (by decide) dX12_count_215 ?_
  refine h_topi (y := μ.1 47 2) rfl ?_
  refine lv_if_eq (tgt := 223) hx hb dX12_count_216 (by decide) (fun hc => ?_) (fun hc => ?_)
  · have h := ite_t hc h
    refine lv_iconst (v := 0) hx hb dX12_count_223 (by decide) ?_
    refine lv_iadd hx hb dX12_count_224 ?_
    exact h_iret C hr hk hH hS rfl (by cases h; rfl) dX12_count_225
  · have h := ite_f hc h
    refine lv_iconst (v := 1) hx hb dX12_count_219 (by decide) ?_
    refine lv_goto (tgt := 224) hx hb dX12_count_220 (by decide) ?_
    refine lv_iadd hx hb dX12_count_224 ?_
    exact h_iret C hr hk hH hS rfl (by cases h; rfl) dX12_count_225
set_option maxHeartbeats 4000000 in
set_option maxRecDepth 100000 in
theorem wX12_count_b195 (hW : FWM ω) (C : Cx ω p s m args c cX12_count 4 RX12) (hr : meth.sig.returnType = some .int) (hk : meth.locks = false) {rr : Int32} {μo : Mem} {k0 : Int32} {μ : Mem} {H : Heap} {locs : List Loc} {ls : Array Slot} (hH : Hd ω μ H) (hS : FS ω s H locs) (hl : lv_has ls 4 [(0, .ref (wB ω + 0))]) (h : fX12_count_b195 k0 μ = some (rr, μo)) : W p l e (rmd 5) s m args below meth c H locs 0 0 (MQ below (QR ω (some (.int rr)) μo) args s 0 0 (wA ω)) (F0 m 195 ls [.int k0]) := by
  have hx := C.1
  have hb := C.2.1
  unfold fX12_count_b195 at h
  refine lv_aload_n hx hb dX12_count_195 rfl (lv_at hl 0 rfl) ?_
  refine g_1254 (i := 47) C hH (jM_0 hW) rfl dX12_count_196 ?_
  refine lv_iconst (v := 1) hx hb dX12_count_199 (by decide) ?_
  refine h_zald C hH (jM_47 hW).1 (jM_47 hW).2.1 (by decide) dX12_count_200 ?_
  refine h_topi (y := μ.1 47 1) rfl ?_
  refine lv_if_eq (tgt := 208) hx hb dX12_count_201 (by decide) (fun hc => ?_) (fun hc => ?_)
  · have h := ite_t hc h
    refine lv_iconst (v := 0) hx hb dX12_count_208 (by decide) ?_
    exact wX12_count_b209 hW C hr hk hH hS hl h
  · have h := ite_f hc h
    refine lv_iconst (v := 1) hx hb dX12_count_204 (by decide) ?_
    refine lv_goto (tgt := 209) hx hb dX12_count_205 (by decide) ?_
    exact wX12_count_b209 hW C hr hk hH hS hl h
set_option maxHeartbeats 4000000 in
set_option maxRecDepth 100000 in
theorem wX12_count_s241 (hW : FWM ω) (C : Cx ω p s m args c cX12_count 4 RX12) (hr : meth.sig.returnType = some .int) (hk : meth.locks = false) {rr : Int32} {μo : Mem} {x2 : Int32} {x3 : Int32} {rec : Int32 → Int32 → Mem → Option (Int32 × Mem)} (hrec : ∀ (z2 : Int32) (z3 : Int32) (ν : Mem) (H : Heap) (locs : List Loc) (ls : Array Slot), Hd ω ν H → FS ω s H locs → lv_has ls 4 [(0, .ref (wB ω + 0)), (2, .int z2), (3, .int z3)] → rec z2 z3 ν = some (rr, μo) → W p l e (rmd 5) s m args below meth c H locs 0 0 (MQ below (QR ω (some (.int rr)) μo) args s 0 0 (wA ω)) (F0 m 241 ls [])) {μ : Mem} {H : Heap} {locs : List Loc} {ls : Array Slot} (hH : Hd ω μ H) (hS : FS ω s H locs) (hl : lv_has ls 4 [(0, .ref (wB ω + 0)), (2, .int x2), (3, .int x3)]) (h : fX12_count_s241 rec x2 x3 μ = some (rr, μo)) : W p l e (rmd 5) s m args below meth c H locs 0 0 (MQ below (QR ω (some (.int rr)) μo) args s 0 0 (wA ω)) (F0 m 241 ls []) := by
  have hx := C.1
  have hb := C.2.1
  unfold fX12_count_s241 at h
  refine lv_iload_n hx hb dX12_count_241 rfl (lv_at hl 2 rfl) ?_
  refine lv_aload_n hx hb dX12_count_242 rfl (lv_at hl 0 rfl) ?_
  obtain ⟨r33, e32, h⟩ := b1_e h
  refine cVi (as := []) (rest := [.int x3]) (c_X12_many hW e32) C hl.1 hH hS rfl (jM_0 hW) rfl wd_31 wd_1182 mw_X12_many wd_1180 rfl (rm_ok (by decide) (by decide)) (Nat.le_of_ble_eq_true rfl) ⟨Nat.zero_le _, Nat.zero_le _⟩ (by decide) dX12_count_243 (fun H locs hH hS => ?_)
  refine lv_icmp_ge (tgt := 263) hx hb dX12_count_246 (by decide) (fun hc => ?_) (fun hc => ?_)
  · have h := ite_t hc h
    refine lv_iload_n hx hb dX12_count_263 rfl (lv_at hl 1 rfl) ?_
    exact h_iret C hr hk hH hS rfl (by cases h; rfl) dX12_count_264
  · have h := ite_f hc h
    refine lv_iload_n hx hb dX12_count_249 rfl (lv_at hl 1 rfl) ?_
    refine lv_aload_n hx hb dX12_count_250 rfl (lv_at hl 0 rfl) ?_
    refine lv_iload_n hx hb dX12_count_251 rfl (lv_at hl 2 rfl) ?_
    obtain ⟨r36, μ35, e34, h⟩ := b2_e h
    refine cVi (as := [.int x3]) (rest := [.int x2]) (c_X12_fadesOf hW e34) C hl.1 hH hS rfl (jM_0 hW) rfl wd_61 wd_1541 mw_X12_fadesOf wd_1539 rfl (rm_ok (by decide) (by decide)) (Nat.le_of_ble_eq_true rfl) ⟨Nat.zero_le _, Nat.zero_le _⟩ (by decide) dX12_count_252 (fun H locs hH hS => ?_)
    refine lv_iadd hx hb dX12_count_255 ?_
    obtain ⟨y37, e38, h⟩ := bd_e h
    refine h_topi e38 ?_
    refine lv_istore_n (lv' := [(2, .int y37), (0, .ref (wB ω + 0)), (3, .int x3)]) hx hb dX12_count_256 rfl hl (by decide) rfl (fun ls hl => ?_)
    refine lv_iinc (v := x3 + 1) (lv' := [(3, .int (x3 + 1)), (2, .int y37), (0, .ref (wB ω + 0))]) hx hb dX12_count_257 hl (k := 2) rfl rfl (by decide) rfl (fun ls hl => ?_)
    refine lv_goto (tgt := 241) hx hb dX12_count_260 (by decide) ?_
    exact hrec _ _ _ H locs ls hH hS (lv_sub hl [2, 1, 0] rfl) h
theorem wX12_count_l241 (hW : FWM ω) (C : Cx ω p s m args c cX12_count 4 RX12) (hr : meth.sig.returnType = some .int) (hk : meth.locks = false) {rr : Int32} {μo : Mem} : ∀ (n : Nat) (x2 : Int32) (x3 : Int32) (μ : Mem) (H : Heap) (locs : List Loc) (ls : Array Slot), Hd ω μ H → FS ω s H locs → lv_has ls 4 [(0, .ref (wB ω + 0)), (2, .int x2), (3, .int x3)] → fX12_count_l241 n x2 x3 μ = some (rr, μo) → W p l e (rmd 5) s m args below meth c H locs 0 0 (MQ below (QR ω (some (.int rr)) μo) args s 0 0 (wA ω)) (F0 m 241 ls []) := by
  intro n
  induction n with
  | zero => intro x2 x3 μ H locs ls hH hS hl h; cases h
  | succ n ih => intro x2 x3 μ H locs ls hH hS hl h; exact wX12_count_s241 hW C hr hk ih hH hS hl h
set_option maxHeartbeats 4000000 in
set_option maxRecDepth 100000 in
theorem wX12_count_s275 (hW : FWM ω) (C : Cx ω p s m args c cX12_count 4 RX12) (hr : meth.sig.returnType = some .int) (hk : meth.locks = false) {rr : Int32} {μo : Mem} {x2 : Int32} {x3 : Int32} {μ : Mem} {rec : Int32 → Int32 → Option (Int32 × Mem)} (hrec : ∀ (z2 : Int32) (z3 : Int32) (H : Heap) (locs : List Loc) (ls : Array Slot), Hd ω μ H → FS ω s H locs → lv_has ls 4 [(0, .ref (wB ω + 0)), (2, .int z2), (3, .int z3)] → rec z2 z3 = some (rr, μo) → W p l e (rmd 5) s m args below meth c H locs 0 0 (MQ below (QR ω (some (.int rr)) μo) args s 0 0 (wA ω)) (F0 m 275 ls [])) {H : Heap} {locs : List Loc} {ls : Array Slot} (hH : Hd ω μ H) (hS : FS ω s H locs) (hl : lv_has ls 4 [(0, .ref (wB ω + 0)), (2, .int x2), (3, .int x3)]) (h : fX12_count_s275 rec x2 x3 μ = some (rr, μo)) : W p l e (rmd 5) s m args below meth c H locs 0 0 (MQ below (QR ω (some (.int rr)) μo) args s 0 0 (wA ω)) (F0 m 275 ls []) := by
  have hx := C.1
  have hb := C.2.1
  unfold fX12_count_s275 at h
  refine lv_iload_n hx hb dX12_count_275 rfl (lv_at hl 2 rfl) ?_
  refine lv_aload_n hx hb dX12_count_276 rfl (lv_at hl 0 rfl) ?_
  obtain ⟨r42, e41, h⟩ := b1_e h
  refine cVi (as := []) (rest := [.int x3]) (c_X12_many hW e41) C hl.1 hH hS rfl (jM_0 hW) rfl wd_31 wd_1182 mw_X12_many wd_1180 rfl (rm_ok (by decide) (by decide)) (Nat.le_of_ble_eq_true rfl) ⟨Nat.zero_le _, Nat.zero_le _⟩ (by decide) dX12_count_277 (fun H locs hH hS => ?_)
  refine lv_icmp_ge (tgt := 297) hx hb dX12_count_280 (by decide) (fun hc => ?_) (fun hc => ?_)
  · have h := ite_t hc h
    refine lv_iload_n hx hb dX12_count_297 rfl (lv_at hl 1 rfl) ?_
    exact h_iret C hr hk hH hS rfl (by cases h; rfl) dX12_count_298
  · have h := ite_f hc h
    refine lv_iload_n hx hb dX12_count_283 rfl (lv_at hl 1 rfl) ?_
    refine lv_aload_n hx hb dX12_count_284 rfl (lv_at hl 0 rfl) ?_
    refine lv_iload_n hx hb dX12_count_285 rfl (lv_at hl 2 rfl) ?_
    obtain ⟨r44, e43, h⟩ := b1_e h
    refine cVi (as := [.int x3]) (rest := [.int x2]) (c_X12_panesAt hW e43) C hl.1 hH hS rfl (jM_0 hW) rfl wd_55 wd_1514 mw_X12_panesAt wd_1512 rfl (rm_ok (by decide) (by decide)) (Nat.le_of_ble_eq_true rfl) ⟨Nat.zero_le _, Nat.zero_le _⟩ (by decide) dX12_count_286 (fun H locs hH hS => ?_)
    refine lv_iadd hx hb dX12_count_289 ?_
    obtain ⟨y45, e46, h⟩ := bd_e h
    refine h_topi e46 ?_
    refine lv_istore_n (lv' := [(2, .int y45), (0, .ref (wB ω + 0)), (3, .int x3)]) hx hb dX12_count_290 rfl hl (by decide) rfl (fun ls hl => ?_)
    refine lv_iinc (v := x3 + 1) (lv' := [(3, .int (x3 + 1)), (2, .int y45), (0, .ref (wB ω + 0))]) hx hb dX12_count_291 hl (k := 2) rfl rfl (by decide) rfl (fun ls hl => ?_)
    refine lv_goto (tgt := 275) hx hb dX12_count_294 (by decide) ?_
    exact hrec _ _ H locs ls hH hS (lv_sub hl [2, 1, 0] rfl) h
theorem wX12_count_l275 (hW : FWM ω) (C : Cx ω p s m args c cX12_count 4 RX12) (hr : meth.sig.returnType = some .int) (hk : meth.locks = false) {rr : Int32} {μo : Mem} {μ : Mem} : ∀ (n : Nat) (x2 : Int32) (x3 : Int32) (H : Heap) (locs : List Loc) (ls : Array Slot), Hd ω μ H → FS ω s H locs → lv_has ls 4 [(0, .ref (wB ω + 0)), (2, .int x2), (3, .int x3)] → fX12_count_l275 μ n x2 x3 = some (rr, μo) → W p l e (rmd 5) s m args below meth c H locs 0 0 (MQ below (QR ω (some (.int rr)) μo) args s 0 0 (wA ω)) (F0 m 275 ls []) := by
  intro n
  induction n with
  | zero => intro x2 x3 H locs ls hH hS hl h; cases h
  | succ n ih => intro x2 x3 H locs ls hH hS hl h; exact wX12_count_s275 hW C hr hk ih hH hS hl h
set_option maxHeartbeats 4000000 in
set_option maxRecDepth 100000 in
theorem wX12_count_e (hW : FWM ω) (C : Cx ω p s m args c cX12_count 4 RX12) (hr : meth.sig.returnType = some .int) (hk : meth.locks = false) {rr : Int32} {μo : Mem} {x1 : Int32} {μ : Mem} {H : Heap} {locs : List Loc} {ls : Array Slot} (hH : Hd ω μ H) (hS : FS ω s H locs) (hl : lv_has ls 4 [(0, .ref (wB ω + 0)), (1, .int x1)]) (h : fX12_count x1 μ = some (rr, μo)) : W p l e (rmd 5) s m args below meth c H locs 0 0 (MQ below (QR ω (some (.int rr)) μo) args s 0 0 (wA ω)) (F0 m 0 ls []) := by
  have hx := C.1
  have hb := C.2.1
  unfold fX12_count at h
  refine lv_aload_n hx hb dX12_count_0 rfl (lv_at hl 0 rfl) ?_
  obtain ⟨μ2, e1, h⟩ := b1_e h
  refine cVv (as := []) (rest := []) (c_X12_copies hW e1) C hl.1 hH hS rfl (jM_0 hW) rfl wd_54 wd_1510 mw_X12_copies wd_1508 rfl (rm_ok (by decide) (by decide)) (Nat.le_of_ble_eq_true rfl) ⟨Nat.zero_le _, Nat.zero_le _⟩ (by decide) dX12_count_1 (fun H locs hH hS => ?_)
  refine lv_iconst (v := 0) hx hb dX12_count_4 (by decide) ?_
  refine lv_istore_n (lv' := [(2, .int 0), (0, .ref (wB ω + 0)), (1, .int x1)]) hx hb dX12_count_5 rfl hl (by decide) rfl (fun ls hl => ?_)
  refine lv_iload_n hx hb dX12_count_6 rfl (lv_at hl 2 rfl) ?_
  by_cases b5 : x1 = 0
  · have h := ite_t b5 h
    refine lv_tableIn (tgt := 100) (off := 93) hx hb dX12_count_7 (by rw [b5]; decide) (by rw [b5]; decide) (by rw [b5]; rfl) (by decide) ?_
    refine lv_aload_n hx hb dX12_count_100 rfl (lv_at hl 1 rfl) ?_
    obtain ⟨r4, e3, h⟩ := b1_e h
    refine cVi (as := []) (rest := []) (c_X12_many hW e3) C hl.1 hH hS rfl (jM_0 hW) rfl wd_31 wd_1182 mw_X12_many wd_1180 rfl (rm_ok (by decide) (by decide)) (Nat.le_of_ble_eq_true rfl) ⟨Nat.zero_le _, Nat.zero_le _⟩ (by decide) dX12_count_101 (fun H locs hH hS => ?_)
    exact h_iret C hr hk hH hS rfl (by cases h; rfl) dX12_count_104
  have h := ite_f b5 h
  by_cases b6 : x1 = 1
  · have h := ite_t b6 h
    refine lv_tableIn (tgt := 105) (off := 98) hx hb dX12_count_7 (by rw [b6]; decide) (by rw [b6]; decide) (by rw [b6]; rfl) (by decide) ?_
    refine lv_aload_n hx hb dX12_count_105 rfl (lv_at hl 1 rfl) ?_
    refine g_1235 (i := 32) C hH (jM_0 hW) rfl dX12_count_106 ?_
    refine lv_bipush (v := 36) hx hb dX12_count_109 (by decide) ?_
    refine h_iald C hH (jM_32 hW).1 (jM_32 hW).2.1 (by decide) dX12_count_111 ?_
    refine h_topi (y := μ2.1 32 36) rfl ?_
    exact h_iret C hr hk hH hS rfl (by cases h; rfl) dX12_count_112
  have h := ite_f b6 h
  by_cases b7 : x1 = 2
  · have h := ite_t b7 h
    refine lv_tableIn (tgt := 113) (off := 106) hx hb dX12_count_7 (by rw [b7]; decide) (by rw [b7]; decide) (by rw [b7]; rfl) (by decide) ?_
    refine lv_aload_n hx hb dX12_count_113 rfl (lv_at hl 1 rfl) ?_
    refine g_1235 (i := 32) C hH (jM_0 hW) rfl dX12_count_114 ?_
    refine lv_bipush (v := 37) hx hb dX12_count_117 (by decide) ?_
    refine h_iald C hH (jM_32 hW).1 (jM_32 hW).2.1 (by decide) dX12_count_119 ?_
    refine h_topi (y := μ2.1 32 37) rfl ?_
    exact h_iret C hr hk hH hS rfl (by cases h; rfl) dX12_count_120
  have h := ite_f b7 h
  by_cases b10 : x1 = 3
  · have h := ite_t b10 h
    refine lv_tableIn (tgt := 121) (off := 114) hx hb dX12_count_7 (by rw [b10]; decide) (by rw [b10]; decide) (by rw [b10]; rfl) (by decide) ?_
    refine lv_aload_n hx hb dX12_count_121 rfl (lv_at hl 1 rfl) ?_
    refine lv_bipush (v := 12) hx hb dX12_count_122 (by decide) ?_
    obtain ⟨r9, e8, h⟩ := b1_e h
    refine cVi (as := [.int 12]) (rest := []) (c_X12_sumNow hW e8) C hl.1 hH hS rfl (jM_0 hW) rfl wd_95 wd_1841 mw_X12_sumNow wd_1839 rfl (rm_ok (by decide) (by decide)) (Nat.le_of_ble_eq_true rfl) ⟨Nat.zero_le _, Nat.zero_le _⟩ (by decide) dX12_count_124 (fun H locs hH hS => ?_)
    exact h_iret C hr hk hH hS rfl (by cases h; rfl) dX12_count_127
  have h := ite_f b10 h
  by_cases b13 : x1 = 4
  · have h := ite_t b13 h
    refine lv_tableIn (tgt := 128) (off := 121) hx hb dX12_count_7 (by rw [b13]; decide) (by rw [b13]; decide) (by rw [b13]; rfl) (by decide) ?_
    refine lv_aload_n hx hb dX12_count_128 rfl (lv_at hl 1 rfl) ?_
    refine lv_bipush (v := 6) hx hb dX12_count_129 (by decide) ?_
    obtain ⟨r12, e11, h⟩ := b1_e h
    refine cVi (as := [.int 6]) (rest := []) (c_X12_sumNow hW e11) C hl.1 hH hS rfl (jM_0 hW) rfl wd_95 wd_1841 mw_X12_sumNow wd_1839 rfl (rm_ok (by decide) (by decide)) (Nat.le_of_ble_eq_true rfl) ⟨Nat.zero_le _, Nat.zero_le _⟩ (by decide) dX12_count_131 (fun H locs hH hS => ?_)
    exact h_iret C hr hk hH hS rfl (by cases h; rfl) dX12_count_134
  have h := ite_f b13 h
  by_cases b16 : x1 = 5
  · have h := ite_t b16 h
    refine lv_tableIn (tgt := 135) (off := 128) hx hb dX12_count_7 (by rw [b16]; decide) (by rw [b16]; decide) (by rw [b16]; rfl) (by decide) ?_
    refine lv_aload_n hx hb dX12_count_135 rfl (lv_at hl 1 rfl) ?_
    refine lv_iconst (v := 0) hx hb dX12_count_136 (by decide) ?_
    obtain ⟨r15, e14, h⟩ := b1_e h
    refine cVi (as := [.int 0]) (rest := []) (c_X12_sumNow hW e14) C hl.1 hH hS rfl (jM_0 hW) rfl wd_95 wd_1841 mw_X12_sumNow wd_1839 rfl (rm_ok (by decide) (by decide)) (Nat.le_of_ble_eq_true rfl) ⟨Nat.zero_le _, Nat.zero_le _⟩ (by decide) dX12_count_137 (fun H locs hH hS => ?_)
    exact h_iret C hr hk hH hS rfl (by cases h; rfl) dX12_count_140
  have h := ite_f b16 h
  by_cases b21 : x1 = 6
  · have h := ite_t b21 h
    refine lv_tableIn (tgt := 141) (off := 134) hx hb dX12_count_7 (by rw [b21]; decide) (by rw [b21]; decide) (by rw [b21]; rfl) (by decide) ?_
    refine lv_iconst (v := 1) hx hb dX12_count_141 (by decide) ?_
    refine lv_aload_n hx hb dX12_count_142 rfl (lv_at hl 1 rfl) ?_
    obtain ⟨r18, e17, h⟩ := b1_e h
    refine cVi (as := []) (rest := [.int 1]) (c_X12_many hW e17) C hl.1 hH hS rfl (jM_0 hW) rfl wd_31 wd_1182 mw_X12_many wd_1180 rfl (rm_ok (by decide) (by decide)) (Nat.le_of_ble_eq_true rfl) ⟨Nat.zero_le _, Nat.zero_le _⟩ (by decide) dX12_count_143 (fun H locs hH hS => ?_)
    refine lv_ishl hx hb dX12_count_146 ?_
    refine lv_iconst (v := 1) hx hb dX12_count_147 (by decide) ?_
    refine lv_isub hx hb dX12_count_148 ?_
    refine lv_aload_n hx hb dX12_count_149 rfl (lv_at hl 1 rfl) ?_
    refine lv_bipush (v := 18) hx hb dX12_count_150 (by decide) ?_
    obtain ⟨r20, e19, h⟩ := b1_e h
    refine cVi (as := [.int 18]) (rest := [.int (((1 : Int32) <<< (r18 &&& 31)) - 1)]) (c_X12_noneBits hW e19) C hl.1 hH hS rfl (jM_0 hW) rfl wd_96 wd_1845 mw_X12_noneBits wd_1843 rfl (rm_ok (by decide) (by decide)) (Nat.le_of_ble_eq_true rfl) ⟨Nat.zero_le _, Nat.zero_le _⟩ (by decide) dX12_count_152 (fun H locs hH hS => ?_)
    refine lv_iconst (v := (-1)) hx hb dX12_count_155 (by decide) ?_
    refine lv_ixor hx hb dX12_count_156 ?_
    refine lv_iand hx hb dX12_count_157 ?_
    exact h_iret C hr hk hH hS rfl (by cases h; rfl) dX12_count_158
  have h := ite_f b21 h
  by_cases b24 : x1 = 7
  · have h := ite_t b24 h
    refine lv_tableIn (tgt := 159) (off := 152) hx hb dX12_count_7 (by rw [b24]; decide) (by rw [b24]; decide) (by rw [b24]; rfl) (by decide) ?_
    refine lv_aload_n hx hb dX12_count_159 rfl (lv_at hl 1 rfl) ?_
    refine lv_bipush (v := 12) hx hb dX12_count_160 (by decide) ?_
    obtain ⟨r23, e22, h⟩ := b1_e h
    refine cVi (as := [.int 12]) (rest := []) (c_X12_noneBits hW e22) C hl.1 hH hS rfl (jM_0 hW) rfl wd_96 wd_1845 mw_X12_noneBits wd_1843 rfl (rm_ok (by decide) (by decide)) (Nat.le_of_ble_eq_true rfl) ⟨Nat.zero_le _, Nat.zero_le _⟩ (by decide) dX12_count_162 (fun H locs hH hS => ?_)
    exact h_iret C hr hk hH hS rfl (by cases h; rfl) dX12_count_165
  have h := ite_f b24 h
  by_cases b25 : x1 = 8
  · have h := ite_t b25 h
    refine lv_tableIn (tgt := 166) (off := 159) hx hb dX12_count_7 (by rw [b25]; decide) (by rw [b25]; decide) (by rw [b25]; rfl) (by decide) ?_
    refine lv_aload_n hx hb dX12_count_166 rfl (lv_at hl 1 rfl) ?_
    refine g_1189 C hH (jM_0 hW) dX12_count_167 ?_
    exact h_iret C hr hk hH hS rfl (by cases h; rfl) dX12_count_170
  have h := ite_f b25 h
  by_cases b26 : x1 = 9
  · have h := ite_t b26 h
    refine lv_tableIn (tgt := 171) (off := 164) hx hb dX12_count_7 (by rw [b26]; decide) (by rw [b26]; decide) (by rw [b26]; rfl) (by decide) ?_
    refine lv_aload_n hx hb dX12_count_171 rfl (lv_at hl 1 rfl) ?_
    refine g_1240 C hH (jM_0 hW) dX12_count_172 ?_
    exact h_iret C hr hk hH hS rfl (by cases h; rfl) dX12_count_175
  have h := ite_f b26 h
  by_cases b27 : x1 = 10
  · have h := ite_t b27 h
    refine lv_tableIn (tgt := 176) (off := 169) hx hb dX12_count_7 (by rw [b27]; decide) (by rw [b27]; decide) (by rw [b27]; rfl) (by decide) ?_
    refine lv_aload_n hx hb dX12_count_176 rfl (lv_at hl 1 rfl) ?_
    refine g_1250 C hH (jM_0 hW) dX12_count_177 ?_
    exact h_iret C hr hk hH hS rfl (by cases h; rfl) dX12_count_180
  have h := ite_f b27 h
  by_cases b28 : x1 = 11
  · have h := ite_t b28 h
    refine lv_tableIn (tgt := 181) (off := 174) hx hb dX12_count_7 (by rw [b28]; decide) (by rw [b28]; decide) (by rw [b28]; rfl) (by decide) ?_
    refine lv_aload_n hx hb dX12_count_181 rfl (lv_at hl 1 rfl) ?_
    refine g_1254 (i := 47) C hH (jM_0 hW) rfl dX12_count_182 ?_
    refine lv_iconst (v := 0) hx hb dX12_count_185 (by decide) ?_
    refine h_zald C hH (jM_47 hW).1 (jM_47 hW).2.1 (by decide) dX12_count_186 ?_
    refine h_topi (y := μ2.1 47 0) rfl ?_
    refine lv_if_eq (tgt := 194) hx hb dX12_count_187 (by decide) (fun hc => ?_) (fun hc => ?_)
    · have h := ite_t hc h
      refine lv_iconst (v := 0) hx hb dX12_count_194 (by decide) ?_
      exact wX12_count_b195 hW C hr hk hH hS (lv_sub hl [1] rfl) h
    · have h := ite_f hc h
      refine lv_iconst (v := 1) hx hb dX12_count_190 (by decide) ?_
      refine lv_goto (tgt := 195) hx hb dX12_count_191 (by decide) ?_
      exact wX12_count_b195 hW C hr hk hH hS (lv_sub hl [1] rfl) h
  have h := ite_f b28 h
  by_cases b31 : x1 = 12
  · have h := ite_t b31 h
    refine lv_tableIn (tgt := 226) (off := 219) hx hb dX12_count_7 (by rw [b31]; decide) (by rw [b31]; decide) (by rw [b31]; rfl) (by decide) ?_
    refine lv_aload_n hx hb dX12_count_226 rfl (lv_at hl 1 rfl) ?_
    obtain ⟨r30, e29, h⟩ := b1_e h
    refine cVi (as := []) (rest := []) (c_X12_isHail hW e29) C hl.1 hH hS rfl (jM_0 hW) rfl wd_69 wd_1600 mw_X12_isHail wd_1598 rfl (rm_ok (by decide) (by decide)) (Nat.le_of_ble_eq_true rfl) ⟨Nat.zero_le _, Nat.zero_le _⟩ (by decide) dX12_count_227 (fun H locs hH hS => ?_)
    refine lv_if_eq (tgt := 237) hx hb dX12_count_230 (by decide) (fun hc => ?_) (fun hc => ?_)
    · have h := ite_t hc h
      refine lv_iconst (v := 0) hx hb dX12_count_237 (by decide) ?_
      exact h_iret C hr hk hH hS rfl (by cases h; rfl) dX12_count_238
    · have h := ite_f hc h
      refine lv_iconst (v := 1) hx hb dX12_count_233 (by decide) ?_
      refine lv_goto (tgt := 238) hx hb dX12_count_234 (by decide) ?_
      exact h_iret C hr hk hH hS rfl (by cases h; rfl) dX12_count_238
  have h := ite_f b31 h
  by_cases b39 : x1 = 13
  · have h := ite_t b39 h
    refine lv_tableIn (tgt := 239) (off := 232) hx hb dX12_count_7 (by rw [b39]; decide) (by rw [b39]; decide) (by rw [b39]; rfl) (by decide) ?_
    refine lv_iconst (v := 0) hx hb dX12_count_239 (by decide) ?_
    refine lv_istore_n (lv' := [(3, .int 0), (2, .int 0), (0, .ref (wB ω + 0)), (1, .int x1)]) hx hb dX12_count_240 rfl hl (by decide) rfl (fun ls hl => ?_)
    exact wX12_count_l241 hW C hr hk FU _ _ _ H locs ls hH hS (lv_sub hl [2, 1, 0] rfl) h
  have h := ite_f b39 h
  by_cases b40 : x1 = 14
  · have h := ite_t b40 h
    refine lv_tableIn (tgt := 265) (off := 258) hx hb dX12_count_7 (by rw [b40]; decide) (by rw [b40]; decide) (by rw [b40]; rfl) (by decide) ?_
    refine lv_aload_n hx hb dX12_count_265 rfl (lv_at hl 1 rfl) ?_
    refine g_1235 (i := 32) C hH (jM_0 hW) rfl dX12_count_266 ?_
    refine lv_bipush (v := 38) hx hb dX12_count_269 (by decide) ?_
    refine h_iald C hH (jM_32 hW).1 (jM_32 hW).2.1 (by decide) dX12_count_271 ?_
    refine h_topi (y := μ2.1 32 38) rfl ?_
    exact h_iret C hr hk hH hS rfl (by cases h; rfl) dX12_count_272
  have h := ite_f b40 h
  by_cases b47 : x1 = 15
  · have h := ite_t b47 h
    refine lv_tableIn (tgt := 273) (off := 266) hx hb dX12_count_7 (by rw [b47]; decide) (by rw [b47]; decide) (by rw [b47]; rfl) (by decide) ?_
    refine lv_iconst (v := 0) hx hb dX12_count_273 (by decide) ?_
    refine lv_istore_n (lv' := [(3, .int 0), (2, .int 0), (0, .ref (wB ω + 0)), (1, .int x1)]) hx hb dX12_count_274 rfl hl (by decide) rfl (fun ls hl => ?_)
    exact wX12_count_l275 hW C hr hk FU _ _ H locs ls hH hS (lv_sub hl [2, 1, 0] rfl) h
  have h := ite_f b47 h
  by_cases b50 : x1 = 16
  · have h := ite_t b50 h
    refine lv_tableIn (tgt := 299) (off := 292) hx hb dX12_count_7 (by rw [b50]; decide) (by rw [b50]; decide) (by rw [b50]; rfl) (by decide) ?_
    refine lv_aload_n hx hb dX12_count_299 rfl (lv_at hl 1 rfl) ?_
    refine lv_bipush (v := 24) hx hb dX12_count_300 (by decide) ?_
    obtain ⟨r49, e48, h⟩ := b1_e h
    refine cVi (as := [.int 24]) (rest := []) (c_X12_sumNow hW e48) C hl.1 hH hS rfl (jM_0 hW) rfl wd_95 wd_1841 mw_X12_sumNow wd_1839 rfl (rm_ok (by decide) (by decide)) (Nat.le_of_ble_eq_true rfl) ⟨Nat.zero_le _, Nat.zero_le _⟩ (by decide) dX12_count_302 (fun H locs hH hS => ?_)
    exact h_iret C hr hk hH hS rfl (by cases h; rfl) dX12_count_305
  have h := ite_f b50 h
  by_cases b53 : x1 = 17
  · have h := ite_t b53 h
    refine lv_tableIn (tgt := 306) (off := 299) hx hb dX12_count_7 (by rw [b53]; decide) (by rw [b53]; decide) (by rw [b53]; rfl) (by decide) ?_
    refine lv_aload_n hx hb dX12_count_306 rfl (lv_at hl 1 rfl) ?_
    refine lv_bipush (v := 6) hx hb dX12_count_307 (by decide) ?_
    obtain ⟨r52, e51, h⟩ := b1_e h
    refine cVi (as := [.int 6]) (rest := []) (c_X12_noneBits hW e51) C hl.1 hH hS rfl (jM_0 hW) rfl wd_96 wd_1845 mw_X12_noneBits wd_1843 rfl (rm_ok (by decide) (by decide)) (Nat.le_of_ble_eq_true rfl) ⟨Nat.zero_le _, Nat.zero_le _⟩ (by decide) dX12_count_309 (fun H locs hH hS => ?_)
    exact h_iret C hr hk hH hS rfl (by cases h; rfl) dX12_count_312
  have h := ite_f b53 h
  by_cases b55 : x1 = 18
  · have h := ite_t b55 h
    refine lv_tableIn (tgt := 313) (off := 306) hx hb dX12_count_7 (by rw [b55]; decide) (by rw [b55]; decide) (by rw [b55]; rfl) (by decide) ?_
    refine lv_aload_n hx hb dX12_count_313 rfl (lv_at hl 1 rfl) ?_
    refine g_1215 (i := 16) C hH (jM_0 hW) rfl dX12_count_314 ?_
    refine lv_aload_n hx hb dX12_count_317 rfl (lv_at hl 1 rfl) ?_
    refine g_1205 C hH (jM_0 hW) dX12_count_318 ?_
    obtain ⟨b54, h⟩ := gd_e h
    refine h_iald C hH (jM_16 hW).1 (jM_16 hW).2.1 b54 dX12_count_321 ?_
    exact h_iret C hr hk hH hS rfl (by cases h; rfl) dX12_count_322
  have h := ite_f b55 h
  by_cases b58 : x1 = 19
  · have h := ite_t b58 h
    refine lv_tableIn (tgt := 323) (off := 316) hx hb dX12_count_7 (by rw [b58]; decide) (by rw [b58]; decide) (by rw [b58]; rfl) (by decide) ?_
    refine lv_aload_n hx hb dX12_count_323 rfl (lv_at hl 1 rfl) ?_
    refine lv_bipush (v := 30) hx hb dX12_count_324 (by decide) ?_
    obtain ⟨r57, e56, h⟩ := b1_e h
    refine cVi (as := [.int 30]) (rest := []) (c_X12_sumNow hW e56) C hl.1 hH hS rfl (jM_0 hW) rfl wd_95 wd_1841 mw_X12_sumNow wd_1839 rfl (rm_ok (by decide) (by decide)) (Nat.le_of_ble_eq_true rfl) ⟨Nat.zero_le _, Nat.zero_le _⟩ (by decide) dX12_count_326 (fun H locs hH hS => ?_)
    exact h_iret C hr hk hH hS rfl (by cases h; rfl) dX12_count_329
  have h := ite_f b58 h
  have b5 := ne_ti (z := 0) b5 (by decide)
  have b6 := ne_ti (z := 1) b6 (by decide)
  have b7 := ne_ti (z := 2) b7 (by decide)
  have b10 := ne_ti (z := 3) b10 (by decide)
  have b13 := ne_ti (z := 4) b13 (by decide)
  have b16 := ne_ti (z := 5) b16 (by decide)
  have b21 := ne_ti (z := 6) b21 (by decide)
  have b24 := ne_ti (z := 7) b24 (by decide)
  have b25 := ne_ti (z := 8) b25 (by decide)
  have b26 := ne_ti (z := 9) b26 (by decide)
  have b27 := ne_ti (z := 10) b27 (by decide)
  have b28 := ne_ti (z := 11) b28 (by decide)
  have b31 := ne_ti (z := 12) b31 (by decide)
  have b39 := ne_ti (z := 13) b39 (by decide)
  have b40 := ne_ti (z := 14) b40 (by decide)
  have b47 := ne_ti (z := 15) b47 (by decide)
  have b50 := ne_ti (z := 16) b50 (by decide)
  have b53 := ne_ti (z := 17) b53 (by decide)
  have b55 := ne_ti (z := 18) b55 (by decide)
  have b58 := ne_ti (z := 19) b58 (by decide)
  refine lv_tableOut (tgt := 330) hx hb dX12_count_7 (by omega) (by decide) ?_
  refine lv_iconst (v := (-1)) hx hb dX12_count_330 (by decide) ?_
  exact h_iret C hr hk hH hS rfl (by cases h; rfl) dX12_count_331
theorem c_X12_count {l : Launch} {ω : WW} {x1 : Int32} (hW : FWM ω) {μ : Mem} {rr : Int32} {μo : Mem} (h : fX12_count x1 μ = some (rr, μo)) : Con l yX12_count cX12_count 4 (some .int) 5 ω [.ref (wB ω + 0), .int x1] μ (some (.int rr)) μo :=
  con_of (by decide) (Nat.le_of_ble_eq_true rfl) (fun p e s m args below meth c ls C hr hk hl hH hS => wX12_count_e hW C hr hk hH hS (lv_sub hl [0, 1] rfl) h)
set_option maxHeartbeats 4000000 in
set_option maxRecDepth 100000 in
theorem wX12_cut_e (hW : FWM ω) (C : Cx ω p s m args c cX12_cut 4 RX12) (hr : meth.sig.returnType = some .int) (hk : meth.locks = false) {rr : Int32} {μo : Mem} {x1 : Int32} {x2 : Int32} {μ : Mem} {H : Heap} {locs : List Loc} {ls : Array Slot} (hH : Hd ω μ H) (hS : FS ω s H locs) (hl : lv_has ls 4 [(0, .ref (wB ω + 0)), (1, .int x1), (2, .int x2)]) (h : fX12_cut x1 x2 μ = some (rr, μo)) : W p l e (rmd 3) s m args below meth c H locs 0 0 (MQ below (QR ω (some (.int rr)) μo) args s 0 0 (wA ω)) (F0 m 0 ls []) := by
  have hx := C.1
  have hb := C.2.1
  unfold fX12_cut at h
  refine lv_aload_n hx hb dX12_cut_0 rfl (lv_at hl 0 rfl) ?_
  refine lv_iload_n hx hb dX12_cut_1 rfl (lv_at hl 1 rfl) ?_
  obtain ⟨r2, e1, h⟩ := b1_e h
  refine cVi (as := [.int x1]) (rest := []) (c_X12_isHouse hW e1) C hl.1 hH hS rfl (jM_0 hW) rfl wd_53 wd_1503 mw_X12_isHouse wd_1501 rfl (rm_ok (by decide) (by decide)) (Nat.le_of_ble_eq_true rfl) ⟨Nat.zero_le _, Nat.zero_le _⟩ (by decide) dX12_cut_2 (fun H locs hH hS => ?_)
  refine lv_if_eq (tgt := 21) hx hb dX12_cut_5 (by decide) (fun hc => ?_) (fun hc => ?_)
  · have h := ite_t hc h
    refine lv_iconst (v := (-1)) hx hb dX12_cut_21 (by decide) ?_
    exact h_iret C hr hk hH hS rfl (by cases h; rfl) dX12_cut_22
  · have h := ite_f hc h
    refine lv_aload_n hx hb dX12_cut_8 rfl (lv_at hl 0 rfl) ?_
    refine lv_iload_n hx hb dX12_cut_9 rfl (lv_at hl 2 rfl) ?_
    obtain ⟨r4, e3, h⟩ := b1_e h
    refine cVi (as := [.int x2]) (rest := []) (c_X12_isHouse hW e3) C hl.1 hH hS rfl (jM_0 hW) rfl wd_53 wd_1503 mw_X12_isHouse wd_1501 rfl (rm_ok (by decide) (by decide)) (Nat.le_of_ble_eq_true rfl) ⟨Nat.zero_le _, Nat.zero_le _⟩ (by decide) dX12_cut_10 (fun H locs hH hS => ?_)
    refine lv_if_eq (tgt := 21) hx hb dX12_cut_13 (by decide) (fun hc => ?_) (fun hc => ?_)
    · have h := ite_t hc h
      refine lv_iconst (v := (-1)) hx hb dX12_cut_21 (by decide) ?_
      exact h_iret C hr hk hH hS rfl (by cases h; rfl) dX12_cut_22
    · have h := ite_f hc h
      refine lv_iload_n hx hb dX12_cut_16 rfl (lv_at hl 1 rfl) ?_
      refine lv_iload_n hx hb dX12_cut_17 rfl (lv_at hl 2 rfl) ?_
      refine lv_icmp_ne (tgt := 23) hx hb dX12_cut_18 (by decide) (fun hc => ?_) (fun hc => ?_)
      · have h := ite_f hc h
        refine lv_aload_n hx hb dX12_cut_23 rfl (lv_at hl 0 rfl) ?_
        obtain ⟨μ6, e5, h⟩ := b1_e h
        refine cVv (as := []) (rest := []) (c_X12_copies hW e5) C hl.1 hH hS rfl (jM_0 hW) rfl wd_54 wd_1510 mw_X12_copies wd_1508 rfl (rm_ok (by decide) (by decide)) (Nat.le_of_ble_eq_true rfl) ⟨Nat.zero_le _, Nat.zero_le _⟩ (by decide) dX12_cut_24 (fun H locs hH hS => ?_)
        refine lv_aload_n hx hb dX12_cut_27 rfl (lv_at hl 0 rfl) ?_
        refine g_1235 (i := 32) C hH (jM_0 hW) rfl dX12_cut_28 ?_
        refine lv_bipush (v := 12) hx hb dX12_cut_31 (by decide) ?_
        refine lv_iload_n hx hb dX12_cut_33 rfl (lv_at hl 1 rfl) ?_
        refine lv_iadd hx hb dX12_cut_34 ?_
        obtain ⟨b7, h⟩ := gd_e h
        refine h_iald C hH (jM_32 hW).1 (jM_32 hW).2.1 b7 dX12_cut_35 ?_
        refine lv_bipush (v := 10) hx hb dX12_cut_36 (by decide) ?_
        refine lv_idiv hx hb dX12_cut_38 (by decide) ?_
        obtain ⟨y8, e9, h⟩ := bd_e h
        refine h_topi e9 ?_
        refine lv_istore_n (lv' := [(3, .int y8), (0, .ref (wB ω + 0)), (1, .int x1), (2, .int x2)]) hx hb dX12_cut_39 rfl hl (by decide) rfl (fun ls hl => ?_)
        refine lv_aload_n hx hb dX12_cut_40 rfl (lv_at hl 1 rfl) ?_
        refine g_1235 (i := 32) C hH (jM_0 hW) rfl dX12_cut_41 ?_
        refine lv_bipush (v := 12) hx hb dX12_cut_44 (by decide) ?_
        refine lv_iload_n hx hb dX12_cut_46 rfl (lv_at hl 2 rfl) ?_
        refine lv_iadd hx hb dX12_cut_47 ?_
        refine lv_dup2_11 hx hb dX12_cut_48 rfl rfl ?_
        obtain ⟨b10, h⟩ := gd_e h
        refine h_iald C hH (jM_32 hW).1 (jM_32 hW).2.1 b10 dX12_cut_49 ?_
        refine lv_iload_n hx hb dX12_cut_50 rfl (lv_at hl 0 rfl) ?_
        refine lv_isub hx hb dX12_cut_51 ?_
        obtain ⟨b11, h⟩ := gd_e h
        obtain ⟨μ12, e13, h⟩ := bd_e h
        refine h_iast C hH hS (jM_32 hW).1 (jM_32 hW).2.1 b11 dX12_cut_52 (fun H locs hH hS => ?_)
        have hH := Hd.to e13 hH
        refine lv_aload_n hx hb dX12_cut_53 rfl (lv_at hl 1 rfl) ?_
        refine g_1235 (i := 32) C hH (jM_0 hW) rfl dX12_cut_54 ?_
        refine lv_bipush (v := 12) hx hb dX12_cut_57 (by decide) ?_
        refine lv_iload_n hx hb dX12_cut_59 rfl (lv_at hl 3 rfl) ?_
        refine lv_iadd hx hb dX12_cut_60 ?_
        refine lv_aload_n hx hb dX12_cut_61 rfl (lv_at hl 1 rfl) ?_
        refine g_1235 (i := 32) C hH (jM_0 hW) rfl dX12_cut_62 ?_
        refine lv_bipush (v := 12) hx hb dX12_cut_65 (by decide) ?_
        refine lv_iload_n hx hb dX12_cut_67 rfl (lv_at hl 3 rfl) ?_
        refine lv_iadd hx hb dX12_cut_68 ?_
        obtain ⟨b14, h⟩ := gd_e h
        refine h_iald C hH (jM_32 hW).1 (jM_32 hW).2.1 b14 dX12_cut_69 ?_
        refine lv_iload_n hx hb dX12_cut_70 rfl (lv_at hl 0 rfl) ?_
        refine lv_iadd hx hb dX12_cut_71 ?_
        refine lv_iconst (v := 0) hx hb dX12_cut_72 (by decide) ?_
        refine lv_sipush (v := 999) hx hb dX12_cut_73 (by decide) ?_
        obtain ⟨r16, e15, h⟩ := b1_e h
        refine cSi (as := [.int ((μ12.1 32 ((12 + x2).toNatClampNeg)) + y8), .int 0, .int 999]) (rest := [.int (12 + x2), .ref (wB ω + 32)]) (c_X12_within e15) C hl.1 hH hS rfl wd_1533 mw_X12_within wd_1532 rfl (rm_ok (by decide) (by decide)) (Nat.le_of_ble_eq_true rfl) ⟨Nat.zero_le _, Nat.zero_le _⟩ dX12_cut_76 (fun H locs hH hS => ?_)
        obtain ⟨b17, h⟩ := gd_e h
        obtain ⟨μ18, e19, h⟩ := bd_e h
        refine h_iast C hH hS (jM_32 hW).1 (jM_32 hW).2.1 b17 dX12_cut_79 (fun H locs hH hS => ?_)
        have hH := Hd.to e19 hH
        refine lv_aload_n hx hb dX12_cut_80 rfl (lv_at hl 1 rfl) ?_
        refine g_1235 (i := 32) C hH (jM_0 hW) rfl dX12_cut_81 ?_
        refine lv_bipush (v := 24) hx hb dX12_cut_84 (by decide) ?_
        refine lv_iload_n hx hb dX12_cut_86 rfl (lv_at hl 3 rfl) ?_
        refine lv_iadd hx hb dX12_cut_87 ?_
        refine lv_dup2_11 hx hb dX12_cut_88 rfl rfl ?_
        obtain ⟨b20, h⟩ := gd_e h
        refine h_iald C hH (jM_32 hW).1 (jM_32 hW).2.1 b20 dX12_cut_89 ?_
        refine lv_iconst (v := 1) hx hb dX12_cut_90 (by decide) ?_
        refine lv_iadd hx hb dX12_cut_91 ?_
        obtain ⟨b21, h⟩ := gd_e h
        obtain ⟨μ22, e23, h⟩ := bd_e h
        refine h_iast C hH hS (jM_32 hW).1 (jM_32 hW).2.1 b21 dX12_cut_92 (fun H locs hH hS => ?_)
        have hH := Hd.to e23 hH
        refine lv_aload_n hx hb dX12_cut_93 rfl (lv_at hl 1 rfl) ?_
        obtain ⟨μ25, e24, h⟩ := b1_e h
        refine cVv (as := []) (rest := []) (c_X12_records hW e24) C hl.1 hH hS rfl (jM_0 hW) rfl wd_65 wd_1561 mw_X12_records wd_1559 rfl (rm_ok (by decide) (by decide)) (Nat.le_of_ble_eq_true rfl) ⟨Nat.zero_le _, Nat.zero_le _⟩ (by decide) dX12_cut_94 (fun H locs hH hS => ?_)
        refine lv_iload_n hx hb dX12_cut_97 rfl (lv_at hl 0 rfl) ?_
        exact h_iret C hr hk hH hS rfl (by cases h; rfl) dX12_cut_98
      · have h := ite_t hc h
        refine lv_iconst (v := (-1)) hx hb dX12_cut_21 (by decide) ?_
        exact h_iret C hr hk hH hS rfl (by cases h; rfl) dX12_cut_22
theorem c_X12_cut {l : Launch} {ω : WW} {x1 : Int32} {x2 : Int32} (hW : FWM ω) {μ : Mem} {rr : Int32} {μo : Mem} (h : fX12_cut x1 x2 μ = some (rr, μo)) : Con l yX12_cut cX12_cut 4 (some .int) 3 ω [.ref (wB ω + 0), .int x1, .int x2] μ (some (.int rr)) μo :=
  con_of (by decide) (Nat.le_of_ble_eq_true rfl) (fun p e s m args below meth c ls C hr hk hl hH hS => wX12_cut_e hW C hr hk hH hS (lv_sub hl [0, 1, 2] rfl) h)
set_option maxHeartbeats 4000000 in
set_option maxRecDepth 100000 in
theorem wX12_token_e (hW : FWM ω) (C : Cx ω p s m args c cX12_token 6 RX12) (hr : meth.sig.returnType = none) (hk : meth.locks = false) {μo : Mem} {x1 : Int32} {x2 : Int32} {x3 : Int32} {x4 : Int64} {μ : Mem} {H : Heap} {locs : List Loc} {ls : Array Slot} (hH : Hd ω μ H) (hS : FS ω s H locs) (hl : lv_has ls 6 [(0, .ref (wB ω + 0)), (1, .int x1), (2, .int x2), (3, .int x3), (4, .long x4)]) (h : fX12_token x1 x2 x3 x4 μ = some μo) : W p l e (rmd 1) s m args below meth c H locs 0 0 (MQ below (QR ω none μo) args s 0 0 (wA ω)) (F0 m 0 ls []) := by
  have hx := C.1
  have hb := C.2.1
  unfold fX12_token at h
  refine lv_aload_n hx hb dX12_token_0 rfl (lv_at hl 0 rfl) ?_
  refine g_1192 (i := 3) C hH (jM_0 hW) rfl dX12_token_1 ?_
  refine lv_aload_n hx hb dX12_token_4 rfl (lv_at hl 0 rfl) ?_
  refine g_1197 C hH (jM_0 hW) dX12_token_5 ?_
  refine lv_iload_n hx hb dX12_token_8 rfl (lv_at hl 1 rfl) ?_
  obtain ⟨b1, h⟩ := gd_e h
  obtain ⟨μ2, e3, h⟩ := bd_e h
  refine h_iast C hH hS (jM_3 hW).1 (jM_3 hW).2.1 b1 dX12_token_9 (fun H locs hH hS => ?_)
  have hH := Hd.to e3 hH
  refine lv_aload_n hx hb dX12_token_10 rfl (lv_at hl 0 rfl) ?_
  refine g_1193 (i := 4) C hH (jM_0 hW) rfl dX12_token_11 ?_
  refine lv_aload_n hx hb dX12_token_14 rfl (lv_at hl 0 rfl) ?_
  refine g_1197 C hH (jM_0 hW) dX12_token_15 ?_
  refine lv_iload_n hx hb dX12_token_18 rfl (lv_at hl 2 rfl) ?_
  obtain ⟨b4, h⟩ := gd_e h
  obtain ⟨μ5, e6, h⟩ := bd_e h
  refine h_iast C hH hS (jM_4 hW).1 (jM_4 hW).2.1 b4 dX12_token_19 (fun H locs hH hS => ?_)
  have hH := Hd.to e6 hH
  refine lv_aload_n hx hb dX12_token_20 rfl (lv_at hl 0 rfl) ?_
  refine g_1194 (i := 5) C hH (jM_0 hW) rfl dX12_token_21 ?_
  refine lv_aload_n hx hb dX12_token_24 rfl (lv_at hl 0 rfl) ?_
  refine g_1197 C hH (jM_0 hW) dX12_token_25 ?_
  refine lv_iload_n hx hb dX12_token_28 rfl (lv_at hl 3 rfl) ?_
  obtain ⟨b7, h⟩ := gd_e h
  obtain ⟨μ8, e9, h⟩ := bd_e h
  refine h_iast C hH hS (jM_5 hW).1 (jM_5 hW).2.1 b7 dX12_token_29 (fun H locs hH hS => ?_)
  have hH := Hd.to e9 hH
  refine lv_aload_n hx hb dX12_token_30 rfl (lv_at hl 0 rfl) ?_
  refine g_1195 (i := 6) C hH (jM_0 hW) rfl dX12_token_31 ?_
  refine lv_aload_n hx hb dX12_token_34 rfl (lv_at hl 0 rfl) ?_
  refine g_1197 C hH (jM_0 hW) dX12_token_35 ?_
  refine lv_lload hx hb dX12_token_38 (lv_at hl 4 rfl) ?_
  obtain ⟨b10, h⟩ := gd_e h
  obtain ⟨μ11, e12, h⟩ := bd_e h
  refine h_last C hH hS (jM_6 hW).1 (jM_6 hW).2.1 b10 dX12_token_40 (fun H locs hH hS => ?_)
  have hH := Hd.to e12 hH
  refine lv_aload_n hx hb dX12_token_41 rfl (lv_at hl 0 rfl) ?_
  refine lv_dup hx hb dX12_token_42 rfl ?_
  refine g_1197 C hH (jM_0 hW) dX12_token_43 ?_
  refine lv_iconst (v := 1) hx hb dX12_token_46 (by decide) ?_
  refine lv_iadd hx hb dX12_token_47 ?_
  obtain ⟨μ13, e14, h⟩ := bd_e h
  refine p_1197 C hH hS (jM_0 hW) dX12_token_48 (fun H locs hH hS => ?_)
  have hH := Hd.to e14 hH
  exact h_vret C hr hk hH hS (by cases h; rfl) dX12_token_51
theorem c_X12_token {l : Launch} {ω : WW} {x1 : Int32} {x2 : Int32} {x3 : Int32} {x4 : Int64} (hW : FWM ω) {μ : Mem} {μo : Mem} (h : fX12_token x1 x2 x3 x4 μ = some μo) : Con l yX12_token cX12_token 6 none 1 ω [.ref (wB ω + 0), .int x1, .int x2, .int x3, .long x4] μ none μo :=
  con_of (by decide) (Nat.le_of_ble_eq_true rfl) (fun p e s m args below meth c ls C hr hk hl hH hS => wX12_token_e hW C hr hk hH hS (lv_sub hl [0, 1, 2, 3, 4] rfl) h)
set_option maxHeartbeats 4000000 in
set_option maxRecDepth 100000 in
theorem wX12_isLetter_e (C : Cx ω p s m args c cX12_isLetter 1 RX12) (hr : meth.sig.returnType = some .boolean) (hk : meth.locks = false) {rr : Int32} {μ : Mem} {x0 : Int32} {H : Heap} {locs : List Loc} {ls : Array Slot} (hH : Hd ω μ H) (hS : FS ω s H locs) (hl : lv_has ls 1 [(0, .int x0)]) (h : fX12_isLetter x0 = some rr) : W p l e (rmd 1) s m args below meth c H locs 0 0 (MQ below (QR ω (some (.int rr)) μ) args s 0 0 (wA ω)) (F0 m 0 ls []) := by
  have hx := C.1
  have hb := C.2.1
  unfold fX12_isLetter at h
  refine lv_iload_n hx hb dX12_isLetter_0 rfl (lv_at hl 0 rfl) ?_
  refine lv_bipush (v := 97) hx hb dX12_isLetter_1 (by decide) ?_
  refine lv_icmp_lt (tgt := 16) hx hb dX12_isLetter_3 (by decide) (fun hc => ?_) (fun hc => ?_)
  · have h := ite_t hc h
    refine lv_iconst (v := 0) hx hb dX12_isLetter_16 (by decide) ?_
    exact h_zret (y := 0) C hr hk hH hS rfl (by cases h; rfl) dX12_isLetter_17
  · have h := ite_f hc h
    refine lv_iload_n hx hb dX12_isLetter_6 rfl (lv_at hl 0 rfl) ?_
    refine lv_bipush (v := 122) hx hb dX12_isLetter_7 (by decide) ?_
    refine lv_icmp_gt (tgt := 16) hx hb dX12_isLetter_9 (by decide) (fun hc => ?_) (fun hc => ?_)
    · have h := ite_t hc h
      refine lv_iconst (v := 0) hx hb dX12_isLetter_16 (by decide) ?_
      exact h_zret (y := 0) C hr hk hH hS rfl (by cases h; rfl) dX12_isLetter_17
    · have h := ite_f hc h
      refine lv_iconst (v := 1) hx hb dX12_isLetter_12 (by decide) ?_
      refine lv_goto (tgt := 17) hx hb dX12_isLetter_13 (by decide) ?_
      exact h_zret (y := 1) C hr hk hH hS rfl (by cases h; rfl) dX12_isLetter_17
theorem c_X12_isLetter {l : Launch} {ω : WW} {x0 : Int32} {μ : Mem} {rr : Int32} (h : fX12_isLetter x0 = some rr) : Con l yX12_isLetter cX12_isLetter 1 (some .boolean) 1 ω [.int x0] μ (some (.int rr)) μ :=
  con_of (by decide) (Nat.le_of_ble_eq_true rfl) (fun p e s m args below meth c ls C hr hk hl hH hS => wX12_isLetter_e C hr hk hH hS (lv_sub hl [0] rfl) h)
set_option maxHeartbeats 4000000 in
set_option maxRecDepth 100000 in
theorem wX12_isDigit_e (C : Cx ω p s m args c cX12_isDigit 1 RX12) (hr : meth.sig.returnType = some .boolean) (hk : meth.locks = false) {rr : Int32} {μ : Mem} {x0 : Int32} {H : Heap} {locs : List Loc} {ls : Array Slot} (hH : Hd ω μ H) (hS : FS ω s H locs) (hl : lv_has ls 1 [(0, .int x0)]) (h : fX12_isDigit x0 = some rr) : W p l e (rmd 1) s m args below meth c H locs 0 0 (MQ below (QR ω (some (.int rr)) μ) args s 0 0 (wA ω)) (F0 m 0 ls []) := by
  have hx := C.1
  have hb := C.2.1
  unfold fX12_isDigit at h
  refine lv_iload_n hx hb dX12_isDigit_0 rfl (lv_at hl 0 rfl) ?_
  refine lv_bipush (v := 48) hx hb dX12_isDigit_1 (by decide) ?_
  refine lv_icmp_lt (tgt := 16) hx hb dX12_isDigit_3 (by decide) (fun hc => ?_) (fun hc => ?_)
  · have h := ite_t hc h
    refine lv_iconst (v := 0) hx hb dX12_isDigit_16 (by decide) ?_
    exact h_zret (y := 0) C hr hk hH hS rfl (by cases h; rfl) dX12_isDigit_17
  · have h := ite_f hc h
    refine lv_iload_n hx hb dX12_isDigit_6 rfl (lv_at hl 0 rfl) ?_
    refine lv_bipush (v := 57) hx hb dX12_isDigit_7 (by decide) ?_
    refine lv_icmp_gt (tgt := 16) hx hb dX12_isDigit_9 (by decide) (fun hc => ?_) (fun hc => ?_)
    · have h := ite_t hc h
      refine lv_iconst (v := 0) hx hb dX12_isDigit_16 (by decide) ?_
      exact h_zret (y := 0) C hr hk hH hS rfl (by cases h; rfl) dX12_isDigit_17
    · have h := ite_f hc h
      refine lv_iconst (v := 1) hx hb dX12_isDigit_12 (by decide) ?_
      refine lv_goto (tgt := 17) hx hb dX12_isDigit_13 (by decide) ?_
      exact h_zret (y := 1) C hr hk hH hS rfl (by cases h; rfl) dX12_isDigit_17
theorem c_X12_isDigit {l : Launch} {ω : WW} {x0 : Int32} {μ : Mem} {rr : Int32} (h : fX12_isDigit x0 = some rr) : Con l yX12_isDigit cX12_isDigit 1 (some .boolean) 1 ω [.int x0] μ (some (.int rr)) μ :=
  con_of (by decide) (Nat.le_of_ble_eq_true rfl) (fun p e s m args below meth c ls C hr hk hl hH hS => wX12_isDigit_e C hr hk hH hS (lv_sub hl [0] rfl) h)
set_option maxHeartbeats 4000000 in
set_option maxRecDepth 100000 in
theorem wX12_sign_b95 (hW : FWM ω) (C : Cx ω p s m args c cX12_sign 5 RX12) (hr : meth.sig.returnType = some .int) (hk : meth.locks = false) {rr : Int32} {μo : Mem} {x1 : Int32} {x4 : Int32} {μ : Mem} {H : Heap} {locs : List Loc} {ls : Array Slot} (hH : Hd ω μ H) (hS : FS ω s H locs) (hl : lv_has ls 5 [(0, .ref (wB ω + 0)), (1, .int x1), (4, .int x4)]) (h : fX12_sign_b95 x1 x4 μ = some (rr, μo)) : W p l e (rmd 2) s m args below meth c H locs 0 0 (MQ below (QR ω (some (.int rr)) μo) args s 0 0 (wA ω)) (F0 m 95 ls []) := by
  have hx := C.1
  have hb := C.2.1
  unfold fX12_sign_b95 at h
  refine lv_aload_n hx hb dX12_sign_95 rfl (lv_at hl 0 rfl) ?_
  refine lv_iload hx hb dX12_sign_96 (lv_at hl 2 rfl) ?_
  refine lv_iload_n hx hb dX12_sign_98 rfl (lv_at hl 1 rfl) ?_
  refine lv_iconst (v := 0) hx hb dX12_sign_99 (by decide) ?_
  refine lv_lconst (v := 0) hx hb dX12_sign_100 (by decide) ?_
  obtain ⟨μ2, e1, h⟩ := b1_e h
  refine cVv (as := [.int x4, .int x1, .int 0, .long 0]) (rest := []) (c_X12_token hW e1) C hl.1 hH hS rfl (jM_0 hW) rfl wd_36 wd_1421 mw_X12_token wd_1419 rfl (rm_ok (by decide) (by decide)) (Nat.le_of_ble_eq_true rfl) ⟨Nat.zero_le _, Nat.zero_le _⟩ (by decide) dX12_sign_101 (fun H locs hH hS => ?_)
  refine lv_iconst (v := 1) hx hb dX12_sign_104 (by decide) ?_
  exact h_iret C hr hk hH hS rfl (by cases h; rfl) dX12_sign_105
set_option maxHeartbeats 4000000 in
set_option maxRecDepth 100000 in
theorem wX12_sign_b85 (hW : FWM ω) (C : Cx ω p s m args c cX12_sign 5 RX12) (hr : meth.sig.returnType = some .int) (hk : meth.locks = false) {rr : Int32} {μo : Mem} {x1 : Int32} {x2 : Int32} {x4 : Int32} {μ : Mem} {H : Heap} {locs : List Loc} {ls : Array Slot} (hH : Hd ω μ H) (hS : FS ω s H locs) (hl : lv_has ls 5 [(0, .ref (wB ω + 0)), (1, .int x1), (2, .int x2), (4, .int x4)]) (h : fX12_sign_b85 x1 x2 x4 μ = some (rr, μo)) : W p l e (rmd 2) s m args below meth c H locs 0 0 (MQ below (QR ω (some (.int rr)) μo) args s 0 0 (wA ω)) (F0 m 85 ls []) := by
  have hx := C.1
  have hb := C.2.1
  unfold fX12_sign_b85 at h
  refine lv_iload_n hx hb dX12_sign_85 rfl (lv_at hl 2 rfl) ?_
  refine lv_bipush (v := 60) hx hb dX12_sign_86 (by decide) ?_
  refine lv_icmp_ne (tgt := 95) hx hb dX12_sign_88 (by decide) (fun hc => ?_) (fun hc => ?_)
  · have h := ite_f hc h
    exact wX12_sign_b95 hW C hr hk hH hS (lv_sub hl [0, 1, 3] rfl) h
  · have h := ite_t hc h
    refine lv_bipush (v := 13) hx hb dX12_sign_91 (by decide) ?_
    refine lv_istore (lv' := [(4, .int 13), (0, .ref (wB ω + 0)), (1, .int x1), (2, .int x2)]) hx hb dX12_sign_93 hl (by decide) rfl (fun ls hl => ?_)
    exact wX12_sign_b95 hW C hr hk hH hS (lv_sub hl [1, 2, 0] rfl) h
set_option maxHeartbeats 4000000 in
set_option maxRecDepth 100000 in
theorem wX12_sign_b75 (hW : FWM ω) (C : Cx ω p s m args c cX12_sign 5 RX12) (hr : meth.sig.returnType = some .int) (hk : meth.locks = false) {rr : Int32} {μo : Mem} {x1 : Int32} {x2 : Int32} {x4 : Int32} {μ : Mem} {H : Heap} {locs : List Loc} {ls : Array Slot} (hH : Hd ω μ H) (hS : FS ω s H locs) (hl : lv_has ls 5 [(0, .ref (wB ω + 0)), (1, .int x1), (2, .int x2), (4, .int x4)]) (h : fX12_sign_b75 x1 x2 x4 μ = some (rr, μo)) : W p l e (rmd 2) s m args below meth c H locs 0 0 (MQ below (QR ω (some (.int rr)) μo) args s 0 0 (wA ω)) (F0 m 75 ls []) := by
  have hx := C.1
  have hb := C.2.1
  unfold fX12_sign_b75 at h
  refine lv_iload_n hx hb dX12_sign_75 rfl (lv_at hl 2 rfl) ?_
  refine lv_bipush (v := 47) hx hb dX12_sign_76 (by decide) ?_
  refine lv_icmp_ne (tgt := 85) hx hb dX12_sign_78 (by decide) (fun hc => ?_) (fun hc => ?_)
  · have h := ite_f hc h
    exact wX12_sign_b85 hW C hr hk hH hS hl h
  · have h := ite_t hc h
    refine lv_bipush (v := 15) hx hb dX12_sign_81 (by decide) ?_
    refine lv_istore (lv' := [(4, .int 15), (0, .ref (wB ω + 0)), (1, .int x1), (2, .int x2)]) hx hb dX12_sign_83 hl (by decide) rfl (fun ls hl => ?_)
    exact wX12_sign_b85 hW C hr hk hH hS (lv_sub hl [1, 2, 3, 0] rfl) h
set_option maxHeartbeats 4000000 in
set_option maxRecDepth 100000 in
theorem wX12_sign_b65 (hW : FWM ω) (C : Cx ω p s m args c cX12_sign 5 RX12) (hr : meth.sig.returnType = some .int) (hk : meth.locks = false) {rr : Int32} {μo : Mem} {x1 : Int32} {x2 : Int32} {x4 : Int32} {μ : Mem} {H : Heap} {locs : List Loc} {ls : Array Slot} (hH : Hd ω μ H) (hS : FS ω s H locs) (hl : lv_has ls 5 [(0, .ref (wB ω + 0)), (1, .int x1), (2, .int x2), (4, .int x4)]) (h : fX12_sign_b65 x1 x2 x4 μ = some (rr, μo)) : W p l e (rmd 2) s m args below meth c H locs 0 0 (MQ below (QR ω (some (.int rr)) μo) args s 0 0 (wA ω)) (F0 m 65 ls []) := by
  have hx := C.1
  have hb := C.2.1
  unfold fX12_sign_b65 at h
  refine lv_iload_n hx hb dX12_sign_65 rfl (lv_at hl 2 rfl) ?_
  refine lv_bipush (v := 42) hx hb dX12_sign_66 (by decide) ?_
  refine lv_icmp_ne (tgt := 75) hx hb dX12_sign_68 (by decide) (fun hc => ?_) (fun hc => ?_)
  · have h := ite_f hc h
    exact wX12_sign_b75 hW C hr hk hH hS hl h
  · have h := ite_t hc h
    refine lv_bipush (v := 10) hx hb dX12_sign_71 (by decide) ?_
    refine lv_istore (lv' := [(4, .int 10), (0, .ref (wB ω + 0)), (1, .int x1), (2, .int x2)]) hx hb dX12_sign_73 hl (by decide) rfl (fun ls hl => ?_)
    exact wX12_sign_b75 hW C hr hk hH hS (lv_sub hl [1, 2, 3, 0] rfl) h
set_option maxHeartbeats 4000000 in
set_option maxRecDepth 100000 in
theorem wX12_sign_b55 (hW : FWM ω) (C : Cx ω p s m args c cX12_sign 5 RX12) (hr : meth.sig.returnType = some .int) (hk : meth.locks = false) {rr : Int32} {μo : Mem} {x1 : Int32} {x2 : Int32} {x4 : Int32} {μ : Mem} {H : Heap} {locs : List Loc} {ls : Array Slot} (hH : Hd ω μ H) (hS : FS ω s H locs) (hl : lv_has ls 5 [(0, .ref (wB ω + 0)), (1, .int x1), (2, .int x2), (4, .int x4)]) (h : fX12_sign_b55 x1 x2 x4 μ = some (rr, μo)) : W p l e (rmd 2) s m args below meth c H locs 0 0 (MQ below (QR ω (some (.int rr)) μo) args s 0 0 (wA ω)) (F0 m 55 ls []) := by
  have hx := C.1
  have hb := C.2.1
  unfold fX12_sign_b55 at h
  refine lv_iload_n hx hb dX12_sign_55 rfl (lv_at hl 2 rfl) ?_
  refine lv_bipush (v := 45) hx hb dX12_sign_56 (by decide) ?_
  refine lv_icmp_ne (tgt := 65) hx hb dX12_sign_58 (by decide) (fun hc => ?_) (fun hc => ?_)
  · have h := ite_f hc h
    exact wX12_sign_b65 hW C hr hk hH hS hl h
  · have h := ite_t hc h
    refine lv_bipush (v := 9) hx hb dX12_sign_61 (by decide) ?_
    refine lv_istore (lv' := [(4, .int 9), (0, .ref (wB ω + 0)), (1, .int x1), (2, .int x2)]) hx hb dX12_sign_63 hl (by decide) rfl (fun ls hl => ?_)
    exact wX12_sign_b65 hW C hr hk hH hS (lv_sub hl [1, 2, 3, 0] rfl) h
set_option maxHeartbeats 4000000 in
set_option maxRecDepth 100000 in
theorem wX12_sign_b43 (hW : FWM ω) (C : Cx ω p s m args c cX12_sign 5 RX12) (hr : meth.sig.returnType = some .int) (hk : meth.locks = false) {rr : Int32} {μo : Mem} {x1 : Int32} {x2 : Int32} {k0 : Int32} {μ : Mem} {H : Heap} {locs : List Loc} {ls : Array Slot} (hH : Hd ω μ H) (hS : FS ω s H locs) (hl : lv_has ls 5 [(0, .ref (wB ω + 0)), (1, .int x1), (2, .int x2)]) (h : fX12_sign_b43 x1 x2 k0 μ = some (rr, μo)) : W p l e (rmd 2) s m args below meth c H locs 0 0 (MQ below (QR ω (some (.int rr)) μo) args s 0 0 (wA ω)) (F0 m 43 ls [.int k0]) := by
  have hx := C.1
  have hb := C.2.1
  unfold fX12_sign_b43 at h
  refine lv_istore (lv' := [(4, .int k0), (0, .ref (wB ω + 0)), (1, .int x1), (2, .int x2)]) hx hb dX12_sign_43 hl (by decide) rfl (fun ls hl => ?_)
  refine lv_iload_n hx hb dX12_sign_45 rfl (lv_at hl 3 rfl) ?_
  refine lv_bipush (v := 43) hx hb dX12_sign_46 (by decide) ?_
  refine lv_icmp_ne (tgt := 55) hx hb dX12_sign_48 (by decide) (fun hc => ?_) (fun hc => ?_)
  · have h := ite_f hc h
    exact wX12_sign_b55 hW C hr hk hH hS (lv_sub hl [1, 2, 3, 0] rfl) h
  · have h := ite_t hc h
    refine lv_bipush (v := 8) hx hb dX12_sign_51 (by decide) ?_
    refine lv_istore (lv' := [(4, .int 8), (0, .ref (wB ω + 0)), (1, .int x1), (2, .int x2)]) hx hb dX12_sign_53 hl (by decide) rfl (fun ls hl => ?_)
    exact wX12_sign_b55 hW C hr hk hH hS (lv_sub hl [1, 2, 3, 0] rfl) h
set_option maxHeartbeats 4000000 in
set_option maxRecDepth 100000 in
theorem wX12_sign_e (hW : FWM ω) (C : Cx ω p s m args c cX12_sign 5 RX12) (hr : meth.sig.returnType = some .int) (hk : meth.locks = false) {rr : Int32} {μo : Mem} {x1 : Int32} {x2 : Int32} {x3 : Int32} {μ : Mem} {H : Heap} {locs : List Loc} {ls : Array Slot} (hH : Hd ω μ H) (hS : FS ω s H locs) (hl : lv_has ls 5 [(0, .ref (wB ω + 0)), (1, .int x1), (2, .int x2), (3, .int x3)]) (h : fX12_sign x1 x2 x3 μ = some (rr, μo)) : W p l e (rmd 2) s m args below meth c H locs 0 0 (MQ below (QR ω (some (.int rr)) μo) args s 0 0 (wA ω)) (F0 m 0 ls []) := by
  have hx := C.1
  have hb := C.2.1
  unfold fX12_sign at h
  refine lv_iload_n hx hb dX12_sign_0 rfl (lv_at hl 2 rfl) ?_
  refine lv_bipush (v := 59) hx hb dX12_sign_1 (by decide) ?_
  refine lv_icmp_ne (tgt := 10) hx hb dX12_sign_3 (by decide) (fun hc => ?_) (fun hc => ?_)
  · have h := ite_f hc h
    refine lv_iload_n hx hb dX12_sign_10 rfl (lv_at hl 2 rfl) ?_
    refine lv_bipush (v := 61) hx hb dX12_sign_11 (by decide) ?_
    refine lv_icmp_ne (tgt := 20) hx hb dX12_sign_13 (by decide) (fun hc => ?_) (fun hc => ?_)
    · have h := ite_f hc h
      refine lv_iload_n hx hb dX12_sign_20 rfl (lv_at hl 2 rfl) ?_
      refine lv_bipush (v := 40) hx hb dX12_sign_21 (by decide) ?_
      refine lv_icmp_ne (tgt := 31) hx hb dX12_sign_23 (by decide) (fun hc => ?_) (fun hc => ?_)
      · have h := ite_f hc h
        refine lv_iload_n hx hb dX12_sign_31 rfl (lv_at hl 2 rfl) ?_
        refine lv_bipush (v := 41) hx hb dX12_sign_32 (by decide) ?_
        refine lv_icmp_ne (tgt := 42) hx hb dX12_sign_34 (by decide) (fun hc => ?_) (fun hc => ?_)
        · have h := ite_f hc h
          refine lv_iconst (v := 3) hx hb dX12_sign_42 (by decide) ?_
          exact wX12_sign_b43 hW C hr hk hH hS (lv_sub hl [0, 1, 2] rfl) h
        · have h := ite_t hc h
          refine lv_bipush (v := 7) hx hb dX12_sign_37 (by decide) ?_
          refine lv_goto (tgt := 43) hx hb dX12_sign_39 (by decide) ?_
          exact wX12_sign_b43 hW C hr hk hH hS (lv_sub hl [0, 1, 2] rfl) h
      · have h := ite_t hc h
        refine lv_bipush (v := 6) hx hb dX12_sign_26 (by decide) ?_
        refine lv_goto (tgt := 43) hx hb dX12_sign_28 (by decide) ?_
        exact wX12_sign_b43 hW C hr hk hH hS (lv_sub hl [0, 1, 2] rfl) h
    · have h := ite_t hc h
      refine lv_iconst (v := 5) hx hb dX12_sign_16 (by decide) ?_
      refine lv_goto (tgt := 43) hx hb dX12_sign_17 (by decide) ?_
      exact wX12_sign_b43 hW C hr hk hH hS (lv_sub hl [0, 1, 2] rfl) h
  · have h := ite_t hc h
    refine lv_iconst (v := 4) hx hb dX12_sign_6 (by decide) ?_
    refine lv_goto (tgt := 43) hx hb dX12_sign_7 (by decide) ?_
    exact wX12_sign_b43 hW C hr hk hH hS (lv_sub hl [0, 1, 2] rfl) h
theorem c_X12_sign {l : Launch} {ω : WW} {x1 : Int32} {x2 : Int32} {x3 : Int32} (hW : FWM ω) {μ : Mem} {rr : Int32} {μo : Mem} (h : fX12_sign x1 x2 x3 μ = some (rr, μo)) : Con l yX12_sign cX12_sign 5 (some .int) 2 ω [.ref (wB ω + 0), .int x1, .int x2, .int x3] μ (some (.int rr)) μo :=
  con_of (by decide) (Nat.le_of_ble_eq_true rfl) (fun p e s m args below meth c ls C hr hk hl hH hS => wX12_sign_e hW C hr hk hH hS (lv_sub hl [0, 1, 2, 3] rfl) h)
set_option maxHeartbeats 4000000 in
set_option maxRecDepth 100000 in
theorem wX12_cutsUp_s208 (hW : FWM ω) (C : Cx ω p s m args c cX12_cutsUp 8 RX12) (hr : meth.sig.returnType = none) (hk : meth.locks = false) {μo : Mem} {x1 : Int32} {x3 : Int32} {x4 : Int32} {μ : Mem} {rec : Int32 → Int32 → Option Mem} (hrec : ∀ (z3 : Int32) (z4 : Int32) (H : Heap) (locs : List Loc) (ls : Array Slot), Hd ω μ H → FS ω s H locs → lv_has ls 8 [(0, .ref (wB ω + 0)), (1, .int x1), (3, .int z3), (4, .int z4)] → rec z3 z4 = some μo → W p l e (rmd 3) s m args below meth c H locs 0 0 (MQ below (QR ω none μo) args s 0 0 (wA ω)) (F0 m 208 ls [])) {K : Int32 → Int32 → Option Mem} (hK : ∀ (z3 : Int32) (z4 : Int32) (H : Heap) (locs : List Loc) (ls : Array Slot), Hd ω μ H → FS ω s H locs → lv_has ls 8 [(0, .ref (wB ω + 0)), (1, .int x1), (3, .int z3), (4, .int z4)] → K z3 z4 = some μo → W p l e (rmd 3) s m args below meth c H locs 0 0 (MQ below (QR ω none μo) args s 0 0 (wA ω)) (F0 m 250 ls [])) {H : Heap} {locs : List Loc} {ls : Array Slot} (hH : Hd ω μ H) (hS : FS ω s H locs) (hl : lv_has ls 8 [(0, .ref (wB ω + 0)), (1, .int x1), (3, .int x3), (4, .int x4)]) (h : fX12_cutsUp_s208 rec K x1 x3 x4 μ = some μo) : W p l e (rmd 3) s m args below meth c H locs 0 0 (MQ below (QR ω none μo) args s 0 0 (wA ω)) (F0 m 208 ls []) := by
  have hx := C.1
  have hb := C.2.1
  unfold fX12_cutsUp_s208 at h
  refine lv_aload_n hx hb dX12_cutsUp_208 rfl (lv_at hl 0 rfl) ?_
  refine lv_iload_n hx hb dX12_cutsUp_209 rfl (lv_at hl 1 rfl) ?_
  refine lv_iload_n hx hb dX12_cutsUp_210 rfl (lv_at hl 2 rfl) ?_
  refine lv_iadd hx hb dX12_cutsUp_211 ?_
  obtain ⟨r17, e16, h⟩ := b1_e h
  refine cVi (as := [.int (x1 + x3)]) (rest := []) (c_X12_byteAt hW e16) C hl.1 hH hS rfl (jM_0 hW) rfl wd_35 wd_1417 mw_X12_byteAt wd_1415 rfl (rm_ok (by decide) (by decide)) (Nat.le_of_ble_eq_true rfl) ⟨Nat.zero_le _, Nat.zero_le _⟩ (by decide) dX12_cutsUp_212 (fun H locs hH hS => ?_)
  obtain ⟨r19, e18, h⟩ := b1_e h
  refine cSi (as := [.int r17]) (rest := []) (c_X12_isDigit e18) C hl.1 hH hS rfl wd_1427 mw_X12_isDigit wd_1426 rfl (rm_ok (by decide) (by decide)) (Nat.le_of_ble_eq_true rfl) ⟨Nat.zero_le _, Nat.zero_le _⟩ dX12_cutsUp_215 (fun H locs hH hS => ?_)
  refine lv_if_eq (tgt := 250) hx hb dX12_cutsUp_218 (by decide) (fun hc => ?_) (fun hc => ?_)
  · have h := ite_t hc h
    exact hK _ _ H locs ls hH hS hl h
  · have h := ite_f hc h
    refine lv_iload_n hx hb dX12_cutsUp_221 rfl (lv_at hl 2 rfl) ?_
    refine lv_iconst (v := 4) hx hb dX12_cutsUp_222 (by decide) ?_
    refine lv_icmp_ge (tgt := 244) hx hb dX12_cutsUp_223 (by decide) (fun hc => ?_) (fun hc => ?_)
    · have h := ite_t hc h
      refine lv_iinc (v := x3 + 1) (lv' := [(3, .int (x3 + 1)), (0, .ref (wB ω + 0)), (1, .int x1), (4, .int x4)]) hx hb dX12_cutsUp_244 hl (k := 2) rfl rfl (by decide) rfl (fun ls hl => ?_)
      refine lv_goto (tgt := 208) hx hb dX12_cutsUp_247 (by decide) ?_
      exact hrec _ _ H locs ls hH hS (lv_sub hl [1, 2, 0, 3] rfl) h
    · have h := ite_f hc h
      refine lv_bipush (v := 10) hx hb dX12_cutsUp_226 (by decide) ?_
      refine lv_iload hx hb dX12_cutsUp_228 (lv_at hl 3 rfl) ?_
      refine lv_imul hx hb dX12_cutsUp_230 ?_
      refine lv_aload_n hx hb dX12_cutsUp_231 rfl (lv_at hl 0 rfl) ?_
      refine lv_iload_n hx hb dX12_cutsUp_232 rfl (lv_at hl 1 rfl) ?_
      refine lv_iload_n hx hb dX12_cutsUp_233 rfl (lv_at hl 2 rfl) ?_
      refine lv_iadd hx hb dX12_cutsUp_234 ?_
      obtain ⟨r21, e20, h⟩ := b1_e h
      refine cVi (as := [.int (x1 + x3)]) (rest := [.int (10 * x4)]) (c_X12_byteAt hW e20) C hl.1 hH hS rfl (jM_0 hW) rfl wd_35 wd_1417 mw_X12_byteAt wd_1415 rfl (rm_ok (by decide) (by decide)) (Nat.le_of_ble_eq_true rfl) ⟨Nat.zero_le _, Nat.zero_le _⟩ (by decide) dX12_cutsUp_235 (fun H locs hH hS => ?_)
      refine lv_iadd hx hb dX12_cutsUp_238 ?_
      refine lv_bipush (v := 48) hx hb dX12_cutsUp_239 (by decide) ?_
      refine lv_isub hx hb dX12_cutsUp_241 ?_
      obtain ⟨y22, e23, h⟩ := bd_e h
      refine h_topi e23 ?_
      refine lv_istore (lv' := [(4, .int y22), (0, .ref (wB ω + 0)), (1, .int x1), (3, .int x3)]) hx hb dX12_cutsUp_242 hl (by decide) rfl (fun ls hl => ?_)
      refine lv_iinc (v := x3 + 1) (lv' := [(3, .int (x3 + 1)), (4, .int y22), (0, .ref (wB ω + 0)), (1, .int x1)]) hx hb dX12_cutsUp_244 hl (k := 3) rfl rfl (by decide) rfl (fun ls hl => ?_)
      refine lv_goto (tgt := 208) hx hb dX12_cutsUp_247 (by decide) ?_
      exact hrec _ _ H locs ls hH hS (lv_sub hl [2, 3, 0, 1] rfl) h
theorem wX12_cutsUp_l208 (hW : FWM ω) (C : Cx ω p s m args c cX12_cutsUp 8 RX12) (hr : meth.sig.returnType = none) (hk : meth.locks = false) {μo : Mem} {x1 : Int32} {μ : Mem} {K : Int32 → Int32 → Option Mem} (hK : ∀ (z3 : Int32) (z4 : Int32) (H : Heap) (locs : List Loc) (ls : Array Slot), Hd ω μ H → FS ω s H locs → lv_has ls 8 [(0, .ref (wB ω + 0)), (1, .int x1), (3, .int z3), (4, .int z4)] → K z3 z4 = some μo → W p l e (rmd 3) s m args below meth c H locs 0 0 (MQ below (QR ω none μo) args s 0 0 (wA ω)) (F0 m 250 ls [])) : ∀ (n : Nat) (x3 : Int32) (x4 : Int32) (H : Heap) (locs : List Loc) (ls : Array Slot), Hd ω μ H → FS ω s H locs → lv_has ls 8 [(0, .ref (wB ω + 0)), (1, .int x1), (3, .int x3), (4, .int x4)] → fX12_cutsUp_l208 K x1 μ n x3 x4 = some μo → W p l e (rmd 3) s m args below meth c H locs 0 0 (MQ below (QR ω none μo) args s 0 0 (wA ω)) (F0 m 208 ls []) := by
  intro n
  induction n with
  | zero => intro x3 x4 H locs ls hH hS hl h; cases h
  | succ n ih => intro x3 x4 H locs ls hH hS hl h; exact wX12_cutsUp_s208 hW C hr hk ih hK hH hS hl h
set_option maxHeartbeats 4000000 in
set_option maxRecDepth 100000 in
theorem wX12_cutsUp_b261 (hW : FWM ω) (C : Cx ω p s m args c cX12_cutsUp 8 RX12) (hr : meth.sig.returnType = none) (hk : meth.locks = false) {μo : Mem} {x1 : Int32} {x3 : Int32} {x4 : Int32} {rec : Int32 → Mem → Option Mem} (hrec : ∀ (z1 : Int32) (ν : Mem) (H : Heap) (locs : List Loc) (ls : Array Slot), Hd ω ν H → FS ω s H locs → lv_has ls 8 [(0, .ref (wB ω + 0)), (1, .int z1)] → rec z1 ν = some μo → W p l e (rmd 3) s m args below meth c H locs 0 0 (MQ below (QR ω none μo) args s 0 0 (wA ω)) (F0 m 7 ls [])) {k1 : Int32} {μ : Mem} {H : Heap} {locs : List Loc} {ls : Array Slot} (hH : Hd ω μ H) (hS : FS ω s H locs) (hl : lv_has ls 8 [(0, .ref (wB ω + 0)), (1, .int x1), (3, .int x3), (4, .int x4)]) (h : fX12_cutsUp_b261 rec x1 x3 x4 k1 μ = some μo) : W p l e (rmd 3) s m args below meth c H locs 0 0 (MQ below (QR ω none μo) args s 0 0 (wA ω)) (F0 m 261 ls [.int k1, .ref (wB ω + 0)]) := by
  have hx := C.1
  have hb := C.2.1
  unfold fX12_cutsUp_b261 at h
  refine lv_iload_n hx hb dX12_cutsUp_261 rfl (lv_at hl 1 rfl) ?_
  refine lv_iload hx hb dX12_cutsUp_262 (lv_at hl 3 rfl) ?_
  refine lv_lconst (v := 0) hx hb dX12_cutsUp_264 (by decide) ?_
  obtain ⟨μ27, e26, h⟩ := b1_e h
  refine cVv (as := [.int k1, .int x1, .int x4, .long 0]) (rest := []) (c_X12_token hW e26) C hl.1 hH hS rfl (jM_0 hW) rfl wd_36 wd_1421 mw_X12_token wd_1419 rfl (rm_ok (by decide) (by decide)) (Nat.le_of_ble_eq_true rfl) ⟨Nat.zero_le _, Nat.zero_le _⟩ (by decide) dX12_cutsUp_265 (fun H locs hH hS => ?_)
  refine lv_iload_n hx hb dX12_cutsUp_268 rfl (lv_at hl 1 rfl) ?_
  refine lv_iload_n hx hb dX12_cutsUp_269 rfl (lv_at hl 2 rfl) ?_
  refine lv_iadd hx hb dX12_cutsUp_270 ?_
  obtain ⟨y28, e29, h⟩ := bd_e h
  refine h_topi e29 ?_
  refine lv_istore_n (lv' := [(1, .int y28), (0, .ref (wB ω + 0)), (3, .int x3), (4, .int x4)]) hx hb dX12_cutsUp_271 rfl hl (by decide) rfl (fun ls hl => ?_)
  refine lv_goto (tgt := 291) hx hb dX12_cutsUp_272 (by decide) ?_
  refine lv_goto (tgt := 7) hx hb dX12_cutsUp_291 (by decide) ?_
  exact hrec _ _ H locs ls hH hS (lv_sub hl [1, 0] rfl) h
set_option maxHeartbeats 4000000 in
set_option maxRecDepth 100000 in
theorem wX12_cutsUp_s85 (hW : FWM ω) (C : Cx ω p s m args c cX12_cutsUp 8 RX12) (hr : meth.sig.returnType = none) (hk : meth.locks = false) {μo : Mem} {x1 : Int32} {x3 : Int32} {x4 : Int64} {μ : Mem} {rec : Int32 → Int64 → Option Mem} (hrec : ∀ (z3 : Int32) (z4 : Int64) (H : Heap) (locs : List Loc) (ls : Array Slot), Hd ω μ H → FS ω s H locs → lv_has ls 8 [(0, .ref (wB ω + 0)), (1, .int x1), (3, .int z3), (4, .long z4)] → rec z3 z4 = some μo → W p l e (rmd 3) s m args below meth c H locs 0 0 (MQ below (QR ω none μo) args s 0 0 (wA ω)) (F0 m 85 ls [])) {K : Int32 → Int64 → Option Mem} (hK : ∀ (z3 : Int32) (z4 : Int64) (H : Heap) (locs : List Loc) (ls : Array Slot), Hd ω μ H → FS ω s H locs → lv_has ls 8 [(0, .ref (wB ω + 0)), (1, .int x1), (3, .int z3), (4, .long z4)] → K z3 z4 = some μo → W p l e (rmd 3) s m args below meth c H locs 0 0 (MQ below (QR ω none μo) args s 0 0 (wA ω)) (F0 m 124 ls [])) {H : Heap} {locs : List Loc} {ls : Array Slot} (hH : Hd ω μ H) (hS : FS ω s H locs) (hl : lv_has ls 8 [(0, .ref (wB ω + 0)), (1, .int x1), (3, .int x3), (4, .long x4)]) (h : fX12_cutsUp_s85 rec K x1 x3 x4 μ = some μo) : W p l e (rmd 3) s m args below meth c H locs 0 0 (MQ below (QR ω none μo) args s 0 0 (wA ω)) (F0 m 85 ls []) := by
  have hx := C.1
  have hb := C.2.1
  unfold fX12_cutsUp_s85 at h
  refine lv_aload_n hx hb dX12_cutsUp_85 rfl (lv_at hl 0 rfl) ?_
  refine lv_iload_n hx hb dX12_cutsUp_86 rfl (lv_at hl 1 rfl) ?_
  refine lv_iload_n hx hb dX12_cutsUp_87 rfl (lv_at hl 2 rfl) ?_
  refine lv_iadd hx hb dX12_cutsUp_88 ?_
  obtain ⟨r31, e30, h⟩ := b1_e h
  refine cVi (as := [.int (x1 + x3)]) (rest := []) (c_X12_byteAt hW e30) C hl.1 hH hS rfl (jM_0 hW) rfl wd_35 wd_1417 mw_X12_byteAt wd_1415 rfl (rm_ok (by decide) (by decide)) (Nat.le_of_ble_eq_true rfl) ⟨Nat.zero_le _, Nat.zero_le _⟩ (by decide) dX12_cutsUp_89 (fun H locs hH hS => ?_)
  obtain ⟨r33, e32, h⟩ := b1_e h
  refine cSi (as := [.int r31]) (rest := []) (c_X12_isLetter e32) C hl.1 hH hS rfl wd_1424 mw_X12_isLetter wd_1423 rfl (rm_ok (by decide) (by decide)) (Nat.le_of_ble_eq_true rfl) ⟨Nat.zero_le _, Nat.zero_le _⟩ dX12_cutsUp_92 (fun H locs hH hS => ?_)
  refine lv_if_eq (tgt := 124) hx hb dX12_cutsUp_95 (by decide) (fun hc => ?_) (fun hc => ?_)
  · have h := ite_t hc h
    exact hK _ _ H locs ls hH hS hl h
  · have h := ite_f hc h
    refine lv_iload_n hx hb dX12_cutsUp_98 rfl (lv_at hl 2 rfl) ?_
    refine lv_bipush (v := 8) hx hb dX12_cutsUp_99 (by decide) ?_
    refine lv_icmp_ge (tgt := 118) hx hb dX12_cutsUp_101 (by decide) (fun hc => ?_) (fun hc => ?_)
    · have h := ite_t hc h
      refine lv_iinc (v := x3 + 1) (lv' := [(3, .int (x3 + 1)), (0, .ref (wB ω + 0)), (1, .int x1), (4, .long x4)]) hx hb dX12_cutsUp_118 hl (k := 2) rfl rfl (by decide) rfl (fun ls hl => ?_)
      refine lv_goto (tgt := 85) hx hb dX12_cutsUp_121 (by decide) ?_
      exact hrec _ _ H locs ls hH hS (lv_sub hl [1, 2, 0, 3] rfl) h
    · have h := ite_f hc h
      refine lv_lload hx hb dX12_cutsUp_104 (lv_at hl 3 rfl) ?_
      refine lv_aload_n hx hb dX12_cutsUp_106 rfl (lv_at hl 0 rfl) ?_
      refine lv_iload_n hx hb dX12_cutsUp_107 rfl (lv_at hl 1 rfl) ?_
      refine lv_iload_n hx hb dX12_cutsUp_108 rfl (lv_at hl 2 rfl) ?_
      refine lv_iadd hx hb dX12_cutsUp_109 ?_
      obtain ⟨r35, e34, h⟩ := b1_e h
      refine cVi (as := [.int (x1 + x3)]) (rest := [.long x4]) (c_X12_byteAt hW e34) C hl.1 hH hS rfl (jM_0 hW) rfl wd_35 wd_1417 mw_X12_byteAt wd_1415 rfl (rm_ok (by decide) (by decide)) (Nat.le_of_ble_eq_true rfl) ⟨Nat.zero_le _, Nat.zero_le _⟩ (by decide) dX12_cutsUp_110 (fun H locs hH hS => ?_)
      obtain ⟨r37, e36, h⟩ := b1_e h
      refine cSl (as := [.long x4, .int r35]) (rest := []) (c_X12_appends e36) C hl.1 hH hS rfl wd_1173 mw_X12_appends wd_1172 rfl (rm_ok (by decide) (by decide)) (Nat.le_of_ble_eq_true rfl) ⟨Nat.zero_le _, Nat.zero_le _⟩ dX12_cutsUp_113 (fun H locs hH hS => ?_)
      refine lv_lstore (lv' := [(4, .long r37), (0, .ref (wB ω + 0)), (1, .int x1), (3, .int x3)]) hx hb dX12_cutsUp_116 hl (by decide) rfl (fun ls hl => ?_)
      refine lv_iinc (v := x3 + 1) (lv' := [(3, .int (x3 + 1)), (4, .long r37), (0, .ref (wB ω + 0)), (1, .int x1)]) hx hb dX12_cutsUp_118 hl (k := 3) rfl rfl (by decide) rfl (fun ls hl => ?_)
      refine lv_goto (tgt := 85) hx hb dX12_cutsUp_121 (by decide) ?_
      exact hrec _ _ H locs ls hH hS (lv_sub hl [2, 3, 0, 1] rfl) h
theorem wX12_cutsUp_l85 (hW : FWM ω) (C : Cx ω p s m args c cX12_cutsUp 8 RX12) (hr : meth.sig.returnType = none) (hk : meth.locks = false) {μo : Mem} {x1 : Int32} {μ : Mem} {K : Int32 → Int64 → Option Mem} (hK : ∀ (z3 : Int32) (z4 : Int64) (H : Heap) (locs : List Loc) (ls : Array Slot), Hd ω μ H → FS ω s H locs → lv_has ls 8 [(0, .ref (wB ω + 0)), (1, .int x1), (3, .int z3), (4, .long z4)] → K z3 z4 = some μo → W p l e (rmd 3) s m args below meth c H locs 0 0 (MQ below (QR ω none μo) args s 0 0 (wA ω)) (F0 m 124 ls [])) : ∀ (n : Nat) (x3 : Int32) (x4 : Int64) (H : Heap) (locs : List Loc) (ls : Array Slot), Hd ω μ H → FS ω s H locs → lv_has ls 8 [(0, .ref (wB ω + 0)), (1, .int x1), (3, .int x3), (4, .long x4)] → fX12_cutsUp_l85 K x1 μ n x3 x4 = some μo → W p l e (rmd 3) s m args below meth c H locs 0 0 (MQ below (QR ω none μo) args s 0 0 (wA ω)) (F0 m 85 ls []) := by
  intro n
  induction n with
  | zero => intro x3 x4 H locs ls hH hS hl h; cases h
  | succ n ih => intro x3 x4 H locs ls hH hS hl h; exact wX12_cutsUp_s85 hW C hr hk ih hK hH hS hl h
set_option maxHeartbeats 4000000 in
set_option maxRecDepth 100000 in
theorem wX12_cutsUp_b179 (hW : FWM ω) (C : Cx ω p s m args c cX12_cutsUp 8 RX12) (hr : meth.sig.returnType = none) (hk : meth.locks = false) {μo : Mem} {x1 : Int32} {x3 : Int32} {x4 : Int64} {x6 : Int32} {rec : Int32 → Mem → Option Mem} (hrec : ∀ (z1 : Int32) (ν : Mem) (H : Heap) (locs : List Loc) (ls : Array Slot), Hd ω ν H → FS ω s H locs → lv_has ls 8 [(0, .ref (wB ω + 0)), (1, .int z1)] → rec z1 ν = some μo → W p l e (rmd 3) s m args below meth c H locs 0 0 (MQ below (QR ω none μo) args s 0 0 (wA ω)) (F0 m 7 ls [])) {μ : Mem} {H : Heap} {locs : List Loc} {ls : Array Slot} (hH : Hd ω μ H) (hS : FS ω s H locs) (hl : lv_has ls 8 [(0, .ref (wB ω + 0)), (1, .int x1), (3, .int x3), (4, .long x4), (6, .int x6)]) (h : fX12_cutsUp_b179 rec x1 x3 x4 x6 μ = some μo) : W p l e (rmd 3) s m args below meth c H locs 0 0 (MQ below (QR ω none μo) args s 0 0 (wA ω)) (F0 m 179 ls []) := by
  have hx := C.1
  have hb := C.2.1
  unfold fX12_cutsUp_b179 at h
  refine lv_aload_n hx hb dX12_cutsUp_179 rfl (lv_at hl 0 rfl) ?_
  refine lv_iload hx hb dX12_cutsUp_180 (lv_at hl 4 rfl) ?_
  refine lv_iload_n hx hb dX12_cutsUp_182 rfl (lv_at hl 1 rfl) ?_
  refine lv_iconst (v := 0) hx hb dX12_cutsUp_183 (by decide) ?_
  refine lv_lload hx hb dX12_cutsUp_184 (lv_at hl 3 rfl) ?_
  obtain ⟨μ41, e40, h⟩ := b1_e h
  refine cVv (as := [.int x6, .int x1, .int 0, .long x4]) (rest := []) (c_X12_token hW e40) C hl.1 hH hS rfl (jM_0 hW) rfl wd_36 wd_1421 mw_X12_token wd_1419 rfl (rm_ok (by decide) (by decide)) (Nat.le_of_ble_eq_true rfl) ⟨Nat.zero_le _, Nat.zero_le _⟩ (by decide) dX12_cutsUp_186 (fun H locs hH hS => ?_)
  refine lv_iload_n hx hb dX12_cutsUp_189 rfl (lv_at hl 1 rfl) ?_
  refine lv_iload_n hx hb dX12_cutsUp_190 rfl (lv_at hl 2 rfl) ?_
  refine lv_iadd hx hb dX12_cutsUp_191 ?_
  obtain ⟨y42, e43, h⟩ := bd_e h
  refine h_topi e43 ?_
  refine lv_istore_n (lv' := [(1, .int y42), (0, .ref (wB ω + 0)), (3, .int x3), (4, .long x4), (6, .int x6)]) hx hb dX12_cutsUp_192 rfl hl (by decide) rfl (fun ls hl => ?_)
  refine lv_goto (tgt := 291) hx hb dX12_cutsUp_193 (by decide) ?_
  refine lv_goto (tgt := 7) hx hb dX12_cutsUp_291 (by decide) ?_
  exact hrec _ _ H locs ls hH hS (lv_sub hl [1, 0] rfl) h
set_option maxHeartbeats 4000000 in
set_option maxRecDepth 100000 in
theorem wX12_cutsUp_s146 (hW : FWM ω) (C : Cx ω p s m args c cX12_cutsUp 8 RX12) (hr : meth.sig.returnType = none) (hk : meth.locks = false) {μo : Mem} {x1 : Int32} {x3 : Int32} {x4 : Int64} {x6 : Int32} {x7 : Int32} {μ : Mem} {rec : Int32 → Int32 → Option Mem} (hrec : ∀ (z6 : Int32) (z7 : Int32) (H : Heap) (locs : List Loc) (ls : Array Slot), Hd ω μ H → FS ω s H locs → lv_has ls 8 [(0, .ref (wB ω + 0)), (1, .int x1), (3, .int x3), (4, .long x4), (6, .int z6), (7, .int z7)] → rec z6 z7 = some μo → W p l e (rmd 3) s m args below meth c H locs 0 0 (MQ below (QR ω none μo) args s 0 0 (wA ω)) (F0 m 146 ls [])) {K : Int32 → Option Mem} (hK : ∀ (z6 : Int32) (H : Heap) (locs : List Loc) (ls : Array Slot), Hd ω μ H → FS ω s H locs → lv_has ls 8 [(0, .ref (wB ω + 0)), (1, .int x1), (3, .int x3), (4, .long x4), (6, .int z6)] → K z6 = some μo → W p l e (rmd 3) s m args below meth c H locs 0 0 (MQ below (QR ω none μo) args s 0 0 (wA ω)) (F0 m 179 ls [])) {H : Heap} {locs : List Loc} {ls : Array Slot} (hH : Hd ω μ H) (hS : FS ω s H locs) (hl : lv_has ls 8 [(0, .ref (wB ω + 0)), (1, .int x1), (3, .int x3), (4, .long x4), (6, .int x6), (7, .int x7)]) (h : fX12_cutsUp_s146 rec K x4 x6 x7 μ = some μo) : W p l e (rmd 3) s m args below meth c H locs 0 0 (MQ below (QR ω none μo) args s 0 0 (wA ω)) (F0 m 146 ls []) := by
  have hx := C.1
  have hb := C.2.1
  unfold fX12_cutsUp_s146 at h
  refine lv_iload hx hb dX12_cutsUp_146 (lv_at hl 5 rfl) ?_
  refine lv_bipush (v := 21) hx hb dX12_cutsUp_148 (by decide) ?_
  refine lv_icmp_ge (tgt := 179) hx hb dX12_cutsUp_150 (by decide) (fun hc => ?_) (fun hc => ?_)
  · have h := ite_t hc h
    exact hK _ H locs ls hH hS (lv_sub hl [0, 1, 2, 3, 4] rfl) h
  · have h := ite_f hc h
    refine lv_aload_n hx hb dX12_cutsUp_153 rfl (lv_at hl 0 rfl) ?_
    refine g_1196 (i := 7) C hH (jM_0 hW) rfl dX12_cutsUp_154 ?_
    refine lv_iload hx hb dX12_cutsUp_157 (lv_at hl 5 rfl) ?_
    obtain ⟨b44, h⟩ := gd_e h
    refine h_lald C hH (jM_7 hW).1 (jM_7 hW).2.1 b44 dX12_cutsUp_159 ?_
    refine lv_lload hx hb dX12_cutsUp_160 (lv_at hl 3 rfl) ?_
    refine W.lcmp hx hb dX12_cutsUp_162 ?_
    refine lv_if_ne (tgt := 173) hx hb dX12_cutsUp_163 (by decide) (fun hc => ?_) (fun hc => ?_)
    · have h := ite_f hc h
      refine lv_iinc (v := x7 + 1) (lv' := [(7, .int (x7 + 1)), (0, .ref (wB ω + 0)), (1, .int x1), (3, .int x3), (4, .long x4), (6, .int x6)]) hx hb dX12_cutsUp_173 hl (k := 5) rfl rfl (by decide) rfl (fun ls hl => ?_)
      refine lv_goto (tgt := 146) hx hb dX12_cutsUp_176 (by decide) ?_
      exact hrec _ _ H locs ls hH hS (lv_sub hl [1, 2, 3, 4, 5, 0] rfl) h
    · have h := ite_t hc h
      refine lv_bipush (v := 20) hx hb dX12_cutsUp_166 (by decide) ?_
      refine lv_iload hx hb dX12_cutsUp_168 (lv_at hl 5 rfl) ?_
      refine lv_iadd hx hb dX12_cutsUp_170 ?_
      obtain ⟨y45, e46, h⟩ := bd_e h
      refine h_topi e46 ?_
      refine lv_istore (lv' := [(6, .int y45), (0, .ref (wB ω + 0)), (1, .int x1), (3, .int x3), (4, .long x4), (7, .int x7)]) hx hb dX12_cutsUp_171 hl (by decide) rfl (fun ls hl => ?_)
      refine lv_iinc (v := x7 + 1) (lv' := [(7, .int (x7 + 1)), (6, .int y45), (0, .ref (wB ω + 0)), (1, .int x1), (3, .int x3), (4, .long x4)]) hx hb dX12_cutsUp_173 hl (k := 5) rfl rfl (by decide) rfl (fun ls hl => ?_)
      refine lv_goto (tgt := 146) hx hb dX12_cutsUp_176 (by decide) ?_
      exact hrec _ _ H locs ls hH hS (lv_sub hl [2, 3, 4, 5, 1, 0] rfl) h
theorem wX12_cutsUp_l146 (hW : FWM ω) (C : Cx ω p s m args c cX12_cutsUp 8 RX12) (hr : meth.sig.returnType = none) (hk : meth.locks = false) {μo : Mem} {x4 : Int64} {x1 : Int32} {x3 : Int32} {μ : Mem} {K : Int32 → Option Mem} (hK : ∀ (z6 : Int32) (H : Heap) (locs : List Loc) (ls : Array Slot), Hd ω μ H → FS ω s H locs → lv_has ls 8 [(0, .ref (wB ω + 0)), (1, .int x1), (3, .int x3), (4, .long x4), (6, .int z6)] → K z6 = some μo → W p l e (rmd 3) s m args below meth c H locs 0 0 (MQ below (QR ω none μo) args s 0 0 (wA ω)) (F0 m 179 ls [])) : ∀ (n : Nat) (x6 : Int32) (x7 : Int32) (H : Heap) (locs : List Loc) (ls : Array Slot), Hd ω μ H → FS ω s H locs → lv_has ls 8 [(0, .ref (wB ω + 0)), (1, .int x1), (3, .int x3), (4, .long x4), (6, .int x6), (7, .int x7)] → fX12_cutsUp_l146 K x4 μ n x6 x7 = some μo → W p l e (rmd 3) s m args below meth c H locs 0 0 (MQ below (QR ω none μo) args s 0 0 (wA ω)) (F0 m 146 ls []) := by
  intro n
  induction n with
  | zero => intro x6 x7 H locs ls hH hS hl h; cases h
  | succ n ih => intro x6 x7 H locs ls hH hS hl h; exact wX12_cutsUp_s146 hW C hr hk ih hK hH hS hl h
set_option maxHeartbeats 4000000 in
set_option maxRecDepth 100000 in
theorem wX12_cutsUp_b135 (hW : FWM ω) (C : Cx ω p s m args c cX12_cutsUp 8 RX12) (hr : meth.sig.returnType = none) (hk : meth.locks = false) {μo : Mem} {x1 : Int32} {x3 : Int32} {x4 : Int64} {rec : Int32 → Mem → Option Mem} (hrec : ∀ (z1 : Int32) (ν : Mem) (H : Heap) (locs : List Loc) (ls : Array Slot), Hd ω ν H → FS ω s H locs → lv_has ls 8 [(0, .ref (wB ω + 0)), (1, .int z1)] → rec z1 ν = some μo → W p l e (rmd 3) s m args below meth c H locs 0 0 (MQ below (QR ω none μo) args s 0 0 (wA ω)) (F0 m 7 ls [])) {k0 : Int32} {μ : Mem} {H : Heap} {locs : List Loc} {ls : Array Slot} (hH : Hd ω μ H) (hS : FS ω s H locs) (hl : lv_has ls 8 [(0, .ref (wB ω + 0)), (1, .int x1), (3, .int x3), (4, .long x4)]) (h : fX12_cutsUp_b135 rec x1 x3 x4 k0 μ = some μo) : W p l e (rmd 3) s m args below meth c H locs 0 0 (MQ below (QR ω none μo) args s 0 0 (wA ω)) (F0 m 135 ls [.int k0]) := by
  have hx := C.1
  have hb := C.2.1
  unfold fX12_cutsUp_b135 at h
  refine lv_istore (lv' := [(6, .int k0), (0, .ref (wB ω + 0)), (1, .int x1), (3, .int x3), (4, .long x4)]) hx hb dX12_cutsUp_135 hl (by decide) rfl (fun ls hl => ?_)
  refine lv_iload_n hx hb dX12_cutsUp_137 rfl (lv_at hl 3 rfl) ?_
  refine lv_bipush (v := 8) hx hb dX12_cutsUp_138 (by decide) ?_
  refine lv_icmp_gt (tgt := 179) hx hb dX12_cutsUp_140 (by decide) (fun hc => ?_) (fun hc => ?_)
  · have h := ite_t hc h
    exact wX12_cutsUp_b179 hW C hr hk hrec hH hS (lv_sub hl [1, 2, 3, 4, 0] rfl) h
  · have h := ite_f hc h
    refine lv_iconst (v := 0) hx hb dX12_cutsUp_143 (by decide) ?_
    refine lv_istore (lv' := [(7, .int 0), (6, .int k0), (0, .ref (wB ω + 0)), (1, .int x1), (3, .int x3), (4, .long x4)]) hx hb dX12_cutsUp_144 hl (by decide) rfl (fun ls hl => ?_)
    refine wX12_cutsUp_l146 hW C hr hk (fun y47 H locs ls hH hS hl h => ?_) FU _ _ H locs ls hH hS (lv_sub hl [2, 3, 4, 5, 1, 0] rfl) h
    exact wX12_cutsUp_b179 hW C hr hk hrec hH hS hl h
set_option maxHeartbeats 4000000 in
set_option maxRecDepth 100000 in
theorem wX12_cutsUp_s7 (hW : FWM ω) (C : Cx ω p s m args c cX12_cutsUp 8 RX12) (hr : meth.sig.returnType = none) (hk : meth.locks = false) {μo : Mem} {x1 : Int32} {rec : Int32 → Mem → Option Mem} (hrec : ∀ (z1 : Int32) (ν : Mem) (H : Heap) (locs : List Loc) (ls : Array Slot), Hd ω ν H → FS ω s H locs → lv_has ls 8 [(0, .ref (wB ω + 0)), (1, .int z1)] → rec z1 ν = some μo → W p l e (rmd 3) s m args below meth c H locs 0 0 (MQ below (QR ω none μo) args s 0 0 (wA ω)) (F0 m 7 ls [])) {μ : Mem} {H : Heap} {locs : List Loc} {ls : Array Slot} (hH : Hd ω μ H) (hS : FS ω s H locs) (hl : lv_has ls 8 [(0, .ref (wB ω + 0)), (1, .int x1)]) (h : fX12_cutsUp_s7 rec x1 μ = some μo) : W p l e (rmd 3) s m args below meth c H locs 0 0 (MQ below (QR ω none μo) args s 0 0 (wA ω)) (F0 m 7 ls []) := by
  have hx := C.1
  have hb := C.2.1
  unfold fX12_cutsUp_s7 at h
  refine lv_aload_n hx hb dX12_cutsUp_7 rfl (lv_at hl 0 rfl) ?_
  refine g_1197 C hH (jM_0 hW) dX12_cutsUp_8 ?_
  refine lv_sipush (v := 400) hx hb dX12_cutsUp_11 (by decide) ?_
  refine lv_icmp_gt (tgt := 294) hx hb dX12_cutsUp_14 (by decide) (fun hc => ?_) (fun hc => ?_)
  · have h := ite_t hc h
    exact h_vret C hr hk hH hS (by cases h; rfl) dX12_cutsUp_294
  · have h := ite_f hc h
    refine lv_aload_n hx hb dX12_cutsUp_17 rfl (lv_at hl 0 rfl) ?_
    refine lv_iload_n hx hb dX12_cutsUp_18 rfl (lv_at hl 1 rfl) ?_
    obtain ⟨r4, e3, h⟩ := b1_e h
    refine cVi (as := [.int x1]) (rest := []) (c_X12_byteAt hW e3) C hl.1 hH hS rfl (jM_0 hW) rfl wd_35 wd_1417 mw_X12_byteAt wd_1415 rfl (rm_ok (by decide) (by decide)) (Nat.le_of_ble_eq_true rfl) ⟨Nat.zero_le _, Nat.zero_le _⟩ (by decide) dX12_cutsUp_19 (fun H locs hH hS => ?_)
    refine lv_istore_n (lv' := [(2, .int r4), (0, .ref (wB ω + 0)), (1, .int x1)]) hx hb dX12_cutsUp_22 rfl hl (by decide) rfl (fun ls hl => ?_)
    refine lv_iload_n hx hb dX12_cutsUp_23 rfl (lv_at hl 2 rfl) ?_
    refine lv_aload_n hx hb dX12_cutsUp_24 rfl (lv_at hl 1 rfl) ?_
    refine g_1191 C hH (jM_0 hW) dX12_cutsUp_25 ?_
    refine lv_icmp_lt (tgt := 43) hx hb dX12_cutsUp_28 (by decide) (fun hc => ?_) (fun hc => ?_)
    · have h := ite_t hc h
      refine lv_iload_n hx hb dX12_cutsUp_43 rfl (lv_at hl 0 rfl) ?_
      refine lv_bipush (v := 9) hx hb dX12_cutsUp_44 (by decide) ?_
      refine lv_icmp_eq (tgt := 67) hx hb dX12_cutsUp_46 (by decide) (fun hc => ?_) (fun hc => ?_)
      · have h := ite_t hc h
        refine lv_iinc (v := x1 + 1) (lv' := [(1, .int (x1 + 1)), (2, .int r4), (0, .ref (wB ω + 0))]) hx hb dX12_cutsUp_67 hl (k := 2) rfl rfl (by decide) rfl (fun ls hl => ?_)
        refine lv_goto (tgt := 291) hx hb dX12_cutsUp_70 (by decide) ?_
        refine lv_goto (tgt := 7) hx hb dX12_cutsUp_291 (by decide) ?_
        exact hrec _ _ H locs ls hH hS (lv_sub hl [2, 0] rfl) h
      · have h := ite_f hc h
        refine lv_iload_n hx hb dX12_cutsUp_49 rfl (lv_at hl 0 rfl) ?_
        refine lv_bipush (v := 10) hx hb dX12_cutsUp_50 (by decide) ?_
        refine lv_icmp_eq (tgt := 67) hx hb dX12_cutsUp_52 (by decide) (fun hc => ?_) (fun hc => ?_)
        · have h := ite_t hc h
          refine lv_iinc (v := x1 + 1) (lv' := [(1, .int (x1 + 1)), (2, .int r4), (0, .ref (wB ω + 0))]) hx hb dX12_cutsUp_67 hl (k := 2) rfl rfl (by decide) rfl (fun ls hl => ?_)
          refine lv_goto (tgt := 291) hx hb dX12_cutsUp_70 (by decide) ?_
          refine lv_goto (tgt := 7) hx hb dX12_cutsUp_291 (by decide) ?_
          exact hrec _ _ H locs ls hH hS (lv_sub hl [2, 0] rfl) h
        · have h := ite_f hc h
          refine lv_iload_n hx hb dX12_cutsUp_55 rfl (lv_at hl 0 rfl) ?_
          refine lv_bipush (v := 13) hx hb dX12_cutsUp_56 (by decide) ?_
          refine lv_icmp_eq (tgt := 67) hx hb dX12_cutsUp_58 (by decide) (fun hc => ?_) (fun hc => ?_)
          · have h := ite_t hc h
            refine lv_iinc (v := x1 + 1) (lv' := [(1, .int (x1 + 1)), (2, .int r4), (0, .ref (wB ω + 0))]) hx hb dX12_cutsUp_67 hl (k := 2) rfl rfl (by decide) rfl (fun ls hl => ?_)
            refine lv_goto (tgt := 291) hx hb dX12_cutsUp_70 (by decide) ?_
            refine lv_goto (tgt := 7) hx hb dX12_cutsUp_291 (by decide) ?_
            exact hrec _ _ H locs ls hH hS (lv_sub hl [2, 0] rfl) h
          · have h := ite_f hc h
            refine lv_iload_n hx hb dX12_cutsUp_61 rfl (lv_at hl 0 rfl) ?_
            refine lv_bipush (v := 32) hx hb dX12_cutsUp_62 (by decide) ?_
            refine lv_icmp_ne (tgt := 73) hx hb dX12_cutsUp_64 (by decide) (fun hc => ?_) (fun hc => ?_)
            · have h := ite_f hc h
              refine lv_iload_n hx hb dX12_cutsUp_73 rfl (lv_at hl 0 rfl) ?_
              obtain ⟨r6, e5, h⟩ := b1_e h
              refine cSi (as := [.int r4]) (rest := []) (c_X12_isLetter e5) C hl.1 hH hS rfl wd_1424 mw_X12_isLetter wd_1423 rfl (rm_ok (by decide) (by decide)) (Nat.le_of_ble_eq_true rfl) ⟨Nat.zero_le _, Nat.zero_le _⟩ dX12_cutsUp_74 (fun H locs hH hS => ?_)
              refine lv_if_eq (tgt := 196) hx hb dX12_cutsUp_77 (by decide) (fun hc => ?_) (fun hc => ?_)
              · have h := ite_t hc h
                refine lv_iload_n hx hb dX12_cutsUp_196 rfl (lv_at hl 0 rfl) ?_
                obtain ⟨r8, e7, h⟩ := b1_e h
                refine cSi (as := [.int r4]) (rest := []) (c_X12_isDigit e7) C hl.1 hH hS rfl wd_1427 mw_X12_isDigit wd_1426 rfl (rm_ok (by decide) (by decide)) (Nat.le_of_ble_eq_true rfl) ⟨Nat.zero_le _, Nat.zero_le _⟩ dX12_cutsUp_197 (fun H locs hH hS => ?_)
                refine lv_if_eq (tgt := 275) hx hb dX12_cutsUp_200 (by decide) (fun hc => ?_) (fun hc => ?_)
                · have h := ite_t hc h
                  refine lv_iload_n hx hb dX12_cutsUp_275 rfl (lv_at hl 2 rfl) ?_
                  refine lv_aload_n hx hb dX12_cutsUp_276 rfl (lv_at hl 1 rfl) ?_
                  refine lv_iload_n hx hb dX12_cutsUp_277 rfl (lv_at hl 2 rfl) ?_
                  refine lv_iload_n hx hb dX12_cutsUp_278 rfl (lv_at hl 0 rfl) ?_
                  refine lv_aload_n hx hb dX12_cutsUp_279 rfl (lv_at hl 1 rfl) ?_
                  refine lv_iload_n hx hb dX12_cutsUp_280 rfl (lv_at hl 2 rfl) ?_
                  refine lv_iconst (v := 1) hx hb dX12_cutsUp_281 (by decide) ?_
                  refine lv_iadd hx hb dX12_cutsUp_282 ?_
                  obtain ⟨r10, e9, h⟩ := b1_e h
                  refine cVi (as := [.int (x1 + 1)]) (rest := [.int r4, .int x1, .ref (wB ω + 0), .int x1]) (c_X12_byteAt hW e9) C hl.1 hH hS rfl (jM_0 hW) rfl wd_35 wd_1417 mw_X12_byteAt wd_1415 rfl (rm_ok (by decide) (by decide)) (Nat.le_of_ble_eq_true rfl) ⟨Nat.zero_le _, Nat.zero_le _⟩ (by decide) dX12_cutsUp_283 (fun H locs hH hS => ?_)
                  obtain ⟨r13, μ12, e11, h⟩ := b2_e h
                  refine cVi (as := [.int x1, .int r4, .int r10]) (rest := [.int x1]) (c_X12_sign hW e11) C hl.1 hH hS rfl (jM_0 hW) rfl wd_37 wd_1431 mw_X12_sign wd_1429 rfl (rm_ok (by decide) (by decide)) (Nat.le_of_ble_eq_true rfl) ⟨Nat.zero_le _, Nat.zero_le _⟩ (by decide) dX12_cutsUp_286 (fun H locs hH hS => ?_)
                  refine lv_iadd hx hb dX12_cutsUp_289 ?_
                  obtain ⟨y14, e15, h⟩ := bd_e h
                  refine h_topi e15 ?_
                  refine lv_istore_n (lv' := [(1, .int y14), (2, .int r4), (0, .ref (wB ω + 0))]) hx hb dX12_cutsUp_290 rfl hl (by decide) rfl (fun ls hl => ?_)
                  refine lv_goto (tgt := 7) hx hb dX12_cutsUp_291 (by decide) ?_
                  exact hrec _ _ H locs ls hH hS (lv_sub hl [2, 0] rfl) h
                · have h := ite_f hc h
                  refine lv_iconst (v := 0) hx hb dX12_cutsUp_203 (by decide) ?_
                  refine lv_istore_n (lv' := [(3, .int 0), (2, .int r4), (0, .ref (wB ω + 0)), (1, .int x1)]) hx hb dX12_cutsUp_204 rfl hl (by decide) rfl (fun ls hl => ?_)
                  refine lv_iconst (v := 0) hx hb dX12_cutsUp_205 (by decide) ?_
                  refine lv_istore (lv' := [(4, .int 0), (3, .int 0), (2, .int r4), (0, .ref (wB ω + 0)), (1, .int x1)]) hx hb dX12_cutsUp_206 hl (by decide) rfl (fun ls hl => ?_)
                  refine wX12_cutsUp_l208 hW C hr hk (fun y24 y25 H locs ls hH hS hl h => ?_) FU _ _ H locs ls hH hS (lv_sub hl [3, 4, 1, 0] rfl) h
                  refine lv_aload_n hx hb dX12_cutsUp_250 rfl (lv_at hl 0 rfl) ?_
                  refine lv_iload_n hx hb dX12_cutsUp_251 rfl (lv_at hl 2 rfl) ?_
                  refine lv_iconst (v := 4) hx hb dX12_cutsUp_252 (by decide) ?_
                  refine lv_icmp_le (tgt := 260) hx hb dX12_cutsUp_253 (by decide) (fun hc => ?_) (fun hc => ?_)
                  · have h := ite_t hc h
                    refine lv_iconst (v := 2) hx hb dX12_cutsUp_260 (by decide) ?_
                    exact wX12_cutsUp_b261 hW C hr hk hrec hH hS hl h
                  · have h := ite_f hc h
                    refine lv_iconst (v := 3) hx hb dX12_cutsUp_256 (by decide) ?_
                    refine lv_goto (tgt := 261) hx hb dX12_cutsUp_257 (by decide) ?_
                    exact wX12_cutsUp_b261 hW C hr hk hrec hH hS hl h
              · have h := ite_f hc h
                refine lv_iconst (v := 0) hx hb dX12_cutsUp_80 (by decide) ?_
                refine lv_istore_n (lv' := [(3, .int 0), (2, .int r4), (0, .ref (wB ω + 0)), (1, .int x1)]) hx hb dX12_cutsUp_81 rfl hl (by decide) rfl (fun ls hl => ?_)
                refine lv_lconst (v := 0) hx hb dX12_cutsUp_82 (by decide) ?_
                refine lv_lstore (lv' := [(4, .long 0), (3, .int 0), (2, .int r4), (0, .ref (wB ω + 0)), (1, .int x1)]) hx hb dX12_cutsUp_83 hl (by decide) rfl (fun ls hl => ?_)
                refine wX12_cutsUp_l85 hW C hr hk (fun y38 y39 H locs ls hH hS hl h => ?_) FU _ _ H locs ls hH hS (lv_sub hl [3, 4, 1, 0] rfl) h
                refine lv_iload_n hx hb dX12_cutsUp_124 rfl (lv_at hl 2 rfl) ?_
                refine lv_bipush (v := 8) hx hb dX12_cutsUp_125 (by decide) ?_
                refine lv_icmp_le (tgt := 134) hx hb dX12_cutsUp_127 (by decide) (fun hc => ?_) (fun hc => ?_)
                · have h := ite_t hc h
                  refine lv_iconst (v := 1) hx hb dX12_cutsUp_134 (by decide) ?_
                  exact wX12_cutsUp_b135 hW C hr hk hrec hH hS hl h
                · have h := ite_f hc h
                  refine lv_iconst (v := 3) hx hb dX12_cutsUp_130 (by decide) ?_
                  refine lv_goto (tgt := 135) hx hb dX12_cutsUp_131 (by decide) ?_
                  exact wX12_cutsUp_b135 hW C hr hk hrec hH hS hl h
            · have h := ite_t hc h
              refine lv_iinc (v := x1 + 1) (lv' := [(1, .int (x1 + 1)), (2, .int r4), (0, .ref (wB ω + 0))]) hx hb dX12_cutsUp_67 hl (k := 2) rfl rfl (by decide) rfl (fun ls hl => ?_)
              refine lv_goto (tgt := 291) hx hb dX12_cutsUp_70 (by decide) ?_
              refine lv_goto (tgt := 7) hx hb dX12_cutsUp_291 (by decide) ?_
              exact hrec _ _ H locs ls hH hS (lv_sub hl [2, 0] rfl) h
    · have h := ite_f hc h
      refine lv_aload_n hx hb dX12_cutsUp_31 rfl (lv_at hl 1 rfl) ?_
      refine lv_iconst (v := 0) hx hb dX12_cutsUp_32 (by decide) ?_
      refine lv_aload_n hx hb dX12_cutsUp_33 rfl (lv_at hl 1 rfl) ?_
      refine g_1191 C hH (jM_0 hW) dX12_cutsUp_34 ?_
      refine lv_iconst (v := 0) hx hb dX12_cutsUp_37 (by decide) ?_
      refine lv_lconst (v := 0) hx hb dX12_cutsUp_38 (by decide) ?_
      obtain ⟨μ49, e48, h⟩ := b1_e h
      refine cVv (as := [.int 0, .int (μ.1 0 4), .int 0, .long 0]) (rest := []) (c_X12_token hW e48) C hl.1 hH hS rfl (jM_0 hW) rfl wd_36 wd_1421 mw_X12_token wd_1419 rfl (rm_ok (by decide) (by decide)) (Nat.le_of_ble_eq_true rfl) ⟨Nat.zero_le _, Nat.zero_le _⟩ (by decide) dX12_cutsUp_39 (fun H locs hH hS => ?_)
      exact h_vret C hr hk hH hS (by cases h; rfl) dX12_cutsUp_42
theorem wX12_cutsUp_l7 (hW : FWM ω) (C : Cx ω p s m args c cX12_cutsUp 8 RX12) (hr : meth.sig.returnType = none) (hk : meth.locks = false) {μo : Mem} : ∀ (n : Nat) (x1 : Int32) (μ : Mem) (H : Heap) (locs : List Loc) (ls : Array Slot), Hd ω μ H → FS ω s H locs → lv_has ls 8 [(0, .ref (wB ω + 0)), (1, .int x1)] → fX12_cutsUp_l7 n x1 μ = some μo → W p l e (rmd 3) s m args below meth c H locs 0 0 (MQ below (QR ω none μo) args s 0 0 (wA ω)) (F0 m 7 ls []) := by
  intro n
  induction n with
  | zero => intro x1 μ H locs ls hH hS hl h; cases h
  | succ n ih => intro x1 μ H locs ls hH hS hl h; exact wX12_cutsUp_s7 hW C hr hk ih hH hS hl h
set_option maxHeartbeats 4000000 in
set_option maxRecDepth 100000 in
theorem wX12_cutsUp_e (hW : FWM ω) (C : Cx ω p s m args c cX12_cutsUp 8 RX12) (hr : meth.sig.returnType = none) (hk : meth.locks = false) {μo : Mem} {μ : Mem} {H : Heap} {locs : List Loc} {ls : Array Slot} (hH : Hd ω μ H) (hS : FS ω s H locs) (hl : lv_has ls 8 [(0, .ref (wB ω + 0))]) (h : fX12_cutsUp μ = some μo) : W p l e (rmd 3) s m args below meth c H locs 0 0 (MQ below (QR ω none μo) args s 0 0 (wA ω)) (F0 m 0 ls []) := by
  have hx := C.1
  have hb := C.2.1
  unfold fX12_cutsUp at h
  refine lv_aload_n hx hb dX12_cutsUp_0 rfl (lv_at hl 0 rfl) ?_
  refine lv_iconst (v := 0) hx hb dX12_cutsUp_1 (by decide) ?_
  obtain ⟨μ1, e2, h⟩ := bd_e h
  refine p_1197 C hH hS (jM_0 hW) dX12_cutsUp_2 (fun H locs hH hS => ?_)
  have hH := Hd.to e2 hH
  refine lv_iconst (v := 0) hx hb dX12_cutsUp_5 (by decide) ?_
  refine lv_istore_n (lv' := [(1, .int 0), (0, .ref (wB ω + 0))]) hx hb dX12_cutsUp_6 rfl hl (by decide) rfl (fun ls hl => ?_)
  exact wX12_cutsUp_l7 hW C hr hk FU _ _ H locs ls hH hS (lv_sub hl [1, 0] rfl) h
theorem c_X12_cutsUp {l : Launch} {ω : WW} (hW : FWM ω) {μ : Mem} {μo : Mem} (h : fX12_cutsUp μ = some μo) : Con l yX12_cutsUp cX12_cutsUp 8 none 3 ω [.ref (wB ω + 0)] μ none μo :=
  con_of (by decide) (Nat.le_of_ble_eq_true rfl) (fun p e s m args below meth c ls C hr hk hl hH hS => wX12_cutsUp_e hW C hr hk hH hS (lv_sub hl [0] rfl) h)
set_option maxHeartbeats 4000000 in
set_option maxRecDepth 100000 in
theorem wX12_isLong_e (C : Cx ω p s m args c cX12_isLong 1 RX12) (hr : meth.sig.returnType = some .boolean) (hk : meth.locks = false) {rr : Int32} {μ : Mem} {x0 : Int32} {H : Heap} {locs : List Loc} {ls : Array Slot} (hH : Hd ω μ H) (hS : FS ω s H locs) (hl : lv_has ls 1 [(0, .int x0)]) (h : fX12_isLong x0 = some rr) : W p l e (rmd 2) s m args below meth c H locs 0 0 (MQ below (QR ω (some (.int rr)) μ) args s 0 0 (wA ω)) (F0 m 0 ls []) := by
  have hx := C.1
  have hb := C.2.1
  unfold fX12_isLong at h
  refine lv_iload_n hx hb dX12_isLong_0 rfl (lv_at hl 0 rfl) ?_
  refine lv_iconst (v := 0) hx hb dX12_isLong_1 (by decide) ?_
  refine lv_bipush (v := 60) hx hb dX12_isLong_2 (by decide) ?_
  obtain ⟨r2, e1, h⟩ := b1_e h
  refine cSi (as := [.int x0, .int 0, .int 60]) (rest := []) (c_X12_in e1) C hl.1 hH hS rfl wd_1506 mw_X12_in wd_1505 rfl (rm_ok (by decide) (by decide)) (Nat.le_of_ble_eq_true rfl) ⟨Nat.zero_le _, Nat.zero_le _⟩ dX12_isLong_4 (fun H locs hH hS => ?_)
  exact h_zret (y := r2 &&& 1) C hr hk hH hS rfl (by cases h; rfl) dX12_isLong_7
theorem c_X12_isLong {l : Launch} {ω : WW} {x0 : Int32} {μ : Mem} {rr : Int32} (h : fX12_isLong x0 = some rr) : Con l yX12_isLong cX12_isLong 1 (some .boolean) 2 ω [.int x0] μ (some (.int rr)) μ :=
  con_of (by decide) (Nat.le_of_ble_eq_true rfl) (fun p e s m args below meth c ls C hr hk hl hH hS => wX12_isLong_e C hr hk hH hS (lv_sub hl [0] rfl) h)
set_option maxHeartbeats 4000000 in
set_option maxRecDepth 100000 in
theorem wX12_goes_s2 (hW : FWM ω) (C : Cx ω p s m args c cX12_goes 3 RX12) (hr : meth.sig.returnType = none) (hk : meth.locks = false) {μo : Mem} {x1 : Int32} {x2 : Int32} {rec : Int32 → Mem → Option Mem} (hrec : ∀ (z2 : Int32) (ν : Mem) (H : Heap) (locs : List Loc) (ls : Array Slot), Hd ω ν H → FS ω s H locs → lv_has ls 3 [(0, .ref (wB ω + 0)), (1, .int x1), (2, .int z2)] → rec z2 ν = some μo → W p l e (rmd 7) s m args below meth c H locs 0 0 (MQ below (QR ω none μo) args s 0 0 (wA ω)) (F0 m 2 ls [])) {μ : Mem} {H : Heap} {locs : List Loc} {ls : Array Slot} (hH : Hd ω μ H) (hS : FS ω s H locs) (hl : lv_has ls 3 [(0, .ref (wB ω + 0)), (1, .int x1), (2, .int x2)]) (h : fX12_goes_s2 rec x1 x2 μ = some μo) : W p l e (rmd 7) s m args below meth c H locs 0 0 (MQ below (QR ω none μo) args s 0 0 (wA ω)) (F0 m 2 ls []) := by
  have hx := C.1
  have hb := C.2.1
  unfold fX12_goes_s2 at h
  refine lv_iload_n hx hb dX12_goes_2 rfl (lv_at hl 2 rfl) ?_
  refine lv_iload_n hx hb dX12_goes_3 rfl (lv_at hl 1 rfl) ?_
  refine lv_icmp_ge (tgt := 17) hx hb dX12_goes_4 (by decide) (fun hc => ?_) (fun hc => ?_)
  · have h := ite_t hc h
    exact h_vret C hr hk hH hS (by cases h; rfl) dX12_goes_17
  · have h := ite_f hc h
    refine lv_aload_n hx hb dX12_goes_7 rfl (lv_at hl 0 rfl) ?_
    obtain ⟨μ2, e1, h⟩ := b1_e h
    refine cVv (as := []) (rest := []) (c_X12_dayGoes hW e1) C hl.1 hH hS rfl (jM_0 hW) rfl wd_67 wd_1592 mw_X12_dayGoes wd_1590 rfl (rm_ok (by decide) (by decide)) (Nat.le_of_ble_eq_true rfl) ⟨Nat.zero_le _, Nat.zero_le _⟩ (by decide) dX12_goes_8 (fun H locs hH hS => ?_)
    refine lv_iinc (v := x2 + 1) (lv' := [(2, .int (x2 + 1)), (0, .ref (wB ω + 0)), (1, .int x1)]) hx hb dX12_goes_11 hl (k := 2) rfl rfl (by decide) rfl (fun ls hl => ?_)
    refine lv_goto (tgt := 2) hx hb dX12_goes_14 (by decide) ?_
    exact hrec _ _ H locs ls hH hS (lv_sub hl [1, 2, 0] rfl) h
theorem wX12_goes_l2 (hW : FWM ω) (C : Cx ω p s m args c cX12_goes 3 RX12) (hr : meth.sig.returnType = none) (hk : meth.locks = false) {μo : Mem} {x1 : Int32} : ∀ (n : Nat) (x2 : Int32) (μ : Mem) (H : Heap) (locs : List Loc) (ls : Array Slot), Hd ω μ H → FS ω s H locs → lv_has ls 3 [(0, .ref (wB ω + 0)), (1, .int x1), (2, .int x2)] → fX12_goes_l2 x1 n x2 μ = some μo → W p l e (rmd 7) s m args below meth c H locs 0 0 (MQ below (QR ω none μo) args s 0 0 (wA ω)) (F0 m 2 ls []) := by
  intro n
  induction n with
  | zero => intro x2 μ H locs ls hH hS hl h; cases h
  | succ n ih => intro x2 μ H locs ls hH hS hl h; exact wX12_goes_s2 hW C hr hk ih hH hS hl h
set_option maxHeartbeats 4000000 in
set_option maxRecDepth 100000 in
theorem wX12_goes_e (hW : FWM ω) (C : Cx ω p s m args c cX12_goes 3 RX12) (hr : meth.sig.returnType = none) (hk : meth.locks = false) {μo : Mem} {x1 : Int32} {μ : Mem} {H : Heap} {locs : List Loc} {ls : Array Slot} (hH : Hd ω μ H) (hS : FS ω s H locs) (hl : lv_has ls 3 [(0, .ref (wB ω + 0)), (1, .int x1)]) (h : fX12_goes x1 μ = some μo) : W p l e (rmd 7) s m args below meth c H locs 0 0 (MQ below (QR ω none μo) args s 0 0 (wA ω)) (F0 m 0 ls []) := by
  have hx := C.1
  have hb := C.2.1
  unfold fX12_goes at h
  refine lv_iconst (v := 0) hx hb dX12_goes_0 (by decide) ?_
  refine lv_istore_n (lv' := [(2, .int 0), (0, .ref (wB ω + 0)), (1, .int x1)]) hx hb dX12_goes_1 rfl hl (by decide) rfl (fun ls hl => ?_)
  exact wX12_goes_l2 hW C hr hk FU _ _ H locs ls hH hS (lv_sub hl [1, 2, 0] rfl) h
theorem c_X12_goes {l : Launch} {ω : WW} {x1 : Int32} (hW : FWM ω) {μ : Mem} {μo : Mem} (h : fX12_goes x1 μ = some μo) : Con l yX12_goes cX12_goes 3 none 7 ω [.ref (wB ω + 0), .int x1] μ none μo :=
  con_of (by decide) (Nat.le_of_ble_eq_true rfl) (fun p e s m args below meth c ls C hr hk hl hH hS => wX12_goes_e hW C hr hk hH hS (lv_sub hl [0, 1] rfl) h)
set_option maxHeartbeats 4000000 in
set_option maxRecDepth 100000 in
theorem wX12_days_e (hW : FWM ω) (C : Cx ω p s m args c cX12_days 2 RX12) (hr : meth.sig.returnType = some .int) (hk : meth.locks = false) {rr : Int32} {μo : Mem} {x1 : Int32} {μ : Mem} {H : Heap} {locs : List Loc} {ls : Array Slot} (hH : Hd ω μ H) (hS : FS ω s H locs) (hl : lv_has ls 2 [(0, .ref (wB ω + 0)), (1, .int x1)]) (h : fX12_days x1 μ = some (rr, μo)) : W p l e (rmd 8) s m args below meth c H locs 0 0 (MQ below (QR ω (some (.int rr)) μo) args s 0 0 (wA ω)) (F0 m 0 ls []) := by
  have hx := C.1
  have hb := C.2.1
  unfold fX12_days at h
  refine lv_iload_n hx hb dX12_days_0 rfl (lv_at hl 1 rfl) ?_
  obtain ⟨r2, e1, h⟩ := b1_e h
  refine cSi (as := [.int x1]) (rest := []) (c_X12_isLong e1) C hl.1 hH hS rfl wd_1584 mw_X12_isLong wd_1583 rfl (rm_ok (by decide) (by decide)) (Nat.le_of_ble_eq_true rfl) ⟨Nat.zero_le _, Nat.zero_le _⟩ dX12_days_1 (fun H locs hH hS => ?_)
  refine lv_if_ne (tgt := 9) hx hb dX12_days_4 (by decide) (fun hc => ?_) (fun hc => ?_)
  · have h := ite_f hc h
    refine lv_iload_n hx hb dX12_days_9 rfl (lv_at hl 1 rfl) ?_
    refine lv_if_ne (tgt := 21) hx hb dX12_days_10 (by decide) (fun hc => ?_) (fun hc => ?_)
    · have h := ite_f hc h
      refine lv_aload_n hx hb dX12_days_21 rfl (lv_at hl 0 rfl) ?_
      obtain ⟨μ4, e3, h⟩ := b1_e h
      refine cVv (as := []) (rest := []) (c_X12_copies hW e3) C hl.1 hH hS rfl (jM_0 hW) rfl wd_54 wd_1510 mw_X12_copies wd_1508 rfl (rm_ok (by decide) (by decide)) (Nat.le_of_ble_eq_true rfl) ⟨Nat.zero_le _, Nat.zero_le _⟩ (by decide) dX12_days_22 (fun H locs hH hS => ?_)
      refine lv_aload_n hx hb dX12_days_25 rfl (lv_at hl 0 rfl) ?_
      refine lv_iload_n hx hb dX12_days_26 rfl (lv_at hl 1 rfl) ?_
      obtain ⟨μ6, e5, h⟩ := b1_e h
      refine cVv (as := [.int x1]) (rest := []) (c_X12_goes hW e5) C hl.1 hH hS rfl (jM_0 hW) rfl wd_66 wd_1588 mw_X12_goes wd_1586 rfl (rm_ok (by decide) (by decide)) (Nat.le_of_ble_eq_true rfl) ⟨Nat.zero_le _, Nat.zero_le _⟩ (by decide) dX12_days_27 (fun H locs hH hS => ?_)
      refine lv_aload_n hx hb dX12_days_30 rfl (lv_at hl 0 rfl) ?_
      obtain ⟨μ8, e7, h⟩ := b1_e h
      refine cVv (as := []) (rest := []) (c_X12_records hW e7) C hl.1 hH hS rfl (jM_0 hW) rfl wd_65 wd_1561 mw_X12_records wd_1559 rfl (rm_ok (by decide) (by decide)) (Nat.le_of_ble_eq_true rfl) ⟨Nat.zero_le _, Nat.zero_le _⟩ (by decide) dX12_days_31 (fun H locs hH hS => ?_)
      refine lv_aload_n hx hb dX12_days_34 rfl (lv_at hl 0 rfl) ?_
      refine g_1234 (i := 31) C hH (jM_0 hW) rfl dX12_days_35 ?_
      refine lv_bipush (v := 36) hx hb dX12_days_38 (by decide) ?_
      refine h_iald C hH (jM_31 hW).1 (jM_31 hW).2.1 (by decide) dX12_days_40 ?_
      refine h_topi (y := μ8.1 31 36) rfl ?_
      exact h_iret C hr hk hH hS rfl (by cases h; rfl) dX12_days_41
    · have h := ite_t hc h
      refine lv_aload_n hx hb dX12_days_13 rfl (lv_at hl 0 rfl) ?_
      refine g_1234 (i := 31) C hH (jM_0 hW) rfl dX12_days_14 ?_
      refine lv_bipush (v := 36) hx hb dX12_days_17 (by decide) ?_
      refine h_iald C hH (jM_31 hW).1 (jM_31 hW).2.1 (by decide) dX12_days_19 ?_
      refine h_topi (y := μ.1 31 36) rfl ?_
      exact h_iret C hr hk hH hS rfl (by cases h; rfl) dX12_days_20
  · have h := ite_t hc h
    refine lv_iconst (v := (-1)) hx hb dX12_days_7 (by decide) ?_
    exact h_iret C hr hk hH hS rfl (by cases h; rfl) dX12_days_8
theorem c_X12_days {l : Launch} {ω : WW} {x1 : Int32} (hW : FWM ω) {μ : Mem} {rr : Int32} {μo : Mem} (h : fX12_days x1 μ = some (rr, μo)) : Con l yX12_days cX12_days 2 (some .int) 8 ω [.ref (wB ω + 0), .int x1] μ (some (.int rr)) μo :=
  con_of (by decide) (Nat.le_of_ble_eq_true rfl) (fun p e s m args below meth c ls C hr hk hl hH hS => wX12_days_e hW C hr hk hH hS (lv_sub hl [0, 1] rfl) h)
end WK9
