theorem dX12_tellOne_0 : decode cX12_tellOne 0 = .ok (.aload_n 0, 1) := by decide +kernel
theorem dX12_tellOne_1 : decode cX12_tellOne 1 = .ok (.getfield 20, 3) := by decide +kernel
theorem dX12_tellOne_4 : decode cX12_tellOne 4 = .ok (.aload_n 0, 1) := by decide +kernel
theorem dX12_tellOne_5 : decode cX12_tellOne 5 = .ok (.getfield 218, 3) := by decide +kernel
theorem dX12_tellOne_8 : decode cX12_tellOne 8 = .ok (.iaload, 1) := by decide +kernel
theorem dX12_tellOne_9 : decode cX12_tellOne 9 = .ok (.tableswitch 162 20 28 #[51, 162, 162, 162, 162, 84, 104, 123, 142], 51) := by decide +kernel
theorem dX12_tellOne_60 : decode cX12_tellOne 60 = .ok (.aload_n 0, 1) := by decide +kernel
theorem dX12_tellOne_61 : decode cX12_tellOne 61 = .ok (.getfield 43, 3) := by decide +kernel
theorem dX12_tellOne_64 : decode cX12_tellOne 64 = .ok (.aload_n 0, 1) := by decide +kernel
theorem dX12_tellOne_65 : decode cX12_tellOne 65 = .ok (.getfield 248, 3) := by decide +kernel
theorem dX12_tellOne_68 : decode cX12_tellOne 68 = .ok (.iaload, 1) := by decide +kernel
theorem dX12_tellOne_69 : decode cX12_tellOne 69 = .ok (.bipush 6, 2) := by decide +kernel
theorem dX12_tellOne_71 : decode cX12_tellOne 71 = .ok (.if_icmp .ne 8, 3) := by decide +kernel
theorem dX12_tellOne_74 : decode cX12_tellOne 74 = .ok (.aload_n 0, 1) := by decide +kernel
theorem dX12_tellOne_75 : decode cX12_tellOne 75 = .ok (.iconst 2, 1) := by decide +kernel
theorem dX12_tellOne_76 : decode cX12_tellOne 76 = .ok (.invokevirtual 230, 3) := by decide +kernel
theorem dX12_tellOne_79 : decode cX12_tellOne 79 = .ok (.aload_n 0, 1) := by decide +kernel
theorem dX12_tellOne_80 : decode cX12_tellOne 80 = .ok (.getfield 215, 3) := by decide +kernel
theorem dX12_tellOne_83 : decode cX12_tellOne 83 = .ok (.ifCond .ne 141, 3) := by decide +kernel
theorem dX12_tellOne_86 : decode cX12_tellOne 86 = .ok (.aload_n 0, 1) := by decide +kernel
theorem dX12_tellOne_87 : decode cX12_tellOne 87 = .ok (.invokevirtual 273, 3) := by decide +kernel
theorem dX12_tellOne_90 : decode cX12_tellOne 90 = .ok (.goto 134, 3) := by decide +kernel
theorem dX12_tellOne_93 : decode cX12_tellOne 93 = .ok (.aload_n 0, 1) := by decide +kernel
theorem dX12_tellOne_94 : decode cX12_tellOne 94 = .ok (.getfield 61, 3) := by decide +kernel
theorem dX12_tellOne_97 : decode cX12_tellOne 97 = .ok (.aload_n 0, 1) := by decide +kernel
theorem dX12_tellOne_98 : decode cX12_tellOne 98 = .ok (.getfield 248, 3) := by decide +kernel
theorem dX12_tellOne_101 : decode cX12_tellOne 101 = .ok (.aload_n 0, 1) := by decide +kernel
theorem dX12_tellOne_102 : decode cX12_tellOne 102 = .ok (.iconst 0, 1) := by decide +kernel
theorem dX12_tellOne_103 : decode cX12_tellOne 103 = .ok (.sipush 999, 3) := by decide +kernel
theorem dX12_tellOne_106 : decode cX12_tellOne 106 = .ok (.invokevirtual 276, 3) := by decide +kernel
theorem dX12_tellOne_109 : decode cX12_tellOne 109 = .ok (.iastore, 1) := by decide +kernel
theorem dX12_tellOne_110 : decode cX12_tellOne 110 = .ok (.goto 114, 3) := by decide +kernel
theorem dX12_tellOne_113 : decode cX12_tellOne 113 = .ok (.aload_n 0, 1) := by decide +kernel
theorem dX12_tellOne_114 : decode cX12_tellOne 114 = .ok (.getfield 64, 3) := by decide +kernel
theorem dX12_tellOne_117 : decode cX12_tellOne 117 = .ok (.aload_n 0, 1) := by decide +kernel
theorem dX12_tellOne_118 : decode cX12_tellOne 118 = .ok (.getfield 248, 3) := by decide +kernel
theorem dX12_tellOne_121 : decode cX12_tellOne 121 = .ok (.aload_n 0, 1) := by decide +kernel
theorem dX12_tellOne_122 : decode cX12_tellOne 122 = .ok (.iconst 1, 1) := by decide +kernel
theorem dX12_tellOne_123 : decode cX12_tellOne 123 = .ok (.bipush 99, 2) := by decide +kernel
theorem dX12_tellOne_125 : decode cX12_tellOne 125 = .ok (.invokevirtual 276, 3) := by decide +kernel
theorem dX12_tellOne_128 : decode cX12_tellOne 128 = .ok (.iastore, 1) := by decide +kernel
theorem dX12_tellOne_129 : decode cX12_tellOne 129 = .ok (.goto 95, 3) := by decide +kernel
theorem dX12_tellOne_132 : decode cX12_tellOne 132 = .ok (.aload_n 0, 1) := by decide +kernel
theorem dX12_tellOne_133 : decode cX12_tellOne 133 = .ok (.getfield 67, 3) := by decide +kernel
theorem dX12_tellOne_136 : decode cX12_tellOne 136 = .ok (.aload_n 0, 1) := by decide +kernel
theorem dX12_tellOne_137 : decode cX12_tellOne 137 = .ok (.getfield 248, 3) := by decide +kernel
theorem dX12_tellOne_140 : decode cX12_tellOne 140 = .ok (.aload_n 0, 1) := by decide +kernel
theorem dX12_tellOne_141 : decode cX12_tellOne 141 = .ok (.iconst 0, 1) := by decide +kernel
theorem dX12_tellOne_142 : decode cX12_tellOne 142 = .ok (.bipush 100, 2) := by decide +kernel
theorem dX12_tellOne_144 : decode cX12_tellOne 144 = .ok (.invokevirtual 276, 3) := by decide +kernel
theorem dX12_tellOne_147 : decode cX12_tellOne 147 = .ok (.iastore, 1) := by decide +kernel
theorem dX12_tellOne_148 : decode cX12_tellOne 148 = .ok (.goto 76, 3) := by decide +kernel
theorem dX12_tellOne_151 : decode cX12_tellOne 151 = .ok (.aload_n 0, 1) := by decide +kernel
theorem dX12_tellOne_152 : decode cX12_tellOne 152 = .ok (.getfield 70, 3) := by decide +kernel
theorem dX12_tellOne_155 : decode cX12_tellOne 155 = .ok (.aload_n 0, 1) := by decide +kernel
theorem dX12_tellOne_156 : decode cX12_tellOne 156 = .ok (.getfield 248, 3) := by decide +kernel
theorem dX12_tellOne_159 : decode cX12_tellOne 159 = .ok (.aload_n 0, 1) := by decide +kernel
theorem dX12_tellOne_160 : decode cX12_tellOne 160 = .ok (.iconst 0, 1) := by decide +kernel
theorem dX12_tellOne_161 : decode cX12_tellOne 161 = .ok (.sipush 9999, 3) := by decide +kernel
theorem dX12_tellOne_164 : decode cX12_tellOne 164 = .ok (.invokevirtual 276, 3) := by decide +kernel
theorem dX12_tellOne_167 : decode cX12_tellOne 167 = .ok (.iastore, 1) := by decide +kernel
theorem dX12_tellOne_168 : decode cX12_tellOne 168 = .ok (.goto 56, 3) := by decide +kernel
theorem dX12_tellOne_171 : decode cX12_tellOne 171 = .ok (.aload_n 0, 1) := by decide +kernel
theorem dX12_tellOne_172 : decode cX12_tellOne 172 = .ok (.getfield 20, 3) := by decide +kernel
theorem dX12_tellOne_175 : decode cX12_tellOne 175 = .ok (.aload_n 0, 1) := by decide +kernel
theorem dX12_tellOne_176 : decode cX12_tellOne 176 = .ok (.getfield 218, 3) := by decide +kernel
theorem dX12_tellOne_179 : decode cX12_tellOne 179 = .ok (.iaload, 1) := by decide +kernel
theorem dX12_tellOne_180 : decode cX12_tellOne 180 = .ok (.bipush 21, 2) := by decide +kernel
theorem dX12_tellOne_182 : decode cX12_tellOne 182 = .ok (.isub, 1) := by decide +kernel
theorem dX12_tellOne_183 : decode cX12_tellOne 183 = .ok (.istore_n 1, 1) := by decide +kernel
theorem dX12_tellOne_184 : decode cX12_tellOne 184 = .ok (.iload_n 1, 1) := by decide +kernel
theorem dX12_tellOne_185 : decode cX12_tellOne 185 = .ok (.ifCond .lt 17, 3) := by decide +kernel
theorem dX12_tellOne_188 : decode cX12_tellOne 188 = .ok (.aload_n 0, 1) := by decide +kernel
theorem dX12_tellOne_189 : decode cX12_tellOne 189 = .ok (.getfield 20, 3) := by decide +kernel
theorem dX12_tellOne_192 : decode cX12_tellOne 192 = .ok (.aload_n 0, 1) := by decide +kernel
theorem dX12_tellOne_193 : decode cX12_tellOne 193 = .ok (.getfield 218, 3) := by decide +kernel
theorem dX12_tellOne_196 : decode cX12_tellOne 196 = .ok (.iaload, 1) := by decide +kernel
theorem dX12_tellOne_197 : decode cX12_tellOne 197 = .ok (.bipush 24, 2) := by decide +kernel
theorem dX12_tellOne_199 : decode cX12_tellOne 199 = .ok (.if_icmp .le 8, 3) := by decide +kernel
theorem dX12_tellOne_202 : decode cX12_tellOne 202 = .ok (.aload_n 0, 1) := by decide +kernel
theorem dX12_tellOne_203 : decode cX12_tellOne 203 = .ok (.iconst 1, 1) := by decide +kernel
theorem dX12_tellOne_204 : decode cX12_tellOne 204 = .ok (.invokevirtual 230, 3) := by decide +kernel
theorem dX12_tellOne_207 : decode cX12_tellOne 207 = .ok (.aload_n 0, 1) := by decide +kernel
theorem dX12_tellOne_208 : decode cX12_tellOne 208 = .ok (.getfield 215, 3) := by decide +kernel
theorem dX12_tellOne_211 : decode cX12_tellOne 211 = .ok (.ifCond .le 4, 3) := by decide +kernel
theorem dX12_tellOne_214 : decode cX12_tellOne 214 = .ok (.return_, 1) := by decide +kernel
theorem dX12_tellOne_215 : decode cX12_tellOne 215 = .ok (.aload_n 0, 1) := by decide +kernel
theorem dX12_tellOne_216 : decode cX12_tellOne 216 = .ok (.invokevirtual 236, 3) := by decide +kernel
theorem dX12_tellOne_219 : decode cX12_tellOne 219 = .ok (.aload_n 0, 1) := by decide +kernel
theorem dX12_tellOne_220 : decode cX12_tellOne 220 = .ok (.iload_n 1, 1) := by decide +kernel
theorem dX12_tellOne_221 : decode cX12_tellOne 221 = .ok (.invokevirtual 279, 3) := by decide +kernel
theorem dX12_tellOne_224 : decode cX12_tellOne 224 = .ok (.return_, 1) := by decide +kernel
theorem dX12_read_0 : decode cX12_read 0 = .ok (.aload_n 0, 1) := by decide +kernel
theorem dX12_read_1 : decode cX12_read 1 = .ok (.aload_n 0, 1) := by decide +kernel
theorem dX12_read_2 : decode cX12_read 2 = .ok (.getfield 178, 3) := by decide +kernel
theorem dX12_read_5 : decode cX12_read 5 = .ok (.putfield 184, 3) := by decide +kernel
theorem dX12_read_8 : decode cX12_read 8 = .ok (.iconst 0, 1) := by decide +kernel
theorem dX12_read_9 : decode cX12_read 9 = .ok (.istore_n 1, 1) := by decide +kernel
theorem dX12_read_10 : decode cX12_read 10 = .ok (.iload_n 1, 1) := by decide +kernel
theorem dX12_read_11 : decode cX12_read 11 = .ok (.aload_n 0, 1) := by decide +kernel
theorem dX12_read_12 : decode cX12_read 12 = .ok (.getfield 184, 3) := by decide +kernel
theorem dX12_read_15 : decode cX12_read 15 = .ok (.if_icmp .ge 21, 3) := by decide +kernel
theorem dX12_read_18 : decode cX12_read 18 = .ok (.aload_n 0, 1) := by decide +kernel
theorem dX12_read_19 : decode cX12_read 19 = .ok (.getfield 17, 3) := by decide +kernel
theorem dX12_read_22 : decode cX12_read 22 = .ok (.iload_n 1, 1) := by decide +kernel
theorem dX12_read_23 : decode cX12_read 23 = .ok (.aload_n 0, 1) := by decide +kernel
theorem dX12_read_24 : decode cX12_read 24 = .ok (.getfield 13, 3) := by decide +kernel
theorem dX12_read_27 : decode cX12_read 27 = .ok (.iload_n 1, 1) := by decide +kernel
theorem dX12_read_28 : decode cX12_read 28 = .ok (.baload, 1) := by decide +kernel
theorem dX12_read_29 : decode cX12_read 29 = .ok (.bastore, 1) := by decide +kernel
theorem dX12_read_30 : decode cX12_read 30 = .ok (.iinc 1 1, 3) := by decide +kernel
theorem dX12_read_33 : decode cX12_read 33 = .ok (.goto (-23), 3) := by decide +kernel
theorem dX12_read_36 : decode cX12_read 36 = .ok (.aload_n 0, 1) := by decide +kernel
theorem dX12_read_37 : decode cX12_read 37 = .ok (.iconst 0, 1) := by decide +kernel
theorem dX12_read_38 : decode cX12_read 38 = .ok (.putfield 178, 3) := by decide +kernel
theorem dX12_read_41 : decode cX12_read 41 = .ok (.aload_n 0, 1) := by decide +kernel
theorem dX12_read_42 : decode cX12_read 42 = .ok (.invokevirtual 239, 3) := by decide +kernel
theorem dX12_read_45 : decode cX12_read 45 = .ok (.aload_n 0, 1) := by decide +kernel
theorem dX12_read_46 : decode cX12_read 46 = .ok (.iconst 0, 1) := by decide +kernel
theorem dX12_read_47 : decode cX12_read 47 = .ok (.putfield 218, 3) := by decide +kernel
theorem dX12_read_50 : decode cX12_read 50 = .ok (.aload_n 0, 1) := by decide +kernel
theorem dX12_read_51 : decode cX12_read 51 = .ok (.iconst 0, 1) := by decide +kernel
theorem dX12_read_52 : decode cX12_read 52 = .ok (.putfield 242, 3) := by decide +kernel
theorem dX12_read_55 : decode cX12_read 55 = .ok (.aload_n 0, 1) := by decide +kernel
theorem dX12_read_56 : decode cX12_read 56 = .ok (.iconst 0, 1) := by decide +kernel
theorem dX12_read_57 : decode cX12_read 57 = .ok (.putfield 215, 3) := by decide +kernel
theorem dX12_read_60 : decode cX12_read 60 = .ok (.aload_n 0, 1) := by decide +kernel
theorem dX12_read_61 : decode cX12_read 61 = .ok (.iconst 0, 1) := by decide +kernel
theorem dX12_read_62 : decode cX12_read 62 = .ok (.putfield 224, 3) := by decide +kernel
theorem dX12_read_65 : decode cX12_read 65 = .ok (.aload_n 0, 1) := by decide +kernel
theorem dX12_read_66 : decode cX12_read 66 = .ok (.iconst 1, 1) := by decide +kernel
theorem dX12_read_67 : decode cX12_read 67 = .ok (.aload_n 0, 1) := by decide +kernel
theorem dX12_read_68 : decode cX12_read 68 = .ok (.getfield 245, 3) := by decide +kernel
theorem dX12_read_71 : decode cX12_read 71 = .ok (.isub, 1) := by decide +kernel
theorem dX12_read_72 : decode cX12_read 72 = .ok (.putfield 248, 3) := by decide +kernel
theorem dX12_read_75 : decode cX12_read 75 = .ok (.aload_n 0, 1) := by decide +kernel
theorem dX12_read_76 : decode cX12_read 76 = .ok (.aload_n 0, 1) := by decide +kernel
theorem dX12_read_77 : decode cX12_read 77 = .ok (.getfield 248, 3) := by decide +kernel
theorem dX12_read_80 : decode cX12_read 80 = .ok (.invokevirtual 164, 3) := by decide +kernel
theorem dX12_read_83 : decode cX12_read 83 = .ok (.aload_n 0, 1) := by decide +kernel
theorem dX12_read_84 : decode cX12_read 84 = .ok (.sipush 130, 3) := by decide +kernel
theorem dX12_read_87 : decode cX12_read 87 = .ok (.aload_n 0, 1) := by decide +kernel
theorem dX12_read_88 : decode cX12_read 88 = .ok (.getfield 248, 3) := by decide +kernel
theorem dX12_read_91 : decode cX12_read 91 = .ok (.imul, 1) := by decide +kernel
theorem dX12_read_92 : decode cX12_read 92 = .ok (.putfield 251, 3) := by decide +kernel
theorem dX12_read_95 : decode cX12_read 95 = .ok (.aload_n 0, 1) := by decide +kernel
theorem dX12_read_96 : decode cX12_read 96 = .ok (.sipush 420, 3) := by decide +kernel
theorem dX12_read_99 : decode cX12_read 99 = .ok (.aload_n 0, 1) := by decide +kernel
theorem dX12_read_100 : decode cX12_read 100 = .ok (.getfield 248, 3) := by decide +kernel
theorem dX12_read_103 : decode cX12_read 103 = .ok (.imul, 1) := by decide +kernel
theorem dX12_read_104 : decode cX12_read 104 = .ok (.putfield 254, 3) := by decide +kernel
theorem dX12_read_107 : decode cX12_read 107 = .ok (.aload_n 0, 1) := by decide +kernel
theorem dX12_read_108 : decode cX12_read 108 = .ok (.getfield 215, 3) := by decide +kernel
theorem dX12_read_111 : decode cX12_read 111 = .ok (.ifCond .ne 18, 3) := by decide +kernel
theorem dX12_read_114 : decode cX12_read 114 = .ok (.aload_n 0, 1) := by decide +kernel
theorem dX12_read_115 : decode cX12_read 115 = .ok (.iconst 0, 1) := by decide +kernel
theorem dX12_read_116 : decode cX12_read 116 = .ok (.invokevirtual 233, 3) := by decide +kernel
theorem dX12_read_119 : decode cX12_read 119 = .ok (.ifCond .ne 10, 3) := by decide +kernel
theorem dX12_read_122 : decode cX12_read 122 = .ok (.aload_n 0, 1) := by decide +kernel
theorem dX12_read_123 : decode cX12_read 123 = .ok (.invokevirtual 257, 3) := by decide +kernel
theorem dX12_read_126 : decode cX12_read 126 = .ok (.goto (-19), 3) := by decide +kernel
theorem dX12_read_129 : decode cX12_read 129 = .ok (.aload_n 0, 1) := by decide +kernel
theorem dX12_read_130 : decode cX12_read 130 = .ok (.aload_n 0, 1) := by decide +kernel
theorem dX12_read_131 : decode cX12_read 131 = .ok (.getfield 215, 3) := by decide +kernel
theorem dX12_read_134 : decode cX12_read 134 = .ok (.ifCond .le 10, 3) := by decide +kernel
theorem dX12_read_137 : decode cX12_read 137 = .ok (.aload_n 0, 1) := by decide +kernel
theorem dX12_read_138 : decode cX12_read 138 = .ok (.getfield 221, 3) := by decide +kernel
theorem dX12_read_141 : decode cX12_read 141 = .ok (.goto 18, 3) := by decide +kernel
theorem dX12_read_144 : decode cX12_read 144 = .ok (.aload_n 0, 1) := by decide +kernel
theorem dX12_read_145 : decode cX12_read 145 = .ok (.getfield 224, 3) := by decide +kernel
theorem dX12_read_148 : decode cX12_read 148 = .ok (.ifCond .le 10, 3) := by decide +kernel
theorem dX12_read_151 : decode cX12_read 151 = .ok (.aload_n 0, 1) := by decide +kernel
theorem dX12_read_152 : decode cX12_read 152 = .ok (.getfield 227, 3) := by decide +kernel
theorem dX12_read_155 : decode cX12_read 155 = .ok (.goto 4, 3) := by decide +kernel
theorem dX12_read_158 : decode cX12_read 158 = .ok (.iconst (-1), 1) := by decide +kernel
theorem dX12_read_159 : decode cX12_read 159 = .ok (.putfield 37, 3) := by decide +kernel
theorem dX12_read_162 : decode cX12_read 162 = .ok (.aload_n 0, 1) := by decide +kernel
theorem dX12_read_163 : decode cX12_read 163 = .ok (.getfield 215, 3) := by decide +kernel
theorem dX12_read_166 : decode cX12_read 166 = .ok (.ifCond .le 8, 3) := by decide +kernel
theorem dX12_read_169 : decode cX12_read 169 = .ok (.aload_n 0, 1) := by decide +kernel
theorem dX12_read_170 : decode cX12_read 170 = .ok (.getfield 215, 3) := by decide +kernel
theorem dX12_read_173 : decode cX12_read 173 = .ok (.ireturn, 1) := by decide +kernel
theorem dX12_read_174 : decode cX12_read 174 = .ok (.aload_n 0, 1) := by decide +kernel
theorem dX12_read_175 : decode cX12_read 175 = .ok (.getfield 224, 3) := by decide +kernel
theorem dX12_read_178 : decode cX12_read 178 = .ok (.ifCond .le 8, 3) := by decide +kernel
theorem dX12_read_181 : decode cX12_read 181 = .ok (.aload_n 0, 1) := by decide +kernel
theorem dX12_read_182 : decode cX12_read 182 = .ok (.getfield 224, 3) := by decide +kernel
theorem dX12_read_185 : decode cX12_read 185 = .ok (.ireturn, 1) := by decide +kernel
theorem dX12_read_186 : decode cX12_read 186 = .ok (.aload_n 0, 1) := by decide +kernel
theorem dX12_read_187 : decode cX12_read 187 = .ok (.aload_n 0, 1) := by decide +kernel
theorem dX12_read_188 : decode cX12_read 188 = .ok (.getfield 248, 3) := by decide +kernel
theorem dX12_read_191 : decode cX12_read 191 = .ok (.putfield 245, 3) := by decide +kernel
theorem dX12_read_194 : decode cX12_read 194 = .ok (.aload_n 0, 1) := by decide +kernel
theorem dX12_read_195 : decode cX12_read 195 = .ok (.invokevirtual 172, 3) := by decide +kernel
theorem dX12_read_198 : decode cX12_read 198 = .ok (.aload_n 0, 1) := by decide +kernel
theorem dX12_read_199 : decode cX12_read 199 = .ok (.invokevirtual 175, 3) := by decide +kernel
theorem dX12_read_202 : decode cX12_read 202 = .ok (.aload_n 0, 1) := by decide +kernel
theorem dX12_read_203 : decode cX12_read 203 = .ok (.iconst 0, 1) := by decide +kernel
theorem dX12_read_204 : decode cX12_read 204 = .ok (.putfield 260, 3) := by decide +kernel
theorem dX12_read_207 : decode cX12_read 207 = .ok (.aload_n 0, 1) := by decide +kernel
theorem dX12_read_208 : decode cX12_read 208 = .ok (.iconst 0, 1) := by decide +kernel
theorem dX12_read_209 : decode cX12_read 209 = .ok (.putfield 263, 3) := by decide +kernel
theorem dX12_read_212 : decode cX12_read 212 = .ok (.iconst 0, 1) := by decide +kernel
theorem dX12_read_213 : decode cX12_read 213 = .ok (.istore_n 1, 1) := by decide +kernel
theorem dX12_read_214 : decode cX12_read 214 = .ok (.iload_n 1, 1) := by decide +kernel
theorem dX12_read_215 : decode cX12_read 215 = .ok (.iconst 3, 1) := by decide +kernel
theorem dX12_read_216 : decode cX12_read 216 = .ok (.if_icmp .ge 16, 3) := by decide +kernel
theorem dX12_read_219 : decode cX12_read 219 = .ok (.aload_n 0, 1) := by decide +kernel
theorem dX12_read_220 : decode cX12_read 220 = .ok (.getfield 158, 3) := by decide +kernel
theorem dX12_read_223 : decode cX12_read 223 = .ok (.iload_n 1, 1) := by decide +kernel
theorem dX12_read_224 : decode cX12_read 224 = .ok (.iconst 0, 1) := by decide +kernel
theorem dX12_read_225 : decode cX12_read 225 = .ok (.bastore, 1) := by decide +kernel
theorem dX12_read_226 : decode cX12_read 226 = .ok (.iinc 1 1, 3) := by decide +kernel
theorem dX12_read_229 : decode cX12_read 229 = .ok (.goto (-15), 3) := by decide +kernel
theorem dX12_read_232 : decode cX12_read 232 = .ok (.iconst 0, 1) := by decide +kernel
theorem dX12_read_233 : decode cX12_read 233 = .ok (.ireturn, 1) := by decide +kernel
theorem dX12_restore_0 : decode cX12_restore 0 = .ok (.iload_n 1, 1) := by decide +kernel
theorem dX12_restore_1 : decode cX12_restore 1 = .ok (.iconst 0, 1) := by decide +kernel
theorem dX12_restore_2 : decode cX12_restore 2 = .ok (.iconst 2, 1) := by decide +kernel
theorem dX12_restore_3 : decode cX12_restore 3 = .ok (.invokestatic 313, 3) := by decide +kernel
theorem dX12_restore_6 : decode cX12_restore 6 = .ok (.ifCond .eq 12, 3) := by decide +kernel
theorem dX12_restore_9 : decode cX12_restore 9 = .ok (.aload_n 0, 1) := by decide +kernel
theorem dX12_restore_10 : decode cX12_restore 10 = .ok (.getfield 158, 3) := by decide +kernel
theorem dX12_restore_13 : decode cX12_restore 13 = .ok (.iload_n 1, 1) := by decide +kernel
theorem dX12_restore_14 : decode cX12_restore 14 = .ok (.baload, 1) := by decide +kernel
theorem dX12_restore_15 : decode cX12_restore 15 = .ok (.ifCond .ne 5, 3) := by decide +kernel
theorem dX12_restore_18 : decode cX12_restore 18 = .ok (.iconst 0, 1) := by decide +kernel
theorem dX12_restore_19 : decode cX12_restore 19 = .ok (.ireturn, 1) := by decide +kernel
theorem dX12_restore_20 : decode cX12_restore 20 = .ok (.iconst 0, 1) := by decide +kernel
theorem dX12_restore_21 : decode cX12_restore 21 = .ok (.istore_n 2, 1) := by decide +kernel
theorem dX12_restore_22 : decode cX12_restore 22 = .ok (.iload_n 2, 1) := by decide +kernel
theorem dX12_restore_23 : decode cX12_restore 23 = .ok (.bipush 39, 2) := by decide +kernel
theorem dX12_restore_25 : decode cX12_restore 25 = .ok (.if_icmp .ge 26, 3) := by decide +kernel
theorem dX12_restore_28 : decode cX12_restore 28 = .ok (.aload_n 0, 1) := by decide +kernel
theorem dX12_restore_29 : decode cX12_restore 29 = .ok (.getfield 110, 3) := by decide +kernel
theorem dX12_restore_32 : decode cX12_restore 32 = .ok (.iload_n 2, 1) := by decide +kernel
theorem dX12_restore_33 : decode cX12_restore 33 = .ok (.aload_n 0, 1) := by decide +kernel
theorem dX12_restore_34 : decode cX12_restore 34 = .ok (.getfield 161, 3) := by decide +kernel
theorem dX12_restore_37 : decode cX12_restore 37 = .ok (.bipush 39, 2) := by decide +kernel
theorem dX12_restore_39 : decode cX12_restore 39 = .ok (.iload_n 1, 1) := by decide +kernel
theorem dX12_restore_40 : decode cX12_restore 40 = .ok (.imul, 1) := by decide +kernel
theorem dX12_restore_41 : decode cX12_restore 41 = .ok (.iload_n 2, 1) := by decide +kernel
theorem dX12_restore_42 : decode cX12_restore 42 = .ok (.iadd, 1) := by decide +kernel
theorem dX12_restore_43 : decode cX12_restore 43 = .ok (.iaload, 1) := by decide +kernel
theorem dX12_restore_44 : decode cX12_restore 44 = .ok (.iastore, 1) := by decide +kernel
theorem dX12_restore_45 : decode cX12_restore 45 = .ok (.iinc 2 1, 3) := by decide +kernel
theorem dX12_restore_48 : decode cX12_restore 48 = .ok (.goto (-26), 3) := by decide +kernel
theorem dX12_restore_51 : decode cX12_restore 51 = .ok (.aload_n 0, 1) := by decide +kernel
theorem dX12_restore_52 : decode cX12_restore 52 = .ok (.iconst 0, 1) := by decide +kernel
theorem dX12_restore_53 : decode cX12_restore 53 = .ok (.putfield 260, 3) := by decide +kernel
theorem dX12_restore_56 : decode cX12_restore 56 = .ok (.iconst 1, 1) := by decide +kernel
theorem dX12_restore_57 : decode cX12_restore 57 = .ok (.ireturn, 1) := by decide +kernel
theorem dX12_roofsBy_0 : decode cX12_roofsBy 0 = .ok (.iload_n 1, 1) := by decide +kernel
theorem dX12_roofsBy_1 : decode cX12_roofsBy 1 = .ok (.istore_n 2, 1) := by decide +kernel
theorem dX12_roofsBy_2 : decode cX12_roofsBy 2 = .ok (.aload_n 0, 1) := by decide +kernel
theorem dX12_roofsBy_3 : decode cX12_roofsBy 3 = .ok (.invokevirtual 309, 3) := by decide +kernel
theorem dX12_roofsBy_6 : decode cX12_roofsBy 6 = .ok (.iconst 1, 1) := by decide +kernel
theorem dX12_roofsBy_7 : decode cX12_roofsBy 7 = .ok (.isub, 1) := by decide +kernel
theorem dX12_roofsBy_8 : decode cX12_roofsBy 8 = .ok (.istore_n 3, 1) := by decide +kernel
theorem dX12_roofsBy_9 : decode cX12_roofsBy 9 = .ok (.iload_n 3, 1) := by decide +kernel
theorem dX12_roofsBy_10 : decode cX12_roofsBy 10 = .ok (.ifCond .lt 31, 3) := by decide +kernel
theorem dX12_roofsBy_13 : decode cX12_roofsBy 13 = .ok (.aload_n 0, 1) := by decide +kernel
theorem dX12_roofsBy_14 : decode cX12_roofsBy 14 = .ok (.getfield 137, 3) := by decide +kernel
theorem dX12_roofsBy_17 : decode cX12_roofsBy 17 = .ok (.iload_n 3, 1) := by decide +kernel
theorem dX12_roofsBy_18 : decode cX12_roofsBy 18 = .ok (.iload_n 2, 1) := by decide +kernel
theorem dX12_roofsBy_19 : decode cX12_roofsBy 19 = .ok (.bipush 6, 2) := by decide +kernel
theorem dX12_roofsBy_21 : decode cX12_roofsBy 21 = .ok (.irem, 1) := by decide +kernel
theorem dX12_roofsBy_22 : decode cX12_roofsBy 22 = .ok (.iastore, 1) := by decide +kernel
theorem dX12_roofsBy_23 : decode cX12_roofsBy 23 = .ok (.aload_n 0, 1) := by decide +kernel
theorem dX12_roofsBy_24 : decode cX12_roofsBy 24 = .ok (.getfield 143, 3) := by decide +kernel
theorem dX12_roofsBy_27 : decode cX12_roofsBy 27 = .ok (.iload_n 3, 1) := by decide +kernel
theorem dX12_roofsBy_28 : decode cX12_roofsBy 28 = .ok (.iconst 0, 1) := by decide +kernel
theorem dX12_roofsBy_29 : decode cX12_roofsBy 29 = .ok (.iastore, 1) := by decide +kernel
theorem dX12_roofsBy_30 : decode cX12_roofsBy 30 = .ok (.iload_n 2, 1) := by decide +kernel
theorem dX12_roofsBy_31 : decode cX12_roofsBy 31 = .ok (.bipush 6, 2) := by decide +kernel
theorem dX12_roofsBy_33 : decode cX12_roofsBy 33 = .ok (.idiv, 1) := by decide +kernel
theorem dX12_roofsBy_34 : decode cX12_roofsBy 34 = .ok (.istore_n 2, 1) := by decide +kernel
theorem dX12_roofsBy_35 : decode cX12_roofsBy 35 = .ok (.iinc 3 (-1), 3) := by decide +kernel
theorem dX12_roofsBy_38 : decode cX12_roofsBy 38 = .ok (.goto (-29), 3) := by decide +kernel
theorem dX12_roofsBy_41 : decode cX12_roofsBy 41 = .ok (.iconst 0, 1) := by decide +kernel
theorem dX12_roofsBy_42 : decode cX12_roofsBy 42 = .ok (.istore_n 3, 1) := by decide +kernel
theorem dX12_roofsBy_43 : decode cX12_roofsBy 43 = .ok (.iconst 0, 1) := by decide +kernel
theorem dX12_roofsBy_44 : decode cX12_roofsBy 44 = .ok (.istore 4, 2) := by decide +kernel
theorem dX12_roofsBy_46 : decode cX12_roofsBy 46 = .ok (.iload 4, 2) := by decide +kernel
theorem dX12_roofsBy_48 : decode cX12_roofsBy 48 = .ok (.aload_n 0, 1) := by decide +kernel
theorem dX12_roofsBy_49 : decode cX12_roofsBy 49 = .ok (.invokevirtual 309, 3) := by decide +kernel
theorem dX12_roofsBy_52 : decode cX12_roofsBy 52 = .ok (.if_icmp .ge 74, 3) := by decide +kernel
theorem dX12_roofsBy_55 : decode cX12_roofsBy 55 = .ok (.aload_n 0, 1) := by decide +kernel
theorem dX12_roofsBy_56 : decode cX12_roofsBy 56 = .ok (.getfield 137, 3) := by decide +kernel
theorem dX12_roofsBy_59 : decode cX12_roofsBy 59 = .ok (.iload 4, 2) := by decide +kernel
theorem dX12_roofsBy_61 : decode cX12_roofsBy 61 = .ok (.iaload, 1) := by decide +kernel
theorem dX12_roofsBy_62 : decode cX12_roofsBy 62 = .ok (.istore 5, 2) := by decide +kernel
theorem dX12_roofsBy_64 : decode cX12_roofsBy 64 = .ok (.iload 5, 2) := by decide +kernel
theorem dX12_roofsBy_66 : decode cX12_roofsBy 66 = .ok (.iload_n 3, 1) := by decide +kernel
theorem dX12_roofsBy_67 : decode cX12_roofsBy 67 = .ok (.if_icmp .le 6, 3) := by decide +kernel
theorem dX12_roofsBy_70 : decode cX12_roofsBy 70 = .ok (.bipush 7, 2) := by decide +kernel
theorem dX12_roofsBy_72 : decode cX12_roofsBy 72 = .ok (.ireturn, 1) := by decide +kernel
theorem dX12_roofsBy_73 : decode cX12_roofsBy 73 = .ok (.iload 5, 2) := by decide +kernel
theorem dX12_roofsBy_75 : decode cX12_roofsBy 75 = .ok (.iload_n 3, 1) := by decide +kernel
theorem dX12_roofsBy_76 : decode cX12_roofsBy 76 = .ok (.if_icmp .ne 6, 3) := by decide +kernel
theorem dX12_roofsBy_79 : decode cX12_roofsBy 79 = .ok (.iinc 3 1, 3) := by decide +kernel
theorem dX12_roofsBy_82 : decode cX12_roofsBy 82 = .ok (.aload_n 0, 1) := by decide +kernel
theorem dX12_roofsBy_83 : decode cX12_roofsBy 83 = .ok (.getfield 143, 3) := by decide +kernel
theorem dX12_roofsBy_86 : decode cX12_roofsBy 86 = .ok (.iload 5, 2) := by decide +kernel
theorem dX12_roofsBy_88 : decode cX12_roofsBy 88 = .ok (.dup2, 1) := by decide +kernel
theorem dX12_roofsBy_89 : decode cX12_roofsBy 89 = .ok (.iaload, 1) := by decide +kernel
theorem dX12_roofsBy_90 : decode cX12_roofsBy 90 = .ok (.aload_n 0, 1) := by decide +kernel
theorem dX12_roofsBy_91 : decode cX12_roofsBy 91 = .ok (.iload 4, 2) := by decide +kernel
theorem dX12_roofsBy_93 : decode cX12_roofsBy 93 = .ok (.invokevirtual 336, 3) := by decide +kernel
theorem dX12_roofsBy_96 : decode cX12_roofsBy 96 = .ok (.iadd, 1) := by decide +kernel
theorem dX12_roofsBy_97 : decode cX12_roofsBy 97 = .ok (.iastore, 1) := by decide +kernel
theorem dX12_roofsBy_98 : decode cX12_roofsBy 98 = .ok (.aload_n 0, 1) := by decide +kernel
theorem dX12_roofsBy_99 : decode cX12_roofsBy 99 = .ok (.getfield 143, 3) := by decide +kernel
theorem dX12_roofsBy_102 : decode cX12_roofsBy 102 = .ok (.iload 5, 2) := by decide +kernel
theorem dX12_roofsBy_104 : decode cX12_roofsBy 104 = .ok (.iaload, 1) := by decide +kernel
theorem dX12_roofsBy_105 : decode cX12_roofsBy 105 = .ok (.aload_n 0, 1) := by decide +kernel
theorem dX12_roofsBy_106 : decode cX12_roofsBy 106 = .ok (.getfield 64, 3) := by decide +kernel
theorem dX12_roofsBy_109 : decode cX12_roofsBy 109 = .ok (.aload_n 0, 1) := by decide +kernel
theorem dX12_roofsBy_110 : decode cX12_roofsBy 110 = .ok (.getfield 245, 3) := by decide +kernel
theorem dX12_roofsBy_113 : decode cX12_roofsBy 113 = .ok (.iaload, 1) := by decide +kernel
theorem dX12_roofsBy_114 : decode cX12_roofsBy 114 = .ok (.if_icmp .le 6, 3) := by decide +kernel
theorem dX12_roofsBy_117 : decode cX12_roofsBy 117 = .ok (.bipush 7, 2) := by decide +kernel
theorem dX12_roofsBy_119 : decode cX12_roofsBy 119 = .ok (.ireturn, 1) := by decide +kernel
theorem dX12_roofsBy_120 : decode cX12_roofsBy 120 = .ok (.iinc 4 1, 3) := by decide +kernel
theorem dX12_roofsBy_123 : decode cX12_roofsBy 123 = .ok (.goto (-77), 3) := by decide +kernel
theorem dX12_roofsBy_126 : decode cX12_roofsBy 126 = .ok (.iload_n 3, 1) := by decide +kernel
theorem dX12_roofsBy_127 : decode cX12_roofsBy 127 = .ok (.ireturn, 1) := by decide +kernel
theorem dX12_roofs_0 : decode cX12_roofs 0 = .ok (.iload_n 1, 1) := by decide +kernel
theorem dX12_roofs_1 : decode cX12_roofs 1 = .ok (.iconst (-1), 1) := by decide +kernel
theorem dX12_roofs_2 : decode cX12_roofs 2 = .ok (.if_icmp .eq 13, 3) := by decide +kernel
theorem dX12_roofs_5 : decode cX12_roofs 5 = .ok (.aload_n 0, 1) := by decide +kernel
theorem dX12_roofs_6 : decode cX12_roofs 6 = .ok (.iload_n 1, 1) := by decide +kernel
theorem dX12_roofs_7 : decode cX12_roofs 7 = .ok (.invokevirtual 371, 3) := by decide +kernel
theorem dX12_roofs_10 : decode cX12_roofs 10 = .ok (.ifCond .ne 5, 3) := by decide +kernel
theorem dX12_roofs_13 : decode cX12_roofs 13 = .ok (.iconst (-1), 1) := by decide +kernel
theorem dX12_roofs_14 : decode cX12_roofs 14 = .ok (.ireturn, 1) := by decide +kernel
theorem dX12_roofs_15 : decode cX12_roofs 15 = .ok (.iconst 1, 1) := by decide +kernel
theorem dX12_roofs_16 : decode cX12_roofs 16 = .ok (.istore_n 2, 1) := by decide +kernel
theorem dX12_roofs_17 : decode cX12_roofs 17 = .ok (.iconst 0, 1) := by decide +kernel
theorem dX12_roofs_18 : decode cX12_roofs 18 = .ok (.istore_n 3, 1) := by decide +kernel
theorem dX12_roofs_19 : decode cX12_roofs 19 = .ok (.iload_n 3, 1) := by decide +kernel
theorem dX12_roofs_20 : decode cX12_roofs 20 = .ok (.aload_n 0, 1) := by decide +kernel
theorem dX12_roofs_21 : decode cX12_roofs 21 = .ok (.invokevirtual 309, 3) := by decide +kernel
theorem dX12_roofs_24 : decode cX12_roofs 24 = .ok (.if_icmp .ge 14, 3) := by decide +kernel
theorem dX12_roofs_27 : decode cX12_roofs 27 = .ok (.iload_n 2, 1) := by decide +kernel
theorem dX12_roofs_28 : decode cX12_roofs 28 = .ok (.bipush 6, 2) := by decide +kernel
theorem dX12_roofs_30 : decode cX12_roofs 30 = .ok (.imul, 1) := by decide +kernel
theorem dX12_roofs_31 : decode cX12_roofs 31 = .ok (.istore_n 2, 1) := by decide +kernel
theorem dX12_roofs_32 : decode cX12_roofs 32 = .ok (.iinc 3 1, 3) := by decide +kernel
theorem dX12_roofs_35 : decode cX12_roofs 35 = .ok (.goto (-16), 3) := by decide +kernel
theorem dX12_roofs_38 : decode cX12_roofs 38 = .ok (.bipush 7, 2) := by decide +kernel
theorem dX12_roofs_40 : decode cX12_roofs 40 = .ok (.istore_n 3, 1) := by decide +kernel
theorem dX12_roofs_41 : decode cX12_roofs 41 = .ok (.iconst 0, 1) := by decide +kernel
theorem dX12_roofs_42 : decode cX12_roofs 42 = .ok (.istore 4, 2) := by decide +kernel
theorem dX12_roofs_44 : decode cX12_roofs 44 = .ok (.iload 4, 2) := by decide +kernel
theorem dX12_roofs_46 : decode cX12_roofs 46 = .ok (.iload_n 2, 1) := by decide +kernel
theorem dX12_roofs_47 : decode cX12_roofs 47 = .ok (.if_icmp .ge 61, 3) := by decide +kernel
theorem dX12_roofs_50 : decode cX12_roofs 50 = .ok (.aload_n 0, 1) := by decide +kernel
theorem dX12_roofs_51 : decode cX12_roofs 51 = .ok (.iload 4, 2) := by decide +kernel
theorem dX12_roofs_53 : decode cX12_roofs 53 = .ok (.invokevirtual 450, 3) := by decide +kernel
theorem dX12_roofs_56 : decode cX12_roofs 56 = .ok (.istore 5, 2) := by decide +kernel
theorem dX12_roofs_58 : decode cX12_roofs 58 = .ok (.iload 5, 2) := by decide +kernel
theorem dX12_roofs_60 : decode cX12_roofs 60 = .ok (.iload_n 3, 1) := by decide +kernel
theorem dX12_roofs_61 : decode cX12_roofs 61 = .ok (.if_icmp .lt 6, 3) := by decide +kernel
theorem dX12_roofs_64 : decode cX12_roofs 64 = .ok (.goto 38, 3) := by decide +kernel
theorem dX12_roofs_67 : decode cX12_roofs 67 = .ok (.iload 5, 2) := by decide +kernel
theorem dX12_roofs_69 : decode cX12_roofs 69 = .ok (.istore_n 3, 1) := by decide +kernel
theorem dX12_roofs_70 : decode cX12_roofs 70 = .ok (.iconst 0, 1) := by decide +kernel
theorem dX12_roofs_71 : decode cX12_roofs 71 = .ok (.istore 6, 2) := by decide +kernel
theorem dX12_roofs_73 : decode cX12_roofs 73 = .ok (.iload 6, 2) := by decide +kernel
theorem dX12_roofs_75 : decode cX12_roofs 75 = .ok (.aload_n 0, 1) := by decide +kernel
theorem dX12_roofs_76 : decode cX12_roofs 76 = .ok (.invokevirtual 309, 3) := by decide +kernel
theorem dX12_roofs_79 : decode cX12_roofs 79 = .ok (.if_icmp .ge 23, 3) := by decide +kernel
theorem dX12_roofs_82 : decode cX12_roofs 82 = .ok (.aload_n 0, 1) := by decide +kernel
theorem dX12_roofs_83 : decode cX12_roofs 83 = .ok (.getfield 140, 3) := by decide +kernel
theorem dX12_roofs_86 : decode cX12_roofs 86 = .ok (.iload 6, 2) := by decide +kernel
theorem dX12_roofs_88 : decode cX12_roofs 88 = .ok (.aload_n 0, 1) := by decide +kernel
theorem dX12_roofs_89 : decode cX12_roofs 89 = .ok (.getfield 137, 3) := by decide +kernel
theorem dX12_roofs_92 : decode cX12_roofs 92 = .ok (.iload 6, 2) := by decide +kernel
theorem dX12_roofs_94 : decode cX12_roofs 94 = .ok (.iaload, 1) := by decide +kernel
theorem dX12_roofs_95 : decode cX12_roofs 95 = .ok (.iastore, 1) := by decide +kernel
theorem dX12_roofs_96 : decode cX12_roofs 96 = .ok (.iinc 6 1, 3) := by decide +kernel
theorem dX12_roofs_99 : decode cX12_roofs 99 = .ok (.goto (-26), 3) := by decide +kernel
theorem dX12_roofs_102 : decode cX12_roofs 102 = .ok (.iinc 4 1, 3) := by decide +kernel
theorem dX12_roofs_105 : decode cX12_roofs 105 = .ok (.goto (-61), 3) := by decide +kernel
theorem dX12_roofs_108 : decode cX12_roofs 108 = .ok (.iload_n 3, 1) := by decide +kernel
theorem dX12_roofs_109 : decode cX12_roofs 109 = .ok (.bipush 7, 2) := by decide +kernel
theorem dX12_roofs_111 : decode cX12_roofs 111 = .ok (.if_icmp .ne 6, 3) := by decide +kernel
theorem dX12_roofs_114 : decode cX12_roofs 114 = .ok (.bipush (-2), 2) := by decide +kernel
theorem dX12_roofs_116 : decode cX12_roofs 116 = .ok (.ireturn, 1) := by decide +kernel
theorem dX12_roofs_117 : decode cX12_roofs 117 = .ok (.iload_n 1, 1) := by decide +kernel
theorem dX12_roofs_118 : decode cX12_roofs 118 = .ok (.iconst (-1), 1) := by decide +kernel
theorem dX12_roofs_119 : decode cX12_roofs 119 = .ok (.if_icmp .ne 7, 3) := by decide +kernel
theorem dX12_roofs_122 : decode cX12_roofs 122 = .ok (.iload_n 3, 1) := by decide +kernel
theorem dX12_roofs_123 : decode cX12_roofs 123 = .ok (.goto 9, 3) := by decide +kernel
theorem dX12_roofs_126 : decode cX12_roofs 126 = .ok (.aload_n 0, 1) := by decide +kernel
theorem dX12_roofs_127 : decode cX12_roofs 127 = .ok (.getfield 140, 3) := by decide +kernel
theorem dX12_roofs_130 : decode cX12_roofs 130 = .ok (.iload_n 1, 1) := by decide +kernel
theorem dX12_roofs_131 : decode cX12_roofs 131 = .ok (.iaload, 1) := by decide +kernel
theorem dX12_roofs_132 : decode cX12_roofs 132 = .ok (.ireturn, 1) := by decide +kernel
theorem dX12_round_0 : decode cX12_round 0 = .ok (.aload_n 0, 1) := by decide +kernel
theorem dX12_round_1 : decode cX12_round 1 = .ok (.iload_n 1, 1) := by decide +kernel
theorem dX12_round_2 : decode cX12_round 2 = .ok (.invokevirtual 371, 3) := by decide +kernel
theorem dX12_round_5 : decode cX12_round 5 = .ok (.ifCond .ne 5, 3) := by decide +kernel
theorem dX12_round_8 : decode cX12_round 8 = .ok (.iconst (-1), 1) := by decide +kernel
theorem dX12_round_9 : decode cX12_round 9 = .ok (.ireturn, 1) := by decide +kernel
theorem dX12_round_10 : decode cX12_round 10 = .ok (.aload_n 0, 1) := by decide +kernel
theorem dX12_round_11 : decode cX12_round 11 = .ok (.invokevirtual 441, 3) := by decide +kernel
theorem dX12_round_14 : decode cX12_round 14 = .ok (.aload_n 0, 1) := by decide +kernel
theorem dX12_round_15 : decode cX12_round 15 = .ok (.getfield 134, 3) := by decide +kernel
theorem dX12_round_18 : decode cX12_round 18 = .ok (.bipush 6, 2) := by decide +kernel
theorem dX12_round_20 : decode cX12_round 20 = .ok (.iconst 1, 1) := by decide +kernel
theorem dX12_round_21 : decode cX12_round 21 = .ok (.iload_n 1, 1) := by decide +kernel
theorem dX12_round_22 : decode cX12_round 22 = .ok (.ishl, 1) := by decide +kernel
theorem dX12_round_23 : decode cX12_round 23 = .ok (.imul, 1) := by decide +kernel
theorem dX12_round_24 : decode cX12_round 24 = .ok (.iload_n 1, 1) := by decide +kernel
theorem dX12_round_25 : decode cX12_round 25 = .ok (.iadd, 1) := by decide +kernel
theorem dX12_round_26 : decode cX12_round 26 = .ok (.iaload, 1) := by decide +kernel
theorem dX12_round_27 : decode cX12_round 27 = .ok (.ireturn, 1) := by decide +kernel
theorem dX12_saves_0 : decode cX12_saves 0 = .ok (.aload_n 0, 1) := by decide +kernel
theorem dX12_saves_1 : decode cX12_saves 1 = .ok (.iload_n 1, 1) := by decide +kernel
theorem dX12_saves_2 : decode cX12_saves 2 = .ok (.invokevirtual 371, 3) := by decide +kernel
theorem dX12_saves_5 : decode cX12_saves 5 = .ok (.ifCond .eq 11, 3) := by decide +kernel
theorem dX12_saves_8 : decode cX12_saves 8 = .ok (.aload_n 0, 1) := by decide +kernel
theorem dX12_saves_9 : decode cX12_saves 9 = .ok (.iload_n 1, 1) := by decide +kernel
theorem dX12_saves_10 : decode cX12_saves 10 = .ok (.invokevirtual 428, 3) := by decide +kernel
theorem dX12_saves_13 : decode cX12_saves 13 = .ok (.goto 6, 3) := by decide +kernel
theorem dX12_saves_16 : decode cX12_saves 16 = .ok (.ldc_w 431, 3) := by decide +kernel
theorem dX12_saves_19 : decode cX12_saves 19 = .ok (.ireturn, 1) := by decide +kernel
theorem dX12_share_0 : decode cX12_share 0 = .ok (.iload_n 1, 1) := by decide +kernel
theorem dX12_share_1 : decode cX12_share 1 = .ok (.invokestatic 395, 3) := by decide +kernel
theorem dX12_share_4 : decode cX12_share 4 = .ok (.ifCond .eq 16, 3) := by decide +kernel
theorem dX12_share_7 : decode cX12_share 7 = .ok (.iload_n 2, 1) := by decide +kernel
theorem dX12_share_8 : decode cX12_share 8 = .ok (.iconst (-1), 1) := by decide +kernel
theorem dX12_share_9 : decode cX12_share 9 = .ok (.if_icmp .eq 13, 3) := by decide +kernel
theorem dX12_share_12 : decode cX12_share 12 = .ok (.aload_n 0, 1) := by decide +kernel
theorem dX12_share_13 : decode cX12_share 13 = .ok (.iload_n 2, 1) := by decide +kernel
theorem dX12_share_14 : decode cX12_share 14 = .ok (.invokevirtual 371, 3) := by decide +kernel
theorem dX12_share_17 : decode cX12_share 17 = .ok (.ifCond .ne 5, 3) := by decide +kernel
theorem dX12_share_20 : decode cX12_share 20 = .ok (.iconst (-1), 1) := by decide +kernel
theorem dX12_share_21 : decode cX12_share 21 = .ok (.ireturn, 1) := by decide +kernel
theorem dX12_share_22 : decode cX12_share 22 = .ok (.aload_n 0, 1) := by decide +kernel
theorem dX12_share_23 : decode cX12_share 23 = .ok (.invokevirtual 323, 3) := by decide +kernel
theorem dX12_share_26 : decode cX12_share 26 = .ok (.aload_n 0, 1) := by decide +kernel
theorem dX12_share_27 : decode cX12_share 27 = .ok (.iload_n 1, 1) := by decide +kernel
theorem dX12_share_28 : decode cX12_share 28 = .ok (.invokevirtual 398, 3) := by decide +kernel
theorem dX12_share_31 : decode cX12_share 31 = .ok (.iload_n 2, 1) := by decide +kernel
theorem dX12_share_32 : decode cX12_share 32 = .ok (.iconst (-1), 1) := by decide +kernel
theorem dX12_share_33 : decode cX12_share 33 = .ok (.if_icmp .ne 10, 3) := by decide +kernel
theorem dX12_share_36 : decode cX12_share 36 = .ok (.aload_n 0, 1) := by decide +kernel
theorem dX12_share_37 : decode cX12_share 37 = .ok (.getfield 128, 3) := by decide +kernel
theorem dX12_share_40 : decode cX12_share 40 = .ok (.iload_n 1, 1) := by decide +kernel
theorem dX12_share_41 : decode cX12_share 41 = .ok (.iaload, 1) := by decide +kernel
theorem dX12_share_42 : decode cX12_share 42 = .ok (.ireturn, 1) := by decide +kernel
theorem dX12_share_43 : decode cX12_share 43 = .ok (.iload_n 1, 1) := by decide +kernel
theorem dX12_share_44 : decode cX12_share 44 = .ok (.istore_n 3, 1) := by decide +kernel
theorem dX12_share_45 : decode cX12_share 45 = .ok (.iconst 0, 1) := by decide +kernel
theorem dX12_share_46 : decode cX12_share 46 = .ok (.istore 4, 2) := by decide +kernel
theorem dX12_share_48 : decode cX12_share 48 = .ok (.iload 4, 2) := by decide +kernel
theorem dX12_share_50 : decode cX12_share 50 = .ok (.iload_n 2, 1) := by decide +kernel
theorem dX12_share_51 : decode cX12_share 51 = .ok (.if_icmp .ge 19, 3) := by decide +kernel
theorem dX12_share_54 : decode cX12_share 54 = .ok (.iload_n 3, 1) := by decide +kernel
theorem dX12_share_55 : decode cX12_share 55 = .ok (.aload_n 0, 1) := by decide +kernel
theorem dX12_share_56 : decode cX12_share 56 = .ok (.iload 4, 2) := by decide +kernel
theorem dX12_share_58 : decode cX12_share 58 = .ok (.iload_n 3, 1) := by decide +kernel
theorem dX12_share_59 : decode cX12_share 59 = .ok (.invokevirtual 401, 3) := by decide +kernel
theorem dX12_share_62 : decode cX12_share 62 = .ok (.isub, 1) := by decide +kernel
theorem dX12_share_63 : decode cX12_share 63 = .ok (.istore_n 3, 1) := by decide +kernel
theorem dX12_share_64 : decode cX12_share 64 = .ok (.iinc 4 1, 3) := by decide +kernel
theorem dX12_share_67 : decode cX12_share 67 = .ok (.goto (-19), 3) := by decide +kernel
theorem dX12_share_70 : decode cX12_share 70 = .ok (.aload_n 0, 1) := by decide +kernel
theorem dX12_share_71 : decode cX12_share 71 = .ok (.iload_n 2, 1) := by decide +kernel
theorem dX12_share_72 : decode cX12_share 72 = .ok (.iload_n 3, 1) := by decide +kernel
theorem dX12_share_73 : decode cX12_share 73 = .ok (.invokevirtual 401, 3) := by decide +kernel
theorem dX12_share_76 : decode cX12_share 76 = .ok (.ireturn, 1) := by decide +kernel
theorem dX12_summers_0 : decode cX12_summers 0 = .ok (.iload_n 1, 1) := by decide +kernel
theorem dX12_summers_1 : decode cX12_summers 1 = .ok (.iconst 1, 1) := by decide +kernel
theorem dX12_summers_2 : decode cX12_summers 2 = .ok (.sipush 999, 3) := by decide +kernel
theorem dX12_summers_5 : decode cX12_summers 5 = .ok (.invokestatic 313, 3) := by decide +kernel
theorem dX12_summers_8 : decode cX12_summers 8 = .ok (.ifCond .ne 5, 3) := by decide +kernel
theorem dX12_summers_11 : decode cX12_summers 11 = .ok (.iconst (-1), 1) := by decide +kernel
theorem dX12_summers_12 : decode cX12_summers 12 = .ok (.ireturn, 1) := by decide +kernel
theorem dX12_summers_13 : decode cX12_summers 13 = .ok (.iconst 0, 1) := by decide +kernel
theorem dX12_summers_14 : decode cX12_summers 14 = .ok (.istore_n 2, 1) := by decide +kernel
theorem dX12_summers_15 : decode cX12_summers 15 = .ok (.iconst 0, 1) := by decide +kernel
theorem dX12_summers_16 : decode cX12_summers 16 = .ok (.istore_n 3, 1) := by decide +kernel
theorem dX12_summers_17 : decode cX12_summers 17 = .ok (.iload_n 3, 1) := by decide +kernel
theorem dX12_summers_18 : decode cX12_summers 18 = .ok (.aload_n 0, 1) := by decide +kernel
theorem dX12_summers_19 : decode cX12_summers 19 = .ok (.invokevirtual 309, 3) := by decide +kernel
theorem dX12_summers_22 : decode cX12_summers 22 = .ok (.if_icmp .ge 25, 3) := by decide +kernel
theorem dX12_summers_25 : decode cX12_summers 25 = .ok (.aload_n 0, 1) := by decide +kernel
theorem dX12_summers_26 : decode cX12_summers 26 = .ok (.getfield 110, 3) := by decide +kernel
theorem dX12_summers_29 : decode cX12_summers 29 = .ok (.bipush 12, 2) := by decide +kernel
theorem dX12_summers_31 : decode cX12_summers 31 = .ok (.iload_n 3, 1) := by decide +kernel
theorem dX12_summers_32 : decode cX12_summers 32 = .ok (.iadd, 1) := by decide +kernel
theorem dX12_summers_33 : decode cX12_summers 33 = .ok (.iaload, 1) := by decide +kernel
theorem dX12_summers_34 : decode cX12_summers 34 = .ok (.iload_n 1, 1) := by decide +kernel
theorem dX12_summers_35 : decode cX12_summers 35 = .ok (.if_icmp .lt 6, 3) := by decide +kernel
theorem dX12_summers_38 : decode cX12_summers 38 = .ok (.iinc 2 1, 3) := by decide +kernel
theorem dX12_summers_41 : decode cX12_summers 41 = .ok (.iinc 3 1, 3) := by decide +kernel
theorem dX12_summers_44 : decode cX12_summers 44 = .ok (.goto (-27), 3) := by decide +kernel
theorem dX12_summers_47 : decode cX12_summers 47 = .ok (.iload_n 2, 1) := by decide +kernel
theorem dX12_summers_48 : decode cX12_summers 48 = .ok (.ireturn, 1) := by decide +kernel
theorem dX12_tell_0 : decode cX12_tell 0 = .ok (.aload_n 0, 1) := by decide +kernel
theorem dX12_tell_1 : decode cX12_tell 1 = .ok (.getfield 263, 3) := by decide +kernel
theorem dX12_tell_4 : decode cX12_tell 4 = .ok (.bipush 20, 2) := by decide +kernel
theorem dX12_tell_6 : decode cX12_tell 6 = .ok (.if_icmp .eq 23, 3) := by decide +kernel
theorem dX12_tell_9 : decode cX12_tell 9 = .ok (.iload_n 1, 1) := by decide +kernel
theorem dX12_tell_10 : decode cX12_tell 10 = .ok (.iconst 0, 1) := by decide +kernel
theorem dX12_tell_11 : decode cX12_tell 11 = .ok (.iconst 3, 1) := by decide +kernel
theorem dX12_tell_12 : decode cX12_tell 12 = .ok (.invokestatic 313, 3) := by decide +kernel
theorem dX12_tell_15 : decode cX12_tell 15 = .ok (.ifCond .eq 14, 3) := by decide +kernel
theorem dX12_tell_18 : decode cX12_tell 18 = .ok (.iload_n 2, 1) := by decide +kernel
theorem dX12_tell_19 : decode cX12_tell 19 = .ok (.iconst 0, 1) := by decide +kernel
theorem dX12_tell_20 : decode cX12_tell 20 = .ok (.sipush 999, 3) := by decide +kernel
theorem dX12_tell_23 : decode cX12_tell 23 = .ok (.invokestatic 313, 3) := by decide +kernel
theorem dX12_tell_26 : decode cX12_tell 26 = .ok (.ifCond .ne 5, 3) := by decide +kernel
theorem dX12_tell_29 : decode cX12_tell 29 = .ok (.iconst (-1), 1) := by decide +kernel
theorem dX12_tell_30 : decode cX12_tell 30 = .ok (.ireturn, 1) := by decide +kernel
theorem dX12_tell_31 : decode cX12_tell 31 = .ok (.aload_n 0, 1) := by decide +kernel
theorem dX12_tell_32 : decode cX12_tell 32 = .ok (.getfield 149, 3) := by decide +kernel
theorem dX12_tell_35 : decode cX12_tell 35 = .ok (.aload_n 0, 1) := by decide +kernel
theorem dX12_tell_36 : decode cX12_tell 36 = .ok (.getfield 263, 3) := by decide +kernel
theorem dX12_tell_39 : decode cX12_tell 39 = .ok (.iload_n 1, 1) := by decide +kernel
theorem dX12_tell_40 : decode cX12_tell 40 = .ok (.iastore, 1) := by decide +kernel
theorem dX12_tell_41 : decode cX12_tell 41 = .ok (.aload_n 0, 1) := by decide +kernel
theorem dX12_tell_42 : decode cX12_tell 42 = .ok (.getfield 152, 3) := by decide +kernel
theorem dX12_tell_45 : decode cX12_tell 45 = .ok (.aload_n 0, 1) := by decide +kernel
theorem dX12_tell_46 : decode cX12_tell 46 = .ok (.getfield 263, 3) := by decide +kernel
theorem dX12_tell_49 : decode cX12_tell 49 = .ok (.iload_n 2, 1) := by decide +kernel
theorem dX12_tell_50 : decode cX12_tell 50 = .ok (.iastore, 1) := by decide +kernel
theorem dX12_tell_51 : decode cX12_tell 51 = .ok (.aload_n 0, 1) := by decide +kernel
theorem dX12_tell_52 : decode cX12_tell 52 = .ok (.getfield 155, 3) := by decide +kernel
theorem dX12_tell_55 : decode cX12_tell 55 = .ok (.aload_n 0, 1) := by decide +kernel
theorem dX12_tell_56 : decode cX12_tell 56 = .ok (.getfield 263, 3) := by decide +kernel
theorem dX12_tell_59 : decode cX12_tell 59 = .ok (.iload_n 3, 1) := by decide +kernel
theorem dX12_tell_60 : decode cX12_tell 60 = .ok (.bastore, 1) := by decide +kernel
theorem dX12_tell_61 : decode cX12_tell 61 = .ok (.aload_n 0, 1) := by decide +kernel
theorem dX12_tell_62 : decode cX12_tell 62 = .ok (.dup, 1) := by decide +kernel
theorem dX12_tell_63 : decode cX12_tell 63 = .ok (.getfield 263, 3) := by decide +kernel
theorem dX12_tell_66 : decode cX12_tell 66 = .ok (.iconst 1, 1) := by decide +kernel
theorem dX12_tell_67 : decode cX12_tell 67 = .ok (.iadd, 1) := by decide +kernel
theorem dX12_tell_68 : decode cX12_tell 68 = .ok (.putfield 263, 3) := by decide +kernel
theorem dX12_tell_71 : decode cX12_tell 71 = .ok (.aload_n 0, 1) := by decide +kernel
theorem dX12_tell_72 : decode cX12_tell 72 = .ok (.getfield 263, 3) := by decide +kernel
theorem dX12_tell_75 : decode cX12_tell 75 = .ok (.iconst 1, 1) := by decide +kernel
theorem dX12_tell_76 : decode cX12_tell 76 = .ok (.isub, 1) := by decide +kernel
theorem dX12_tell_77 : decode cX12_tell 77 = .ok (.ireturn, 1) := by decide +kernel
theorem dX12_then_0 : decode cX12_then 0 = .ok (.aload_n 0, 1) := by decide +kernel
theorem dX12_then_1 : decode cX12_then 1 = .ok (.iload_n 1, 1) := by decide +kernel
theorem dX12_then_2 : decode cX12_then 2 = .ok (.invokevirtual 371, 3) := by decide +kernel
theorem dX12_then_5 : decode cX12_then 5 = .ok (.ifCond .eq 19, 3) := by decide +kernel
theorem dX12_then_8 : decode cX12_then 8 = .ok (.iload_n 2, 1) := by decide +kernel
theorem dX12_then_9 : decode cX12_then 9 = .ok (.invokestatic 383, 3) := by decide +kernel
theorem dX12_then_12 : decode cX12_then 12 = .ok (.ifCond .eq 12, 3) := by decide +kernel
theorem dX12_then_15 : decode cX12_then 15 = .ok (.iload_n 3, 1) := by decide +kernel
theorem dX12_then_16 : decode cX12_then 16 = .ok (.iconst 0, 1) := by decide +kernel
theorem dX12_then_17 : decode cX12_then 17 = .ok (.iconst 2, 1) := by decide +kernel
theorem dX12_then_18 : decode cX12_then 18 = .ok (.invokestatic 313, 3) := by decide +kernel
theorem dX12_then_21 : decode cX12_then 21 = .ok (.ifCond .ne 5, 3) := by decide +kernel
theorem dX12_then_24 : decode cX12_then 24 = .ok (.iconst (-1), 1) := by decide +kernel
theorem dX12_then_25 : decode cX12_then 25 = .ok (.ireturn, 1) := by decide +kernel
theorem dX12_then_26 : decode cX12_then 26 = .ok (.aload_n 0, 1) := by decide +kernel
theorem dX12_then_27 : decode cX12_then 27 = .ok (.invokevirtual 323, 3) := by decide +kernel
theorem dX12_then_30 : decode cX12_then 30 = .ok (.aload_n 0, 1) := by decide +kernel
theorem dX12_then_31 : decode cX12_then 31 = .ok (.iload_n 2, 1) := by decide +kernel
theorem dX12_then_32 : decode cX12_then 32 = .ok (.invokevirtual 386, 3) := by decide +kernel
theorem dX12_then_35 : decode cX12_then 35 = .ok (.iload_n 3, 1) := by decide +kernel
theorem dX12_then_36 : decode cX12_then 36 = .ok (.ifCond .ne 15, 3) := by decide +kernel
theorem dX12_then_39 : decode cX12_then 39 = .ok (.aload_n 0, 1) := by decide +kernel
theorem dX12_then_40 : decode cX12_then 40 = .ok (.getfield 113, 3) := by decide +kernel
theorem dX12_then_43 : decode cX12_then 43 = .ok (.bipush 6, 2) := by decide +kernel
theorem dX12_then_45 : decode cX12_then 45 = .ok (.iload_n 1, 1) := by decide +kernel
theorem dX12_then_46 : decode cX12_then 46 = .ok (.iadd, 1) := by decide +kernel
theorem dX12_then_47 : decode cX12_then 47 = .ok (.iaload, 1) := by decide +kernel
theorem dX12_then_48 : decode cX12_then 48 = .ok (.goto 26, 3) := by decide +kernel
theorem dX12_then_51 : decode cX12_then 51 = .ok (.iload_n 3, 1) := by decide +kernel
theorem dX12_then_52 : decode cX12_then 52 = .ok (.iconst 1, 1) := by decide +kernel
theorem dX12_then_53 : decode cX12_then 53 = .ok (.if_icmp .ne 15, 3) := by decide +kernel
theorem dX12_then_56 : decode cX12_then 56 = .ok (.aload_n 0, 1) := by decide +kernel
theorem dX12_then_57 : decode cX12_then 57 = .ok (.getfield 113, 3) := by decide +kernel
theorem dX12_then_60 : decode cX12_then 60 = .ok (.bipush 12, 2) := by decide +kernel
theorem dX12_then_62 : decode cX12_then 62 = .ok (.iload_n 1, 1) := by decide +kernel
theorem dX12_then_63 : decode cX12_then 63 = .ok (.iadd, 1) := by decide +kernel
theorem dX12_then_64 : decode cX12_then 64 = .ok (.iaload, 1) := by decide +kernel
theorem dX12_then_65 : decode cX12_then 65 = .ok (.goto 9, 3) := by decide +kernel
theorem dX12_then_68 : decode cX12_then 68 = .ok (.aload_n 0, 1) := by decide +kernel
theorem dX12_then_69 : decode cX12_then 69 = .ok (.getfield 113, 3) := by decide +kernel
theorem dX12_then_72 : decode cX12_then 72 = .ok (.iload_n 1, 1) := by decide +kernel
theorem dX12_then_73 : decode cX12_then 73 = .ok (.iaload, 1) := by decide +kernel
theorem dX12_then_74 : decode cX12_then 74 = .ok (.ireturn, 1) := by decide +kernel
theorem dX12_twins_0 : decode cX12_twins 0 = .ok (.iload_n 1, 1) := by decide +kernel
theorem dX12_twins_1 : decode cX12_twins 1 = .ok (.iconst 0, 1) := by decide +kernel
theorem dX12_twins_2 : decode cX12_twins 2 = .ok (.iconst 1, 1) := by decide +kernel
theorem dX12_twins_3 : decode cX12_twins 3 = .ok (.invokestatic 313, 3) := by decide +kernel
theorem dX12_twins_6 : decode cX12_twins 6 = .ok (.ifCond .ne 5, 3) := by decide +kernel
theorem dX12_twins_9 : decode cX12_twins 9 = .ok (.iconst (-1), 1) := by decide +kernel
theorem dX12_twins_10 : decode cX12_twins 10 = .ok (.ireturn, 1) := by decide +kernel
theorem dX12_twins_11 : decode cX12_twins 11 = .ok (.bipush (-2), 2) := by decide +kernel
theorem dX12_twins_13 : decode cX12_twins 13 = .ok (.istore_n 2, 1) := by decide +kernel
theorem dX12_twins_14 : decode cX12_twins 14 = .ok (.bipush (-2), 2) := by decide +kernel
theorem dX12_twins_16 : decode cX12_twins 16 = .ok (.istore_n 3, 1) := by decide +kernel
theorem dX12_twins_17 : decode cX12_twins 17 = .ok (.iconst 0, 1) := by decide +kernel
theorem dX12_twins_18 : decode cX12_twins 18 = .ok (.istore 4, 2) := by decide +kernel
theorem dX12_twins_20 : decode cX12_twins 20 = .ok (.iload 4, 2) := by decide +kernel
theorem dX12_twins_22 : decode cX12_twins 22 = .ok (.aload_n 0, 1) := by decide +kernel
theorem dX12_twins_23 : decode cX12_twins 23 = .ok (.invokevirtual 309, 3) := by decide +kernel
theorem dX12_twins_26 : decode cX12_twins 26 = .ok (.if_icmp .ge 67, 3) := by decide +kernel
theorem dX12_twins_29 : decode cX12_twins 29 = .ok (.iload 4, 2) := by decide +kernel
theorem dX12_twins_31 : decode cX12_twins 31 = .ok (.iconst 1, 1) := by decide +kernel
theorem dX12_twins_32 : decode cX12_twins 32 = .ok (.iadd, 1) := by decide +kernel
theorem dX12_twins_33 : decode cX12_twins 33 = .ok (.istore 5, 2) := by decide +kernel
theorem dX12_twins_35 : decode cX12_twins 35 = .ok (.iload 5, 2) := by decide +kernel
theorem dX12_twins_37 : decode cX12_twins 37 = .ok (.aload_n 0, 1) := by decide +kernel
theorem dX12_twins_38 : decode cX12_twins 38 = .ok (.invokevirtual 309, 3) := by decide +kernel
theorem dX12_twins_41 : decode cX12_twins 41 = .ok (.if_icmp .ge 46, 3) := by decide +kernel
theorem dX12_twins_44 : decode cX12_twins 44 = .ok (.iload_n 2, 1) := by decide +kernel
theorem dX12_twins_45 : decode cX12_twins 45 = .ok (.ifCond .lt 18, 3) := by decide +kernel
theorem dX12_twins_48 : decode cX12_twins 48 = .ok (.aload_n 0, 1) := by decide +kernel
theorem dX12_twins_49 : decode cX12_twins 49 = .ok (.iload 4, 2) := by decide +kernel
theorem dX12_twins_51 : decode cX12_twins 51 = .ok (.iload 5, 2) := by decide +kernel
theorem dX12_twins_53 : decode cX12_twins 53 = .ok (.invokevirtual 447, 3) := by decide +kernel
theorem dX12_twins_56 : decode cX12_twins 56 = .ok (.iload_n 3, 1) := by decide +kernel
theorem dX12_twins_57 : decode cX12_twins 57 = .ok (.if_icmp .lt 6, 3) := by decide +kernel
theorem dX12_twins_60 : decode cX12_twins 60 = .ok (.goto 21, 3) := by decide +kernel
theorem dX12_twins_63 : decode cX12_twins 63 = .ok (.bipush 10, 2) := by decide +kernel
theorem dX12_twins_65 : decode cX12_twins 65 = .ok (.iload 4, 2) := by decide +kernel
theorem dX12_twins_67 : decode cX12_twins 67 = .ok (.imul, 1) := by decide +kernel
theorem dX12_twins_68 : decode cX12_twins 68 = .ok (.iload 5, 2) := by decide +kernel
theorem dX12_twins_70 : decode cX12_twins 70 = .ok (.iadd, 1) := by decide +kernel
theorem dX12_twins_71 : decode cX12_twins 71 = .ok (.istore_n 2, 1) := by decide +kernel
theorem dX12_twins_72 : decode cX12_twins 72 = .ok (.aload_n 0, 1) := by decide +kernel
theorem dX12_twins_73 : decode cX12_twins 73 = .ok (.iload 4, 2) := by decide +kernel
theorem dX12_twins_75 : decode cX12_twins 75 = .ok (.iload 5, 2) := by decide +kernel
theorem dX12_twins_77 : decode cX12_twins 77 = .ok (.invokevirtual 447, 3) := by decide +kernel
theorem dX12_twins_80 : decode cX12_twins 80 = .ok (.istore_n 3, 1) := by decide +kernel
theorem dX12_twins_81 : decode cX12_twins 81 = .ok (.iinc 5 1, 3) := by decide +kernel
theorem dX12_twins_84 : decode cX12_twins 84 = .ok (.goto (-49), 3) := by decide +kernel
theorem dX12_twins_87 : decode cX12_twins 87 = .ok (.iinc 4 1, 3) := by decide +kernel
theorem dX12_twins_90 : decode cX12_twins 90 = .ok (.goto (-70), 3) := by decide +kernel
theorem dX12_twins_93 : decode cX12_twins 93 = .ok (.iload_n 1, 1) := by decide +kernel
theorem dX12_twins_94 : decode cX12_twins 94 = .ok (.ifCond .ne 7, 3) := by decide +kernel
theorem dX12_twins_97 : decode cX12_twins 97 = .ok (.iload_n 2, 1) := by decide +kernel
theorem dX12_twins_98 : decode cX12_twins 98 = .ok (.goto 4, 3) := by decide +kernel
theorem dX12_twins_101 : decode cX12_twins 101 = .ok (.iload_n 3, 1) := by decide +kernel
theorem dX12_twins_102 : decode cX12_twins 102 = .ok (.ireturn, 1) := by decide +kernel
section WK13
variable {p : Program} {l : Launch} {e : Env} {s : State} {m : MethodId} {args : Array Value} {below : List Frame} {meth : Method} {c : Code} {ω : WW}

set_option maxHeartbeats 4000000 in
set_option maxRecDepth 100000 in
theorem wX12_tellOne_b79 (hW : FWM ω) (C : Cx ω p s m args c cX12_tellOne 2 RX12) (hr : meth.sig.returnType = none) (hk : meth.locks = false) {μo : Mem} {μ : Mem} {H : Heap} {locs : List Loc} {ls : Array Slot} (hH : Hd ω μ H) (hS : FS ω s H locs) (hl : lv_has ls 2 [(0, .ref (wB ω + 0))]) (h : fX12_tellOne_b79 μ = some μo) : W p l e (rmd 7) s m args below meth c H locs 0 0 (MQ below (QR ω none μo) args s 0 0 (wA ω)) (F0 m 79 ls []) := by
  have hx := C.1
  have hb := C.2.1
  unfold fX12_tellOne_b79 at h
  refine lv_aload_n hx hb dX12_tellOne_79 rfl (lv_at hl 0 rfl) ?_
  refine g_1200 C hH (jM_0 hW) dX12_tellOne_80 ?_
  refine lv_if_ne (tgt := 224) hx hb dX12_tellOne_83 (by decide) (fun hc => ?_) (fun hc => ?_)
  · have h := ite_f hc h
    exact h_vret C hr hk hH hS (by cases h; rfl) dX12_tellOne_224
  · have h := ite_t hc h
    refine lv_aload_n hx hb dX12_tellOne_86 rfl (lv_at hl 0 rfl) ?_
    obtain ⟨μ6, e5, h⟩ := b1_e h
    refine cVv (as := []) (rest := []) (c_X12_tellHouse hW e5) C hl.1 hH hS rfl (jM_0 hW) rfl wd_41 wd_1447 mw_X12_tellHouse wd_1445 rfl (rm_ok (by decide) (by decide)) (Nat.le_of_ble_eq_true rfl) ⟨Nat.zero_le _, Nat.zero_le _⟩ (by decide) dX12_tellOne_87 (fun H locs hH hS => ?_)
    refine lv_goto (tgt := 224) hx hb dX12_tellOne_90 (by decide) ?_
    exact h_vret C hr hk hH hS (by cases h; rfl) dX12_tellOne_224
set_option maxHeartbeats 4000000 in
set_option maxRecDepth 100000 in
theorem wX12_tellOne_b207 (hW : FWM ω) (C : Cx ω p s m args c cX12_tellOne 2 RX12) (hr : meth.sig.returnType = none) (hk : meth.locks = false) {μo : Mem} {x1 : Int32} {μ : Mem} {H : Heap} {locs : List Loc} {ls : Array Slot} (hH : Hd ω μ H) (hS : FS ω s H locs) (hl : lv_has ls 2 [(0, .ref (wB ω + 0)), (1, .int x1)]) (h : fX12_tellOne_b207 x1 μ = some μo) : W p l e (rmd 7) s m args below meth c H locs 0 0 (MQ below (QR ω none μo) args s 0 0 (wA ω)) (F0 m 207 ls []) := by
  have hx := C.1
  have hb := C.2.1
  unfold fX12_tellOne_b207 at h
  refine lv_aload_n hx hb dX12_tellOne_207 rfl (lv_at hl 0 rfl) ?_
  refine g_1200 C hH (jM_0 hW) dX12_tellOne_208 ?_
  refine lv_if_le (tgt := 215) hx hb dX12_tellOne_211 (by decide) (fun hc => ?_) (fun hc => ?_)
  · have h := ite_t hc h
    refine lv_aload_n hx hb dX12_tellOne_215 rfl (lv_at hl 0 rfl) ?_
    obtain ⟨μ44, e43, h⟩ := b1_e h
    refine cVv (as := []) (rest := []) (c_X12_goesOn hW e43) C hl.1 hH hS rfl (jM_0 hW) rfl wd_42 wd_1451 mw_X12_goesOn wd_1449 rfl (rm_ok (by decide) (by decide)) (Nat.le_of_ble_eq_true rfl) ⟨Nat.zero_le _, Nat.zero_le _⟩ (by decide) dX12_tellOne_216 (fun H locs hH hS => ?_)
    refine lv_aload_n hx hb dX12_tellOne_219 rfl (lv_at hl 0 rfl) ?_
    refine lv_iload_n hx hb dX12_tellOne_220 rfl (lv_at hl 1 rfl) ?_
    obtain ⟨μ46, e45, h⟩ := b1_e h
    refine cVv (as := [.int x1]) (rest := []) (c_X12_tellLaw hW e45) C hl.1 hH hS rfl (jM_0 hW) rfl wd_47 wd_1471 mw_X12_tellLaw wd_1469 rfl (rm_ok (by decide) (by decide)) (Nat.le_of_ble_eq_true rfl) ⟨Nat.zero_le _, Nat.zero_le _⟩ (by decide) dX12_tellOne_221 (fun H locs hH hS => ?_)
    exact h_vret C hr hk hH hS (by cases h; rfl) dX12_tellOne_224
  · have h := ite_f hc h
    exact h_vret C hr hk hH hS (by cases h; rfl) dX12_tellOne_214
set_option maxHeartbeats 4000000 in
set_option maxRecDepth 100000 in
theorem wX12_tellOne_b202 (hW : FWM ω) (C : Cx ω p s m args c cX12_tellOne 2 RX12) (hr : meth.sig.returnType = none) (hk : meth.locks = false) {μo : Mem} {x1 : Int32} {μ : Mem} {H : Heap} {locs : List Loc} {ls : Array Slot} (hH : Hd ω μ H) (hS : FS ω s H locs) (hl : lv_has ls 2 [(0, .ref (wB ω + 0)), (1, .int x1)]) (h : fX12_tellOne_b202 x1 μ = some μo) : W p l e (rmd 7) s m args below meth c H locs 0 0 (MQ below (QR ω none μo) args s 0 0 (wA ω)) (F0 m 202 ls []) := by
  have hx := C.1
  have hb := C.2.1
  unfold fX12_tellOne_b202 at h
  refine lv_aload_n hx hb dX12_tellOne_202 rfl (lv_at hl 0 rfl) ?_
  refine lv_iconst (v := 1) hx hb dX12_tellOne_203 (by decide) ?_
  obtain ⟨μ42, e41, h⟩ := b1_e h
  refine cVv (as := [.int 1]) (rest := []) (c_X12_fail hW e41) C hl.1 hH hS rfl (jM_0 hW) rfl wd_40 wd_1443 mw_X12_fail wd_1441 rfl (rm_ok (by decide) (by decide)) (Nat.le_of_ble_eq_true rfl) ⟨Nat.zero_le _, Nat.zero_le _⟩ (by decide) dX12_tellOne_204 (fun H locs hH hS => ?_)
  exact wX12_tellOne_b207 hW C hr hk hH hS hl h
set_option maxHeartbeats 4000000 in
set_option maxRecDepth 100000 in
theorem wX12_tellOne_e (hW : FWM ω) (C : Cx ω p s m args c cX12_tellOne 2 RX12) (hr : meth.sig.returnType = none) (hk : meth.locks = false) {μo : Mem} {μ : Mem} {H : Heap} {locs : List Loc} {ls : Array Slot} (hH : Hd ω μ H) (hS : FS ω s H locs) (hl : lv_has ls 2 [(0, .ref (wB ω + 0))]) (h : fX12_tellOne μ = some μo) : W p l e (rmd 7) s m args below meth c H locs 0 0 (MQ below (QR ω none μo) args s 0 0 (wA ω)) (F0 m 0 ls []) := by
  have hx := C.1
  have hb := C.2.1
  unfold fX12_tellOne at h
  refine lv_aload_n hx hb dX12_tellOne_0 rfl (lv_at hl 0 rfl) ?_
  refine g_1192 (i := 3) C hH (jM_0 hW) rfl dX12_tellOne_1 ?_
  refine lv_aload_n hx hb dX12_tellOne_4 rfl (lv_at hl 0 rfl) ?_
  refine g_1198 C hH (jM_0 hW) dX12_tellOne_5 ?_
  obtain ⟨b1, h⟩ := gd_e h
  refine h_iald C hH (jM_3 hW).1 (jM_3 hW).2.1 b1 dX12_tellOne_8 ?_
  obtain ⟨y2, e3, h⟩ := bd_e h
  refine h_topi e3 ?_
  by_cases b9 : y2 = 20
  · have h := ite_t b9 h
    refine lv_tableIn (tgt := 60) (off := 51) hx hb dX12_tellOne_9 (by rw [b9]; decide) (by rw [b9]; decide) (by rw [b9]; rfl) (by decide) ?_
    refine lv_aload_n hx hb dX12_tellOne_60 rfl (lv_at hl 0 rfl) ?_
    refine g_1208 (i := 9) C hH (jM_0 hW) rfl dX12_tellOne_61 ?_
    refine lv_aload_n hx hb dX12_tellOne_64 rfl (lv_at hl 0 rfl) ?_
    refine g_1206 C hH (jM_0 hW) dX12_tellOne_65 ?_
    obtain ⟨b4, h⟩ := gd_e h
    refine h_iald C hH (jM_9 hW).1 (jM_9 hW).2.1 b4 dX12_tellOne_68 ?_
    refine lv_bipush (v := 6) hx hb dX12_tellOne_69 (by decide) ?_
    refine lv_icmp_ne (tgt := 79) hx hb dX12_tellOne_71 (by decide) (fun hc => ?_) (fun hc => ?_)
    · have h := ite_f hc h
      exact wX12_tellOne_b79 hW C hr hk hH hS hl h
    · have h := ite_t hc h
      refine lv_aload_n hx hb dX12_tellOne_74 rfl (lv_at hl 0 rfl) ?_
      refine lv_iconst (v := 2) hx hb dX12_tellOne_75 (by decide) ?_
      obtain ⟨μ8, e7, h⟩ := b1_e h
      refine cVv (as := [.int 2]) (rest := []) (c_X12_fail hW e7) C hl.1 hH hS rfl (jM_0 hW) rfl wd_40 wd_1443 mw_X12_fail wd_1441 rfl (rm_ok (by decide) (by decide)) (Nat.le_of_ble_eq_true rfl) ⟨Nat.zero_le _, Nat.zero_le _⟩ (by decide) dX12_tellOne_76 (fun H locs hH hS => ?_)
      exact wX12_tellOne_b79 hW C hr hk hH hS hl h
  have h := ite_f b9 h
  by_cases b16 : y2 = 25
  · have h := ite_t b16 h
    refine lv_tableIn (tgt := 93) (off := 84) hx hb dX12_tellOne_9 (by rw [b16]; decide) (by rw [b16]; decide) (by rw [b16]; rfl) (by decide) ?_
    refine lv_aload_n hx hb dX12_tellOne_93 rfl (lv_at hl 0 rfl) ?_
    refine g_1214 (i := 15) C hH (jM_0 hW) rfl dX12_tellOne_94 ?_
    refine lv_aload_n hx hb dX12_tellOne_97 rfl (lv_at hl 0 rfl) ?_
    refine g_1206 C hH (jM_0 hW) dX12_tellOne_98 ?_
    refine lv_aload_n hx hb dX12_tellOne_101 rfl (lv_at hl 0 rfl) ?_
    refine lv_iconst (v := 0) hx hb dX12_tellOne_102 (by decide) ?_
    refine lv_sipush (v := 999) hx hb dX12_tellOne_103 (by decide) ?_
    obtain ⟨r12, μ11, e10, h⟩ := b2_e h
    refine cVi (as := [.int 0, .int 999]) (rest := [.int (μ.1 0 19), .ref (wB ω + 15)]) (c_X12_toldInt hW e10) C hl.1 hH hS rfl (jM_0 hW) rfl wd_46 wd_1467 mw_X12_toldInt wd_1465 rfl (rm_ok (by decide) (by decide)) (Nat.le_of_ble_eq_true rfl) ⟨Nat.zero_le _, Nat.zero_le _⟩ (by decide) dX12_tellOne_106 (fun H locs hH hS => ?_)
    obtain ⟨b13, h⟩ := gd_e h
    obtain ⟨μ14, e15, h⟩ := bd_e h
    refine h_iast C hH hS (jM_15 hW).1 (jM_15 hW).2.1 b13 dX12_tellOne_109 (fun H locs hH hS => ?_)
    have hH := Hd.to e15 hH
    refine lv_goto (tgt := 224) hx hb dX12_tellOne_110 (by decide) ?_
    exact h_vret C hr hk hH hS (by cases h; rfl) dX12_tellOne_224
  have h := ite_f b16 h
  by_cases b23 : y2 = 26
  · have h := ite_t b23 h
    refine lv_tableIn (tgt := 113) (off := 104) hx hb dX12_tellOne_9 (by rw [b23]; decide) (by rw [b23]; decide) (by rw [b23]; rfl) (by decide) ?_
    refine lv_aload_n hx hb dX12_tellOne_113 rfl (lv_at hl 0 rfl) ?_
    refine g_1215 (i := 16) C hH (jM_0 hW) rfl dX12_tellOne_114 ?_
    refine lv_aload_n hx hb dX12_tellOne_117 rfl (lv_at hl 0 rfl) ?_
    refine g_1206 C hH (jM_0 hW) dX12_tellOne_118 ?_
    refine lv_aload_n hx hb dX12_tellOne_121 rfl (lv_at hl 0 rfl) ?_
    refine lv_iconst (v := 1) hx hb dX12_tellOne_122 (by decide) ?_
    refine lv_bipush (v := 99) hx hb dX12_tellOne_123 (by decide) ?_
    obtain ⟨r19, μ18, e17, h⟩ := b2_e h
    refine cVi (as := [.int 1, .int 99]) (rest := [.int (μ.1 0 19), .ref (wB ω + 16)]) (c_X12_toldInt hW e17) C hl.1 hH hS rfl (jM_0 hW) rfl wd_46 wd_1467 mw_X12_toldInt wd_1465 rfl (rm_ok (by decide) (by decide)) (Nat.le_of_ble_eq_true rfl) ⟨Nat.zero_le _, Nat.zero_le _⟩ (by decide) dX12_tellOne_125 (fun H locs hH hS => ?_)
    obtain ⟨b20, h⟩ := gd_e h
    obtain ⟨μ21, e22, h⟩ := bd_e h
    refine h_iast C hH hS (jM_16 hW).1 (jM_16 hW).2.1 b20 dX12_tellOne_128 (fun H locs hH hS => ?_)
    have hH := Hd.to e22 hH
    refine lv_goto (tgt := 224) hx hb dX12_tellOne_129 (by decide) ?_
    exact h_vret C hr hk hH hS (by cases h; rfl) dX12_tellOne_224
  have h := ite_f b23 h
  by_cases b30 : y2 = 27
  · have h := ite_t b30 h
    refine lv_tableIn (tgt := 132) (off := 123) hx hb dX12_tellOne_9 (by rw [b30]; decide) (by rw [b30]; decide) (by rw [b30]; rfl) (by decide) ?_
    refine lv_aload_n hx hb dX12_tellOne_132 rfl (lv_at hl 0 rfl) ?_
    refine g_1216 (i := 17) C hH (jM_0 hW) rfl dX12_tellOne_133 ?_
    refine lv_aload_n hx hb dX12_tellOne_136 rfl (lv_at hl 0 rfl) ?_
    refine g_1206 C hH (jM_0 hW) dX12_tellOne_137 ?_
    refine lv_aload_n hx hb dX12_tellOne_140 rfl (lv_at hl 0 rfl) ?_
    refine lv_iconst (v := 0) hx hb dX12_tellOne_141 (by decide) ?_
    refine lv_bipush (v := 100) hx hb dX12_tellOne_142 (by decide) ?_
    obtain ⟨r26, μ25, e24, h⟩ := b2_e h
    refine cVi (as := [.int 0, .int 100]) (rest := [.int (μ.1 0 19), .ref (wB ω + 17)]) (c_X12_toldInt hW e24) C hl.1 hH hS rfl (jM_0 hW) rfl wd_46 wd_1467 mw_X12_toldInt wd_1465 rfl (rm_ok (by decide) (by decide)) (Nat.le_of_ble_eq_true rfl) ⟨Nat.zero_le _, Nat.zero_le _⟩ (by decide) dX12_tellOne_144 (fun H locs hH hS => ?_)
    obtain ⟨b27, h⟩ := gd_e h
    obtain ⟨μ28, e29, h⟩ := bd_e h
    refine h_iast C hH hS (jM_17 hW).1 (jM_17 hW).2.1 b27 dX12_tellOne_147 (fun H locs hH hS => ?_)
    have hH := Hd.to e29 hH
    refine lv_goto (tgt := 224) hx hb dX12_tellOne_148 (by decide) ?_
    exact h_vret C hr hk hH hS (by cases h; rfl) dX12_tellOne_224
  have h := ite_f b30 h
  by_cases b37 : y2 = 28
  · have h := ite_t b37 h
    refine lv_tableIn (tgt := 151) (off := 142) hx hb dX12_tellOne_9 (by rw [b37]; decide) (by rw [b37]; decide) (by rw [b37]; rfl) (by decide) ?_
    refine lv_aload_n hx hb dX12_tellOne_151 rfl (lv_at hl 0 rfl) ?_
    refine g_1217 (i := 18) C hH (jM_0 hW) rfl dX12_tellOne_152 ?_
    refine lv_aload_n hx hb dX12_tellOne_155 rfl (lv_at hl 0 rfl) ?_
    refine g_1206 C hH (jM_0 hW) dX12_tellOne_156 ?_
    refine lv_aload_n hx hb dX12_tellOne_159 rfl (lv_at hl 0 rfl) ?_
    refine lv_iconst (v := 0) hx hb dX12_tellOne_160 (by decide) ?_
    refine lv_sipush (v := 9999) hx hb dX12_tellOne_161 (by decide) ?_
    obtain ⟨r33, μ32, e31, h⟩ := b2_e h
    refine cVi (as := [.int 0, .int 9999]) (rest := [.int (μ.1 0 19), .ref (wB ω + 18)]) (c_X12_toldInt hW e31) C hl.1 hH hS rfl (jM_0 hW) rfl wd_46 wd_1467 mw_X12_toldInt wd_1465 rfl (rm_ok (by decide) (by decide)) (Nat.le_of_ble_eq_true rfl) ⟨Nat.zero_le _, Nat.zero_le _⟩ (by decide) dX12_tellOne_164 (fun H locs hH hS => ?_)
    obtain ⟨b34, h⟩ := gd_e h
    obtain ⟨μ35, e36, h⟩ := bd_e h
    refine h_iast C hH hS (jM_18 hW).1 (jM_18 hW).2.1 b34 dX12_tellOne_167 (fun H locs hH hS => ?_)
    have hH := Hd.to e36 hH
    refine lv_goto (tgt := 224) hx hb dX12_tellOne_168 (by decide) ?_
    exact h_vret C hr hk hH hS (by cases h; rfl) dX12_tellOne_224
  have h := ite_f b37 h
  by_cases b48 : y2 = 21
  · refine lv_tableIn (tgt := 171) (off := 162) hx hb dX12_tellOne_9 (by rw [b48]; decide) (by rw [b48]; decide) (by rw [b48]; rfl) (by decide) ?_
    refine lv_aload_n hx hb dX12_tellOne_171 rfl (lv_at hl 0 rfl) ?_
    refine g_1192 (i := 3) C hH (jM_0 hW) rfl dX12_tellOne_172 ?_
    refine lv_aload_n hx hb dX12_tellOne_175 rfl (lv_at hl 0 rfl) ?_
    refine g_1198 C hH (jM_0 hW) dX12_tellOne_176 ?_
    obtain ⟨b38, h⟩ := gd_e h
    refine h_iald C hH (jM_3 hW).1 (jM_3 hW).2.1 b38 dX12_tellOne_179 ?_
    refine lv_bipush (v := 21) hx hb dX12_tellOne_180 (by decide) ?_
    refine lv_isub hx hb dX12_tellOne_182 ?_
    obtain ⟨y39, e40, h⟩ := bd_e h
    refine h_topi e40 ?_
    refine lv_istore_n (lv' := [(1, .int y39), (0, .ref (wB ω + 0))]) hx hb dX12_tellOne_183 rfl hl (by decide) rfl (fun ls hl => ?_)
    refine lv_iload_n hx hb dX12_tellOne_184 rfl (lv_at hl 0 rfl) ?_
    refine lv_if_lt (tgt := 202) hx hb dX12_tellOne_185 (by decide) (fun hc => ?_) (fun hc => ?_)
    · have h := ite_t hc h
      exact wX12_tellOne_b202 hW C hr hk hH hS (lv_sub hl [1, 0] rfl) h
    · have h := ite_f hc h
      refine lv_aload_n hx hb dX12_tellOne_188 rfl (lv_at hl 1 rfl) ?_
      refine g_1192 (i := 3) C hH (jM_0 hW) rfl dX12_tellOne_189 ?_
      refine lv_aload_n hx hb dX12_tellOne_192 rfl (lv_at hl 1 rfl) ?_
      refine g_1198 C hH (jM_0 hW) dX12_tellOne_193 ?_
      obtain ⟨b47, h⟩ := gd_e h
      refine h_iald C hH (jM_3 hW).1 (jM_3 hW).2.1 b47 dX12_tellOne_196 ?_
      refine lv_bipush (v := 24) hx hb dX12_tellOne_197 (by decide) ?_
      refine lv_icmp_le (tgt := 207) hx hb dX12_tellOne_199 (by decide) (fun hc => ?_) (fun hc => ?_)
      · have h := ite_t hc h
        exact wX12_tellOne_b207 hW C hr hk hH hS (lv_sub hl [1, 0] rfl) h
      · have h := ite_f hc h
        exact wX12_tellOne_b202 hW C hr hk hH hS (lv_sub hl [1, 0] rfl) h
  by_cases b49 : y2 = 22
  · refine lv_tableIn (tgt := 171) (off := 162) hx hb dX12_tellOne_9 (by rw [b49]; decide) (by rw [b49]; decide) (by rw [b49]; rfl) (by decide) ?_
    refine lv_aload_n hx hb dX12_tellOne_171 rfl (lv_at hl 0 rfl) ?_
    refine g_1192 (i := 3) C hH (jM_0 hW) rfl dX12_tellOne_172 ?_
    refine lv_aload_n hx hb dX12_tellOne_175 rfl (lv_at hl 0 rfl) ?_
    refine g_1198 C hH (jM_0 hW) dX12_tellOne_176 ?_
    obtain ⟨b38, h⟩ := gd_e h
    refine h_iald C hH (jM_3 hW).1 (jM_3 hW).2.1 b38 dX12_tellOne_179 ?_
    refine lv_bipush (v := 21) hx hb dX12_tellOne_180 (by decide) ?_
    refine lv_isub hx hb dX12_tellOne_182 ?_
    obtain ⟨y39, e40, h⟩ := bd_e h
    refine h_topi e40 ?_
    refine lv_istore_n (lv' := [(1, .int y39), (0, .ref (wB ω + 0))]) hx hb dX12_tellOne_183 rfl hl (by decide) rfl (fun ls hl => ?_)
    refine lv_iload_n hx hb dX12_tellOne_184 rfl (lv_at hl 0 rfl) ?_
    refine lv_if_lt (tgt := 202) hx hb dX12_tellOne_185 (by decide) (fun hc => ?_) (fun hc => ?_)
    · have h := ite_t hc h
      exact wX12_tellOne_b202 hW C hr hk hH hS (lv_sub hl [1, 0] rfl) h
    · have h := ite_f hc h
      refine lv_aload_n hx hb dX12_tellOne_188 rfl (lv_at hl 1 rfl) ?_
      refine g_1192 (i := 3) C hH (jM_0 hW) rfl dX12_tellOne_189 ?_
      refine lv_aload_n hx hb dX12_tellOne_192 rfl (lv_at hl 1 rfl) ?_
      refine g_1198 C hH (jM_0 hW) dX12_tellOne_193 ?_
      obtain ⟨b47, h⟩ := gd_e h
      refine h_iald C hH (jM_3 hW).1 (jM_3 hW).2.1 b47 dX12_tellOne_196 ?_
      refine lv_bipush (v := 24) hx hb dX12_tellOne_197 (by decide) ?_
      refine lv_icmp_le (tgt := 207) hx hb dX12_tellOne_199 (by decide) (fun hc => ?_) (fun hc => ?_)
      · have h := ite_t hc h
        exact wX12_tellOne_b207 hW C hr hk hH hS (lv_sub hl [1, 0] rfl) h
      · have h := ite_f hc h
        exact wX12_tellOne_b202 hW C hr hk hH hS (lv_sub hl [1, 0] rfl) h
  by_cases b50 : y2 = 23
  · refine lv_tableIn (tgt := 171) (off := 162) hx hb dX12_tellOne_9 (by rw [b50]; decide) (by rw [b50]; decide) (by rw [b50]; rfl) (by decide) ?_
    refine lv_aload_n hx hb dX12_tellOne_171 rfl (lv_at hl 0 rfl) ?_
    refine g_1192 (i := 3) C hH (jM_0 hW) rfl dX12_tellOne_172 ?_
    refine lv_aload_n hx hb dX12_tellOne_175 rfl (lv_at hl 0 rfl) ?_
    refine g_1198 C hH (jM_0 hW) dX12_tellOne_176 ?_
    obtain ⟨b38, h⟩ := gd_e h
    refine h_iald C hH (jM_3 hW).1 (jM_3 hW).2.1 b38 dX12_tellOne_179 ?_
    refine lv_bipush (v := 21) hx hb dX12_tellOne_180 (by decide) ?_
    refine lv_isub hx hb dX12_tellOne_182 ?_
    obtain ⟨y39, e40, h⟩ := bd_e h
    refine h_topi e40 ?_
    refine lv_istore_n (lv' := [(1, .int y39), (0, .ref (wB ω + 0))]) hx hb dX12_tellOne_183 rfl hl (by decide) rfl (fun ls hl => ?_)
    refine lv_iload_n hx hb dX12_tellOne_184 rfl (lv_at hl 0 rfl) ?_
    refine lv_if_lt (tgt := 202) hx hb dX12_tellOne_185 (by decide) (fun hc => ?_) (fun hc => ?_)
    · have h := ite_t hc h
      exact wX12_tellOne_b202 hW C hr hk hH hS (lv_sub hl [1, 0] rfl) h
    · have h := ite_f hc h
      refine lv_aload_n hx hb dX12_tellOne_188 rfl (lv_at hl 1 rfl) ?_
      refine g_1192 (i := 3) C hH (jM_0 hW) rfl dX12_tellOne_189 ?_
      refine lv_aload_n hx hb dX12_tellOne_192 rfl (lv_at hl 1 rfl) ?_
      refine g_1198 C hH (jM_0 hW) dX12_tellOne_193 ?_
      obtain ⟨b47, h⟩ := gd_e h
      refine h_iald C hH (jM_3 hW).1 (jM_3 hW).2.1 b47 dX12_tellOne_196 ?_
      refine lv_bipush (v := 24) hx hb dX12_tellOne_197 (by decide) ?_
      refine lv_icmp_le (tgt := 207) hx hb dX12_tellOne_199 (by decide) (fun hc => ?_) (fun hc => ?_)
      · have h := ite_t hc h
        exact wX12_tellOne_b207 hW C hr hk hH hS (lv_sub hl [1, 0] rfl) h
      · have h := ite_f hc h
        exact wX12_tellOne_b202 hW C hr hk hH hS (lv_sub hl [1, 0] rfl) h
  by_cases b51 : y2 = 24
  · refine lv_tableIn (tgt := 171) (off := 162) hx hb dX12_tellOne_9 (by rw [b51]; decide) (by rw [b51]; decide) (by rw [b51]; rfl) (by decide) ?_
    refine lv_aload_n hx hb dX12_tellOne_171 rfl (lv_at hl 0 rfl) ?_
    refine g_1192 (i := 3) C hH (jM_0 hW) rfl dX12_tellOne_172 ?_
    refine lv_aload_n hx hb dX12_tellOne_175 rfl (lv_at hl 0 rfl) ?_
    refine g_1198 C hH (jM_0 hW) dX12_tellOne_176 ?_
    obtain ⟨b38, h⟩ := gd_e h
    refine h_iald C hH (jM_3 hW).1 (jM_3 hW).2.1 b38 dX12_tellOne_179 ?_
    refine lv_bipush (v := 21) hx hb dX12_tellOne_180 (by decide) ?_
    refine lv_isub hx hb dX12_tellOne_182 ?_
    obtain ⟨y39, e40, h⟩ := bd_e h
    refine h_topi e40 ?_
    refine lv_istore_n (lv' := [(1, .int y39), (0, .ref (wB ω + 0))]) hx hb dX12_tellOne_183 rfl hl (by decide) rfl (fun ls hl => ?_)
    refine lv_iload_n hx hb dX12_tellOne_184 rfl (lv_at hl 0 rfl) ?_
    refine lv_if_lt (tgt := 202) hx hb dX12_tellOne_185 (by decide) (fun hc => ?_) (fun hc => ?_)
    · have h := ite_t hc h
      exact wX12_tellOne_b202 hW C hr hk hH hS (lv_sub hl [1, 0] rfl) h
    · have h := ite_f hc h
      refine lv_aload_n hx hb dX12_tellOne_188 rfl (lv_at hl 1 rfl) ?_
      refine g_1192 (i := 3) C hH (jM_0 hW) rfl dX12_tellOne_189 ?_
      refine lv_aload_n hx hb dX12_tellOne_192 rfl (lv_at hl 1 rfl) ?_
      refine g_1198 C hH (jM_0 hW) dX12_tellOne_193 ?_
      obtain ⟨b47, h⟩ := gd_e h
      refine h_iald C hH (jM_3 hW).1 (jM_3 hW).2.1 b47 dX12_tellOne_196 ?_
      refine lv_bipush (v := 24) hx hb dX12_tellOne_197 (by decide) ?_
      refine lv_icmp_le (tgt := 207) hx hb dX12_tellOne_199 (by decide) (fun hc => ?_) (fun hc => ?_)
      · have h := ite_t hc h
        exact wX12_tellOne_b207 hW C hr hk hH hS (lv_sub hl [1, 0] rfl) h
      · have h := ite_f hc h
        exact wX12_tellOne_b202 hW C hr hk hH hS (lv_sub hl [1, 0] rfl) h
  have b9 := ne_ti (z := 20) b9 (by decide)
  have b16 := ne_ti (z := 25) b16 (by decide)
  have b23 := ne_ti (z := 26) b23 (by decide)
  have b30 := ne_ti (z := 27) b30 (by decide)
  have b37 := ne_ti (z := 28) b37 (by decide)
  have b48 := ne_ti (z := 21) b48 (by decide)
  have b49 := ne_ti (z := 22) b49 (by decide)
  have b50 := ne_ti (z := 23) b50 (by decide)
  have b51 := ne_ti (z := 24) b51 (by decide)
  refine lv_tableOut (tgt := 171) hx hb dX12_tellOne_9 (by omega) (by decide) ?_
  refine lv_aload_n hx hb dX12_tellOne_171 rfl (lv_at hl 0 rfl) ?_
  refine g_1192 (i := 3) C hH (jM_0 hW) rfl dX12_tellOne_172 ?_
  refine lv_aload_n hx hb dX12_tellOne_175 rfl (lv_at hl 0 rfl) ?_
  refine g_1198 C hH (jM_0 hW) dX12_tellOne_176 ?_
  obtain ⟨b38, h⟩ := gd_e h
  refine h_iald C hH (jM_3 hW).1 (jM_3 hW).2.1 b38 dX12_tellOne_179 ?_
  refine lv_bipush (v := 21) hx hb dX12_tellOne_180 (by decide) ?_
  refine lv_isub hx hb dX12_tellOne_182 ?_
  obtain ⟨y39, e40, h⟩ := bd_e h
  refine h_topi e40 ?_
  refine lv_istore_n (lv' := [(1, .int y39), (0, .ref (wB ω + 0))]) hx hb dX12_tellOne_183 rfl hl (by decide) rfl (fun ls hl => ?_)
  refine lv_iload_n hx hb dX12_tellOne_184 rfl (lv_at hl 0 rfl) ?_
  refine lv_if_lt (tgt := 202) hx hb dX12_tellOne_185 (by decide) (fun hc => ?_) (fun hc => ?_)
  · have h := ite_t hc h
    exact wX12_tellOne_b202 hW C hr hk hH hS (lv_sub hl [1, 0] rfl) h
  · have h := ite_f hc h
    refine lv_aload_n hx hb dX12_tellOne_188 rfl (lv_at hl 1 rfl) ?_
    refine g_1192 (i := 3) C hH (jM_0 hW) rfl dX12_tellOne_189 ?_
    refine lv_aload_n hx hb dX12_tellOne_192 rfl (lv_at hl 1 rfl) ?_
    refine g_1198 C hH (jM_0 hW) dX12_tellOne_193 ?_
    obtain ⟨b47, h⟩ := gd_e h
    refine h_iald C hH (jM_3 hW).1 (jM_3 hW).2.1 b47 dX12_tellOne_196 ?_
    refine lv_bipush (v := 24) hx hb dX12_tellOne_197 (by decide) ?_
    refine lv_icmp_le (tgt := 207) hx hb dX12_tellOne_199 (by decide) (fun hc => ?_) (fun hc => ?_)
    · have h := ite_t hc h
      exact wX12_tellOne_b207 hW C hr hk hH hS (lv_sub hl [1, 0] rfl) h
    · have h := ite_f hc h
      exact wX12_tellOne_b202 hW C hr hk hH hS (lv_sub hl [1, 0] rfl) h
theorem c_X12_tellOne {l : Launch} {ω : WW} (hW : FWM ω) {μ : Mem} {μo : Mem} (h : fX12_tellOne μ = some μo) : Con l yX12_tellOne cX12_tellOne 2 none 7 ω [.ref (wB ω + 0)] μ none μo :=
  con_of (by decide) (Nat.le_of_ble_eq_true rfl) (fun p e s m args below meth c ls C hr hk hl hH hS => wX12_tellOne_e hW C hr hk hH hS (lv_sub hl [0] rfl) h)
set_option maxHeartbeats 4000000 in
set_option maxRecDepth 100000 in
theorem wX12_read_s10 (hW : FWM ω) (C : Cx ω p s m args c cX12_read 2 RX12) (hr : meth.sig.returnType = some .int) (hk : meth.locks = false) {rr : Int32} {μo : Mem} {x1 : Int32} {rec : Int32 → Mem → Option (Int32 × Mem)} (hrec : ∀ (z1 : Int32) (ν : Mem) (H : Heap) (locs : List Loc) (ls : Array Slot), Hd ω ν H → FS ω s H locs → lv_has ls 2 [(0, .ref (wB ω + 0)), (1, .int z1)] → rec z1 ν = some (rr, μo) → W p l e (rmd 8) s m args below meth c H locs 0 0 (MQ below (QR ω (some (.int rr)) μo) args s 0 0 (wA ω)) (F0 m 10 ls [])) {K : Mem → Option (Int32 × Mem)} (hK : ∀ (ν : Mem) (H : Heap) (locs : List Loc) (ls : Array Slot), Hd ω ν H → FS ω s H locs → lv_has ls 2 [(0, .ref (wB ω + 0))] → K ν = some (rr, μo) → W p l e (rmd 8) s m args below meth c H locs 0 0 (MQ below (QR ω (some (.int rr)) μo) args s 0 0 (wA ω)) (F0 m 36 ls [])) {μ : Mem} {H : Heap} {locs : List Loc} {ls : Array Slot} (hH : Hd ω μ H) (hS : FS ω s H locs) (hl : lv_has ls 2 [(0, .ref (wB ω + 0)), (1, .int x1)]) (h : fX12_read_s10 rec K x1 μ = some (rr, μo)) : W p l e (rmd 8) s m args below meth c H locs 0 0 (MQ below (QR ω (some (.int rr)) μo) args s 0 0 (wA ω)) (F0 m 10 ls []) := by
  have hx := C.1
  have hb := C.2.1
  unfold fX12_read_s10 at h
  refine lv_iload_n hx hb dX12_read_10 rfl (lv_at hl 1 rfl) ?_
  refine lv_aload_n hx hb dX12_read_11 rfl (lv_at hl 0 rfl) ?_
  refine g_1191 C hH (jM_0 hW) dX12_read_12 ?_
  refine lv_icmp_ge (tgt := 36) hx hb dX12_read_15 (by decide) (fun hc => ?_) (fun hc => ?_)
  · have h := ite_t hc h
    exact hK _ H locs ls hH hS (lv_sub hl [0] rfl) h
  · have h := ite_f hc h
    refine lv_aload_n hx hb dX12_read_18 rfl (lv_at hl 0 rfl) ?_
    refine g_1190 (i := 2) C hH (jM_0 hW) rfl dX12_read_19 ?_
    refine lv_iload_n hx hb dX12_read_22 rfl (lv_at hl 1 rfl) ?_
    refine lv_aload_n hx hb dX12_read_23 rfl (lv_at hl 0 rfl) ?_
    refine g_1188 (i := 1) C hH (jM_0 hW) rfl dX12_read_24 ?_
    refine lv_iload_n hx hb dX12_read_27 rfl (lv_at hl 1 rfl) ?_
    obtain ⟨b3, h⟩ := gd_e h
    refine h_bald C hH (jM_1 hW).1 (jM_1 hW).2.1 b3 dX12_read_28 ?_
    obtain ⟨b4, h⟩ := gd_e h
    obtain ⟨μ5, e6, h⟩ := bd_e h
    refine h_bast C hH hS (jM_2 hW).1 (jM_2 hW).2.1 b4 dX12_read_29 (fun H locs hH hS => ?_)
    have hH := Hd.to e6 hH
    refine lv_iinc (v := x1 + 1) (lv' := [(1, .int (x1 + 1)), (0, .ref (wB ω + 0))]) hx hb dX12_read_30 hl (k := 1) rfl rfl (by decide) rfl (fun ls hl => ?_)
    refine lv_goto (tgt := 10) hx hb dX12_read_33 (by decide) ?_
    exact hrec _ _ H locs ls hH hS (lv_sub hl [1, 0] rfl) h
theorem wX12_read_l10 (hW : FWM ω) (C : Cx ω p s m args c cX12_read 2 RX12) (hr : meth.sig.returnType = some .int) (hk : meth.locks = false) {rr : Int32} {μo : Mem} {K : Mem → Option (Int32 × Mem)} (hK : ∀ (ν : Mem) (H : Heap) (locs : List Loc) (ls : Array Slot), Hd ω ν H → FS ω s H locs → lv_has ls 2 [(0, .ref (wB ω + 0))] → K ν = some (rr, μo) → W p l e (rmd 8) s m args below meth c H locs 0 0 (MQ below (QR ω (some (.int rr)) μo) args s 0 0 (wA ω)) (F0 m 36 ls [])) : ∀ (n : Nat) (x1 : Int32) (μ : Mem) (H : Heap) (locs : List Loc) (ls : Array Slot), Hd ω μ H → FS ω s H locs → lv_has ls 2 [(0, .ref (wB ω + 0)), (1, .int x1)] → fX12_read_l10 K n x1 μ = some (rr, μo) → W p l e (rmd 8) s m args below meth c H locs 0 0 (MQ below (QR ω (some (.int rr)) μo) args s 0 0 (wA ω)) (F0 m 10 ls []) := by
  intro n
  induction n with
  | zero => intro x1 μ H locs ls hH hS hl h; cases h
  | succ n ih => intro x1 μ H locs ls hH hS hl h; exact wX12_read_s10 hW C hr hk ih hK hH hS hl h
set_option maxHeartbeats 4000000 in
set_option maxRecDepth 100000 in
theorem wX12_read_s107 (hW : FWM ω) (C : Cx ω p s m args c cX12_read 2 RX12) (hr : meth.sig.returnType = some .int) (hk : meth.locks = false) {rr : Int32} {μo : Mem} {rec : Mem → Option (Int32 × Mem)} (hrec : ∀ (ν : Mem) (H : Heap) (locs : List Loc) (ls : Array Slot), Hd ω ν H → FS ω s H locs → lv_has ls 2 [(0, .ref (wB ω + 0))] → rec ν = some (rr, μo) → W p l e (rmd 8) s m args below meth c H locs 0 0 (MQ below (QR ω (some (.int rr)) μo) args s 0 0 (wA ω)) (F0 m 107 ls [])) {K : Mem → Option (Int32 × Mem)} (hK : ∀ (ν : Mem) (H : Heap) (locs : List Loc) (ls : Array Slot), Hd ω ν H → FS ω s H locs → lv_has ls 2 [(0, .ref (wB ω + 0))] → K ν = some (rr, μo) → W p l e (rmd 8) s m args below meth c H locs 0 0 (MQ below (QR ω (some (.int rr)) μo) args s 0 0 (wA ω)) (F0 m 129 ls [])) {μ : Mem} {H : Heap} {locs : List Loc} {ls : Array Slot} (hH : Hd ω μ H) (hS : FS ω s H locs) (hl : lv_has ls 2 [(0, .ref (wB ω + 0))]) (h : fX12_read_s107 rec K μ = some (rr, μo)) : W p l e (rmd 8) s m args below meth c H locs 0 0 (MQ below (QR ω (some (.int rr)) μo) args s 0 0 (wA ω)) (F0 m 107 ls []) := by
  have hx := C.1
  have hb := C.2.1
  unfold fX12_read_s107 at h
  refine lv_aload_n hx hb dX12_read_107 rfl (lv_at hl 0 rfl) ?_
  refine g_1200 C hH (jM_0 hW) dX12_read_108 ?_
  refine lv_if_ne (tgt := 129) hx hb dX12_read_111 (by decide) (fun hc => ?_) (fun hc => ?_)
  · have h := ite_f hc h
    exact hK _ H locs ls hH hS hl h
  · have h := ite_t hc h
    refine lv_aload_n hx hb dX12_read_114 rfl (lv_at hl 0 rfl) ?_
    refine lv_iconst (v := 0) hx hb dX12_read_115 (by decide) ?_
    obtain ⟨r29, e28, h⟩ := b1_e h
    refine cVi (as := [.int 0]) (rest := []) (c_X12_is hW e28) C hl.1 hH hS rfl (jM_0 hW) rfl wd_38 wd_1435 mw_X12_is wd_1433 rfl (rm_ok (by decide) (by decide)) (Nat.le_of_ble_eq_true rfl) ⟨Nat.zero_le _, Nat.zero_le _⟩ (by decide) dX12_read_116 (fun H locs hH hS => ?_)
    refine lv_if_ne (tgt := 129) hx hb dX12_read_119 (by decide) (fun hc => ?_) (fun hc => ?_)
    · have h := ite_f hc h
      exact hK _ H locs ls hH hS hl h
    · have h := ite_t hc h
      refine lv_aload_n hx hb dX12_read_122 rfl (lv_at hl 0 rfl) ?_
      obtain ⟨μ31, e30, h⟩ := b1_e h
      refine cVv (as := []) (rest := []) (c_X12_tellOne hW e30) C hl.1 hH hS rfl (jM_0 hW) rfl wd_39 wd_1439 mw_X12_tellOne wd_1437 rfl (rm_ok (by decide) (by decide)) (Nat.le_of_ble_eq_true rfl) ⟨Nat.zero_le _, Nat.zero_le _⟩ (by decide) dX12_read_123 (fun H locs hH hS => ?_)
      refine lv_goto (tgt := 107) hx hb dX12_read_126 (by decide) ?_
      exact hrec _ H locs ls hH hS hl h
theorem wX12_read_l107 (hW : FWM ω) (C : Cx ω p s m args c cX12_read 2 RX12) (hr : meth.sig.returnType = some .int) (hk : meth.locks = false) {rr : Int32} {μo : Mem} {K : Mem → Option (Int32 × Mem)} (hK : ∀ (ν : Mem) (H : Heap) (locs : List Loc) (ls : Array Slot), Hd ω ν H → FS ω s H locs → lv_has ls 2 [(0, .ref (wB ω + 0))] → K ν = some (rr, μo) → W p l e (rmd 8) s m args below meth c H locs 0 0 (MQ below (QR ω (some (.int rr)) μo) args s 0 0 (wA ω)) (F0 m 129 ls [])) : ∀ (n : Nat) (μ : Mem) (H : Heap) (locs : List Loc) (ls : Array Slot), Hd ω μ H → FS ω s H locs → lv_has ls 2 [(0, .ref (wB ω + 0))] → fX12_read_l107 K n μ = some (rr, μo) → W p l e (rmd 8) s m args below meth c H locs 0 0 (MQ below (QR ω (some (.int rr)) μo) args s 0 0 (wA ω)) (F0 m 107 ls []) := by
  intro n
  induction n with
  | zero => intro μ H locs ls hH hS hl h; cases h
  | succ n ih => intro μ H locs ls hH hS hl h; exact wX12_read_s107 hW C hr hk ih hK hH hS hl h
set_option maxHeartbeats 4000000 in
set_option maxRecDepth 100000 in
theorem wX12_read_s214 (hW : FWM ω) (C : Cx ω p s m args c cX12_read 2 RX12) (hr : meth.sig.returnType = some .int) (hk : meth.locks = false) {rr : Int32} {μo : Mem} {x1 : Int32} {rec : Int32 → Mem → Option (Int32 × Mem)} (hrec : ∀ (z1 : Int32) (ν : Mem) (H : Heap) (locs : List Loc) (ls : Array Slot), Hd ω ν H → FS ω s H locs → lv_has ls 2 [(0, .ref (wB ω + 0)), (1, .int z1)] → rec z1 ν = some (rr, μo) → W p l e (rmd 8) s m args below meth c H locs 0 0 (MQ below (QR ω (some (.int rr)) μo) args s 0 0 (wA ω)) (F0 m 214 ls [])) {μ : Mem} {H : Heap} {locs : List Loc} {ls : Array Slot} (hH : Hd ω μ H) (hS : FS ω s H locs) (hl : lv_has ls 2 [(0, .ref (wB ω + 0)), (1, .int x1)]) (h : fX12_read_s214 rec x1 μ = some (rr, μo)) : W p l e (rmd 8) s m args below meth c H locs 0 0 (MQ below (QR ω (some (.int rr)) μo) args s 0 0 (wA ω)) (F0 m 214 ls []) := by
  have hx := C.1
  have hb := C.2.1
  unfold fX12_read_s214 at h
  refine lv_iload_n hx hb dX12_read_214 rfl (lv_at hl 1 rfl) ?_
  refine lv_iconst (v := 3) hx hb dX12_read_215 (by decide) ?_
  refine lv_icmp_ge (tgt := 232) hx hb dX12_read_216 (by decide) (fun hc => ?_) (fun hc => ?_)
  · have h := ite_t hc h
    refine lv_iconst (v := 0) hx hb dX12_read_232 (by decide) ?_
    exact h_iret C hr hk hH hS rfl (by cases h; rfl) dX12_read_233
  · have h := ite_f hc h
    refine lv_aload_n hx hb dX12_read_219 rfl (lv_at hl 0 rfl) ?_
    refine g_1254 (i := 47) C hH (jM_0 hW) rfl dX12_read_220 ?_
    refine lv_iload_n hx hb dX12_read_223 rfl (lv_at hl 1 rfl) ?_
    refine lv_iconst (v := 0) hx hb dX12_read_224 (by decide) ?_
    obtain ⟨b45, h⟩ := gd_e h
    obtain ⟨μ46, e47, h⟩ := bd_e h
    refine h_zast (y := 0) C hH hS (jM_47 hW).1 (jM_47 hW).2.1 b45 rfl dX12_read_225 (fun H locs hH hS => ?_)
    have hH := Hd.to e47 hH
    refine lv_iinc (v := x1 + 1) (lv' := [(1, .int (x1 + 1)), (0, .ref (wB ω + 0))]) hx hb dX12_read_226 hl (k := 1) rfl rfl (by decide) rfl (fun ls hl => ?_)
    refine lv_goto (tgt := 214) hx hb dX12_read_229 (by decide) ?_
    exact hrec _ _ H locs ls hH hS (lv_sub hl [1, 0] rfl) h
theorem wX12_read_l214 (hW : FWM ω) (C : Cx ω p s m args c cX12_read 2 RX12) (hr : meth.sig.returnType = some .int) (hk : meth.locks = false) {rr : Int32} {μo : Mem} : ∀ (n : Nat) (x1 : Int32) (μ : Mem) (H : Heap) (locs : List Loc) (ls : Array Slot), Hd ω μ H → FS ω s H locs → lv_has ls 2 [(0, .ref (wB ω + 0)), (1, .int x1)] → fX12_read_l214 n x1 μ = some (rr, μo) → W p l e (rmd 8) s m args below meth c H locs 0 0 (MQ below (QR ω (some (.int rr)) μo) args s 0 0 (wA ω)) (F0 m 214 ls []) := by
  intro n
  induction n with
  | zero => intro x1 μ H locs ls hH hS hl h; cases h
  | succ n ih => intro x1 μ H locs ls hH hS hl h; exact wX12_read_s214 hW C hr hk ih hH hS hl h
set_option maxHeartbeats 4000000 in
set_option maxRecDepth 100000 in
theorem wX12_read_b159 (hW : FWM ω) (C : Cx ω p s m args c cX12_read 2 RX12) (hr : meth.sig.returnType = some .int) (hk : meth.locks = false) {rr : Int32} {μo : Mem} {k1 : Int32} {μ : Mem} {H : Heap} {locs : List Loc} {ls : Array Slot} (hH : Hd ω μ H) (hS : FS ω s H locs) (hl : lv_has ls 2 [(0, .ref (wB ω + 0))]) (h : fX12_read_b159 k1 μ = some (rr, μo)) : W p l e (rmd 8) s m args below meth c H locs 0 0 (MQ below (QR ω (some (.int rr)) μo) args s 0 0 (wA ω)) (F0 m 159 ls [.int k1, .ref (wB ω + 0)]) := by
  have hx := C.1
  have hb := C.2.1
  unfold fX12_read_b159 at h
  obtain ⟨μ33, e34, h⟩ := bd_e h
  refine p_1204 C hH hS (jM_0 hW) dX12_read_159 (fun H locs hH hS => ?_)
  have hH := Hd.to e34 hH
  refine lv_aload_n hx hb dX12_read_162 rfl (lv_at hl 0 rfl) ?_
  refine g_1200 C hH (jM_0 hW) dX12_read_163 ?_
  refine lv_if_le (tgt := 174) hx hb dX12_read_166 (by decide) (fun hc => ?_) (fun hc => ?_)
  · have h := ite_t hc h
    refine lv_aload_n hx hb dX12_read_174 rfl (lv_at hl 0 rfl) ?_
    refine g_1202 C hH (jM_0 hW) dX12_read_175 ?_
    refine lv_if_le (tgt := 186) hx hb dX12_read_178 (by decide) (fun hc => ?_) (fun hc => ?_)
    · have h := ite_t hc h
      refine lv_aload_n hx hb dX12_read_186 rfl (lv_at hl 0 rfl) ?_
      refine lv_aload_n hx hb dX12_read_187 rfl (lv_at hl 0 rfl) ?_
      refine g_1206 C hH (jM_0 hW) dX12_read_188 ?_
      obtain ⟨μ35, e36, h⟩ := bd_e h
      refine p_1205 C hH hS (jM_0 hW) dX12_read_191 (fun H locs hH hS => ?_)
      have hH := Hd.to e36 hH
      refine lv_aload_n hx hb dX12_read_194 rfl (lv_at hl 0 rfl) ?_
      obtain ⟨μ38, e37, h⟩ := b1_e h
      refine cVv (as := []) (rest := []) (c_X12_begins hW e37) C hl.1 hH hS rfl (jM_0 hW) rfl wd_30 wd_1178 mw_X12_begins wd_1176 rfl (rm_ok (by decide) (by decide)) (Nat.le_of_ble_eq_true rfl) ⟨Nat.zero_le _, Nat.zero_le _⟩ (by decide) dX12_read_195 (fun H locs hH hS => ?_)
      refine lv_aload_n hx hb dX12_read_198 rfl (lv_at hl 0 rfl) ?_
      obtain ⟨μ40, e39, h⟩ := b1_e h
      refine cVv (as := []) (rest := []) (c_X12_keepsRow hW e39) C hl.1 hH hS rfl (jM_0 hW) rfl wd_32 wd_1186 mw_X12_keepsRow wd_1184 rfl (rm_ok (by decide) (by decide)) (Nat.le_of_ble_eq_true rfl) ⟨Nat.zero_le _, Nat.zero_le _⟩ (by decide) dX12_read_199 (fun H locs hH hS => ?_)
      refine lv_aload_n hx hb dX12_read_202 rfl (lv_at hl 0 rfl) ?_
      refine lv_iconst (v := 0) hx hb dX12_read_203 (by decide) ?_
      obtain ⟨μ41, e42, h⟩ := bd_e h
      refine p_1240 C hH hS (jM_0 hW) dX12_read_204 (fun H locs hH hS => ?_)
      have hH := Hd.to e42 hH
      refine lv_aload_n hx hb dX12_read_207 rfl (lv_at hl 0 rfl) ?_
      refine lv_iconst (v := 0) hx hb dX12_read_208 (by decide) ?_
      obtain ⟨μ43, e44, h⟩ := bd_e h
      refine p_1250 C hH hS (jM_0 hW) dX12_read_209 (fun H locs hH hS => ?_)
      have hH := Hd.to e44 hH
      refine lv_iconst (v := 0) hx hb dX12_read_212 (by decide) ?_
      refine lv_istore_n (lv' := [(1, .int 0), (0, .ref (wB ω + 0))]) hx hb dX12_read_213 rfl hl (by decide) rfl (fun ls hl => ?_)
      exact wX12_read_l214 hW C hr hk FU _ _ H locs ls hH hS (lv_sub hl [1, 0] rfl) h
    · have h := ite_f hc h
      refine lv_aload_n hx hb dX12_read_181 rfl (lv_at hl 0 rfl) ?_
      refine g_1202 C hH (jM_0 hW) dX12_read_182 ?_
      exact h_iret C hr hk hH hS rfl (by cases h; rfl) dX12_read_185
  · have h := ite_f hc h
    refine lv_aload_n hx hb dX12_read_169 rfl (lv_at hl 0 rfl) ?_
    refine g_1200 C hH (jM_0 hW) dX12_read_170 ?_
    exact h_iret C hr hk hH hS rfl (by cases h; rfl) dX12_read_173
set_option maxHeartbeats 4000000 in
set_option maxRecDepth 100000 in
theorem wX12_read_b129 (hW : FWM ω) (C : Cx ω p s m args c cX12_read 2 RX12) (hr : meth.sig.returnType = some .int) (hk : meth.locks = false) {rr : Int32} {μo : Mem} {μ : Mem} {H : Heap} {locs : List Loc} {ls : Array Slot} (hH : Hd ω μ H) (hS : FS ω s H locs) (hl : lv_has ls 2 [(0, .ref (wB ω + 0))]) (h : fX12_read_b129 μ = some (rr, μo)) : W p l e (rmd 8) s m args below meth c H locs 0 0 (MQ below (QR ω (some (.int rr)) μo) args s 0 0 (wA ω)) (F0 m 129 ls []) := by
  have hx := C.1
  have hb := C.2.1
  unfold fX12_read_b129 at h
  refine lv_aload_n hx hb dX12_read_129 rfl (lv_at hl 0 rfl) ?_
  refine lv_aload_n hx hb dX12_read_130 rfl (lv_at hl 0 rfl) ?_
  refine g_1200 C hH (jM_0 hW) dX12_read_131 ?_
  refine lv_if_le (tgt := 144) hx hb dX12_read_134 (by decide) (fun hc => ?_) (fun hc => ?_)
  · have h := ite_t hc h
    refine lv_aload_n hx hb dX12_read_144 rfl (lv_at hl 0 rfl) ?_
    refine g_1202 C hH (jM_0 hW) dX12_read_145 ?_
    refine lv_if_le (tgt := 158) hx hb dX12_read_148 (by decide) (fun hc => ?_) (fun hc => ?_)
    · have h := ite_t hc h
      refine lv_iconst (v := (-1)) hx hb dX12_read_158 (by decide) ?_
      exact wX12_read_b159 hW C hr hk hH hS hl h
    · have h := ite_f hc h
      refine lv_aload_n hx hb dX12_read_151 rfl (lv_at hl 0 rfl) ?_
      refine g_1203 C hH (jM_0 hW) dX12_read_152 ?_
      refine lv_goto (tgt := 159) hx hb dX12_read_155 (by decide) ?_
      exact wX12_read_b159 hW C hr hk hH hS hl h
  · have h := ite_f hc h
    refine lv_aload_n hx hb dX12_read_137 rfl (lv_at hl 0 rfl) ?_
    refine g_1201 C hH (jM_0 hW) dX12_read_138 ?_
    refine lv_goto (tgt := 159) hx hb dX12_read_141 (by decide) ?_
    exact wX12_read_b159 hW C hr hk hH hS hl h
set_option maxHeartbeats 4000000 in
set_option maxRecDepth 100000 in
theorem wX12_read_e (hW : FWM ω) (C : Cx ω p s m args c cX12_read 2 RX12) (hr : meth.sig.returnType = some .int) (hk : meth.locks = false) {rr : Int32} {μo : Mem} {μ : Mem} {H : Heap} {locs : List Loc} {ls : Array Slot} (hH : Hd ω μ H) (hS : FS ω s H locs) (hl : lv_has ls 2 [(0, .ref (wB ω + 0))]) (h : fX12_read μ = some (rr, μo)) : W p l e (rmd 8) s m args below meth c H locs 0 0 (MQ below (QR ω (some (.int rr)) μo) args s 0 0 (wA ω)) (F0 m 0 ls []) := by
  have hx := C.1
  have hb := C.2.1
  unfold fX12_read at h
  refine lv_aload_n hx hb dX12_read_0 rfl (lv_at hl 0 rfl) ?_
  refine lv_aload_n hx hb dX12_read_1 rfl (lv_at hl 0 rfl) ?_
  refine g_1189 C hH (jM_0 hW) dX12_read_2 ?_
  obtain ⟨μ1, e2, h⟩ := bd_e h
  refine p_1191 C hH hS (jM_0 hW) dX12_read_5 (fun H locs hH hS => ?_)
  have hH := Hd.to e2 hH
  refine lv_iconst (v := 0) hx hb dX12_read_8 (by decide) ?_
  refine lv_istore_n (lv' := [(1, .int 0), (0, .ref (wB ω + 0))]) hx hb dX12_read_9 rfl hl (by decide) rfl (fun ls hl => ?_)
  refine wX12_read_l10 hW C hr hk (fun μ7 H locs ls hH hS hl h => ?_) FU _ _ H locs ls hH hS (lv_sub hl [1, 0] rfl) h
  refine lv_aload_n hx hb dX12_read_36 rfl (lv_at hl 0 rfl) ?_
  refine lv_iconst (v := 0) hx hb dX12_read_37 (by decide) ?_
  obtain ⟨μ8, e9, h⟩ := bd_e h
  refine p_1189 C hH hS (jM_0 hW) dX12_read_38 (fun H locs hH hS => ?_)
  have hH := Hd.to e9 hH
  refine lv_aload_n hx hb dX12_read_41 rfl (lv_at hl 0 rfl) ?_
  obtain ⟨μ11, e10, h⟩ := b1_e h
  refine cVv (as := []) (rest := []) (c_X12_cutsUp hW e10) C hl.1 hH hS rfl (jM_0 hW) rfl wd_34 wd_1413 mw_X12_cutsUp wd_1411 rfl (rm_ok (by decide) (by decide)) (Nat.le_of_ble_eq_true rfl) ⟨Nat.zero_le _, Nat.zero_le _⟩ (by decide) dX12_read_42 (fun H locs hH hS => ?_)
  refine lv_aload_n hx hb dX12_read_45 rfl (lv_at hl 0 rfl) ?_
  refine lv_iconst (v := 0) hx hb dX12_read_46 (by decide) ?_
  obtain ⟨μ12, e13, h⟩ := bd_e h
  refine p_1198 C hH hS (jM_0 hW) dX12_read_47 (fun H locs hH hS => ?_)
  have hH := Hd.to e13 hH
  refine lv_aload_n hx hb dX12_read_50 rfl (lv_at hl 0 rfl) ?_
  refine lv_iconst (v := 0) hx hb dX12_read_51 (by decide) ?_
  obtain ⟨μ14, e15, h⟩ := bd_e h
  refine p_1199 C hH hS (jM_0 hW) dX12_read_52 (fun H locs hH hS => ?_)
  have hH := Hd.to e15 hH
  refine lv_aload_n hx hb dX12_read_55 rfl (lv_at hl 0 rfl) ?_
  refine lv_iconst (v := 0) hx hb dX12_read_56 (by decide) ?_
  obtain ⟨μ16, e17, h⟩ := bd_e h
  refine p_1200 C hH hS (jM_0 hW) dX12_read_57 (fun H locs hH hS => ?_)
  have hH := Hd.to e17 hH
  refine lv_aload_n hx hb dX12_read_60 rfl (lv_at hl 0 rfl) ?_
  refine lv_iconst (v := 0) hx hb dX12_read_61 (by decide) ?_
  obtain ⟨μ18, e19, h⟩ := bd_e h
  refine p_1202 C hH hS (jM_0 hW) dX12_read_62 (fun H locs hH hS => ?_)
  have hH := Hd.to e19 hH
  refine lv_aload_n hx hb dX12_read_65 rfl (lv_at hl 0 rfl) ?_
  refine lv_iconst (v := 1) hx hb dX12_read_66 (by decide) ?_
  refine lv_aload_n hx hb dX12_read_67 rfl (lv_at hl 0 rfl) ?_
  refine g_1205 C hH (jM_0 hW) dX12_read_68 ?_
  refine lv_isub hx hb dX12_read_71 ?_
  obtain ⟨μ20, e21, h⟩ := bd_e h
  refine p_1206 C hH hS (jM_0 hW) dX12_read_72 (fun H locs hH hS => ?_)
  have hH := Hd.to e21 hH
  refine lv_aload_n hx hb dX12_read_75 rfl (lv_at hl 0 rfl) ?_
  refine lv_aload_n hx hb dX12_read_76 rfl (lv_at hl 0 rfl) ?_
  refine g_1206 C hH (jM_0 hW) dX12_read_77 ?_
  obtain ⟨μ23, e22, h⟩ := b1_e h
  refine cVv (as := [.int (μ20.1 0 19)]) (rest := []) (c_X12_plain hW e22) C hl.1 hH hS rfl (jM_0 hW) rfl wd_29 wd_1167 mw_X12_plain wd_1165 rfl (rm_ok (by decide) (by decide)) (Nat.le_of_ble_eq_true rfl) ⟨Nat.zero_le _, Nat.zero_le _⟩ (by decide) dX12_read_80 (fun H locs hH hS => ?_)
  refine lv_aload_n hx hb dX12_read_83 rfl (lv_at hl 0 rfl) ?_
  refine lv_sipush (v := 130) hx hb dX12_read_84 (by decide) ?_
  refine lv_aload_n hx hb dX12_read_87 rfl (lv_at hl 0 rfl) ?_
  refine g_1206 C hH (jM_0 hW) dX12_read_88 ?_
  refine lv_imul hx hb dX12_read_91 ?_
  obtain ⟨μ24, e25, h⟩ := bd_e h
  refine p_1220 C hH hS (jM_0 hW) dX12_read_92 (fun H locs hH hS => ?_)
  have hH := Hd.to e25 hH
  refine lv_aload_n hx hb dX12_read_95 rfl (lv_at hl 0 rfl) ?_
  refine lv_sipush (v := 420) hx hb dX12_read_96 (by decide) ?_
  refine lv_aload_n hx hb dX12_read_99 rfl (lv_at hl 0 rfl) ?_
  refine g_1206 C hH (jM_0 hW) dX12_read_100 ?_
  refine lv_imul hx hb dX12_read_103 ?_
  obtain ⟨μ26, e27, h⟩ := bd_e h
  refine p_1226 C hH hS (jM_0 hW) dX12_read_104 (fun H locs hH hS => ?_)
  have hH := Hd.to e27 hH
  refine wX12_read_l107 hW C hr hk (fun μ32 H locs ls hH hS hl h => ?_) FU _ H locs ls hH hS hl h
  exact wX12_read_b129 hW C hr hk hH hS hl h
theorem c_X12_read {l : Launch} {ω : WW} (hW : FWM ω) {μ : Mem} {rr : Int32} {μo : Mem} (h : fX12_read μ = some (rr, μo)) : Con l yX12_read cX12_read 2 (some .int) 8 ω [.ref (wB ω + 0)] μ (some (.int rr)) μo :=
  con_of (by decide) (Nat.le_of_ble_eq_true rfl) (fun p e s m args below meth c ls C hr hk hl hH hS => wX12_read_e hW C hr hk hH hS (lv_sub hl [0] rfl) h)
set_option maxHeartbeats 4000000 in
set_option maxRecDepth 100000 in
theorem wX12_restore_s22 (hW : FWM ω) (C : Cx ω p s m args c cX12_restore 3 RX12) (hr : meth.sig.returnType = some .boolean) (hk : meth.locks = false) {rr : Int32} {μo : Mem} {x1 : Int32} {x2 : Int32} {rec : Int32 → Mem → Option (Int32 × Mem)} (hrec : ∀ (z2 : Int32) (ν : Mem) (H : Heap) (locs : List Loc) (ls : Array Slot), Hd ω ν H → FS ω s H locs → lv_has ls 3 [(0, .ref (wB ω + 0)), (1, .int x1), (2, .int z2)] → rec z2 ν = some (rr, μo) → W p l e (rmd 2) s m args below meth c H locs 0 0 (MQ below (QR ω (some (.int rr)) μo) args s 0 0 (wA ω)) (F0 m 22 ls [])) {μ : Mem} {H : Heap} {locs : List Loc} {ls : Array Slot} (hH : Hd ω μ H) (hS : FS ω s H locs) (hl : lv_has ls 3 [(0, .ref (wB ω + 0)), (1, .int x1), (2, .int x2)]) (h : fX12_restore_s22 rec x1 x2 μ = some (rr, μo)) : W p l e (rmd 2) s m args below meth c H locs 0 0 (MQ below (QR ω (some (.int rr)) μo) args s 0 0 (wA ω)) (F0 m 22 ls []) := by
  have hx := C.1
  have hb := C.2.1
  unfold fX12_restore_s22 at h
  refine lv_iload_n hx hb dX12_restore_22 rfl (lv_at hl 2 rfl) ?_
  refine lv_bipush (v := 39) hx hb dX12_restore_23 (by decide) ?_
  refine lv_icmp_ge (tgt := 51) hx hb dX12_restore_25 (by decide) (fun hc => ?_) (fun hc => ?_)
  · have h := ite_t hc h
    refine lv_aload_n hx hb dX12_restore_51 rfl (lv_at hl 0 rfl) ?_
    refine lv_iconst (v := 0) hx hb dX12_restore_52 (by decide) ?_
    obtain ⟨μ4, e5, h⟩ := bd_e h
    refine p_1240 C hH hS (jM_0 hW) dX12_restore_53 (fun H locs hH hS => ?_)
    have hH := Hd.to e5 hH
    refine lv_iconst (v := 1) hx hb dX12_restore_56 (by decide) ?_
    exact h_zret (y := 1) C hr hk hH hS rfl (by cases h; rfl) dX12_restore_57
  · have h := ite_f hc h
    refine lv_aload_n hx hb dX12_restore_28 rfl (lv_at hl 0 rfl) ?_
    refine g_1234 (i := 31) C hH (jM_0 hW) rfl dX12_restore_29 ?_
    refine lv_iload_n hx hb dX12_restore_32 rfl (lv_at hl 2 rfl) ?_
    refine lv_aload_n hx hb dX12_restore_33 rfl (lv_at hl 0 rfl) ?_
    refine g_1255 (i := 48) C hH (jM_0 hW) rfl dX12_restore_34 ?_
    refine lv_bipush (v := 39) hx hb dX12_restore_37 (by decide) ?_
    refine lv_iload_n hx hb dX12_restore_39 rfl (lv_at hl 1 rfl) ?_
    refine lv_imul hx hb dX12_restore_40 ?_
    refine lv_iload_n hx hb dX12_restore_41 rfl (lv_at hl 2 rfl) ?_
    refine lv_iadd hx hb dX12_restore_42 ?_
    obtain ⟨b6, h⟩ := gd_e h
    refine h_iald C hH (jM_48 hW).1 (jM_48 hW).2.1 b6 dX12_restore_43 ?_
    obtain ⟨b7, h⟩ := gd_e h
    obtain ⟨μ8, e9, h⟩ := bd_e h
    refine h_iast C hH hS (jM_31 hW).1 (jM_31 hW).2.1 b7 dX12_restore_44 (fun H locs hH hS => ?_)
    have hH := Hd.to e9 hH
    refine lv_iinc (v := x2 + 1) (lv' := [(2, .int (x2 + 1)), (0, .ref (wB ω + 0)), (1, .int x1)]) hx hb dX12_restore_45 hl (k := 2) rfl rfl (by decide) rfl (fun ls hl => ?_)
    refine lv_goto (tgt := 22) hx hb dX12_restore_48 (by decide) ?_
    exact hrec _ _ H locs ls hH hS (lv_sub hl [1, 2, 0] rfl) h
theorem wX12_restore_l22 (hW : FWM ω) (C : Cx ω p s m args c cX12_restore 3 RX12) (hr : meth.sig.returnType = some .boolean) (hk : meth.locks = false) {rr : Int32} {μo : Mem} {x1 : Int32} : ∀ (n : Nat) (x2 : Int32) (μ : Mem) (H : Heap) (locs : List Loc) (ls : Array Slot), Hd ω μ H → FS ω s H locs → lv_has ls 3 [(0, .ref (wB ω + 0)), (1, .int x1), (2, .int x2)] → fX12_restore_l22 x1 n x2 μ = some (rr, μo) → W p l e (rmd 2) s m args below meth c H locs 0 0 (MQ below (QR ω (some (.int rr)) μo) args s 0 0 (wA ω)) (F0 m 22 ls []) := by
  intro n
  induction n with
  | zero => intro x2 μ H locs ls hH hS hl h; cases h
  | succ n ih => intro x2 μ H locs ls hH hS hl h; exact wX12_restore_s22 hW C hr hk ih hH hS hl h
set_option maxHeartbeats 4000000 in
set_option maxRecDepth 100000 in
theorem wX12_restore_e (hW : FWM ω) (C : Cx ω p s m args c cX12_restore 3 RX12) (hr : meth.sig.returnType = some .boolean) (hk : meth.locks = false) {rr : Int32} {μo : Mem} {x1 : Int32} {μ : Mem} {H : Heap} {locs : List Loc} {ls : Array Slot} (hH : Hd ω μ H) (hS : FS ω s H locs) (hl : lv_has ls 3 [(0, .ref (wB ω + 0)), (1, .int x1)]) (h : fX12_restore x1 μ = some (rr, μo)) : W p l e (rmd 2) s m args below meth c H locs 0 0 (MQ below (QR ω (some (.int rr)) μo) args s 0 0 (wA ω)) (F0 m 0 ls []) := by
  have hx := C.1
  have hb := C.2.1
  unfold fX12_restore at h
  refine lv_iload_n hx hb dX12_restore_0 rfl (lv_at hl 1 rfl) ?_
  refine lv_iconst (v := 0) hx hb dX12_restore_1 (by decide) ?_
  refine lv_iconst (v := 2) hx hb dX12_restore_2 (by decide) ?_
  obtain ⟨r2, e1, h⟩ := b1_e h
  refine cSi (as := [.int x1, .int 0, .int 2]) (rest := []) (c_X12_in e1) C hl.1 hH hS rfl wd_1506 mw_X12_in wd_1505 rfl (rm_ok (by decide) (by decide)) (Nat.le_of_ble_eq_true rfl) ⟨Nat.zero_le _, Nat.zero_le _⟩ dX12_restore_3 (fun H locs hH hS => ?_)
  refine lv_if_eq (tgt := 18) hx hb dX12_restore_6 (by decide) (fun hc => ?_) (fun hc => ?_)
  · have h := ite_t hc h
    refine lv_iconst (v := 0) hx hb dX12_restore_18 (by decide) ?_
    exact h_zret (y := 0) C hr hk hH hS rfl (by cases h; rfl) dX12_restore_19
  · have h := ite_f hc h
    refine lv_aload_n hx hb dX12_restore_9 rfl (lv_at hl 0 rfl) ?_
    refine g_1254 (i := 47) C hH (jM_0 hW) rfl dX12_restore_10 ?_
    refine lv_iload_n hx hb dX12_restore_13 rfl (lv_at hl 1 rfl) ?_
    obtain ⟨b3, h⟩ := gd_e h
    refine h_zald C hH (jM_47 hW).1 (jM_47 hW).2.1 b3 dX12_restore_14 ?_
    refine lv_if_ne (tgt := 20) hx hb dX12_restore_15 (by decide) (fun hc => ?_) (fun hc => ?_)
    · have h := ite_f hc h
      refine lv_iconst (v := 0) hx hb dX12_restore_20 (by decide) ?_
      refine lv_istore_n (lv' := [(2, .int 0), (0, .ref (wB ω + 0)), (1, .int x1)]) hx hb dX12_restore_21 rfl hl (by decide) rfl (fun ls hl => ?_)
      exact wX12_restore_l22 hW C hr hk FU _ _ H locs ls hH hS (lv_sub hl [1, 2, 0] rfl) h
    · have h := ite_t hc h
      refine lv_iconst (v := 0) hx hb dX12_restore_18 (by decide) ?_
      exact h_zret (y := 0) C hr hk hH hS rfl (by cases h; rfl) dX12_restore_19
theorem c_X12_restore {l : Launch} {ω : WW} {x1 : Int32} (hW : FWM ω) {μ : Mem} {rr : Int32} {μo : Mem} (h : fX12_restore x1 μ = some (rr, μo)) : Con l yX12_restore cX12_restore 3 (some .boolean) 2 ω [.ref (wB ω + 0), .int x1] μ (some (.int rr)) μo :=
  con_of (by decide) (Nat.le_of_ble_eq_true rfl) (fun p e s m args below meth c ls C hr hk hl hH hS => wX12_restore_e hW C hr hk hH hS (lv_sub hl [0, 1] rfl) h)
set_option maxHeartbeats 4000000 in
set_option maxRecDepth 100000 in
theorem wX12_roofsBy_s9 (hW : FWM ω) (C : Cx ω p s m args c cX12_roofsBy 6 RX12) (hr : meth.sig.returnType = some .int) (hk : meth.locks = false) {rr : Int32} {μo : Mem} {x2 : Int32} {x3 : Int32} {rec : Int32 → Int32 → Mem → Option (Int32 × Mem)} (hrec : ∀ (z2 : Int32) (z3 : Int32) (ν : Mem) (H : Heap) (locs : List Loc) (ls : Array Slot), Hd ω ν H → FS ω s H locs → lv_has ls 6 [(0, .ref (wB ω + 0)), (2, .int z2), (3, .int z3)] → rec z2 z3 ν = some (rr, μo) → W p l e (rmd 2) s m args below meth c H locs 0 0 (MQ below (QR ω (some (.int rr)) μo) args s 0 0 (wA ω)) (F0 m 9 ls [])) {K : Mem → Option (Int32 × Mem)} (hK : ∀ (ν : Mem) (H : Heap) (locs : List Loc) (ls : Array Slot), Hd ω ν H → FS ω s H locs → lv_has ls 6 [(0, .ref (wB ω + 0))] → K ν = some (rr, μo) → W p l e (rmd 2) s m args below meth c H locs 0 0 (MQ below (QR ω (some (.int rr)) μo) args s 0 0 (wA ω)) (F0 m 41 ls [])) {μ : Mem} {H : Heap} {locs : List Loc} {ls : Array Slot} (hH : Hd ω μ H) (hS : FS ω s H locs) (hl : lv_has ls 6 [(0, .ref (wB ω + 0)), (2, .int x2), (3, .int x3)]) (h : fX12_roofsBy_s9 rec K x2 x3 μ = some (rr, μo)) : W p l e (rmd 2) s m args below meth c H locs 0 0 (MQ below (QR ω (some (.int rr)) μo) args s 0 0 (wA ω)) (F0 m 9 ls []) := by
  have hx := C.1
  have hb := C.2.1
  unfold fX12_roofsBy_s9 at h
  refine lv_iload_n hx hb dX12_roofsBy_9 rfl (lv_at hl 2 rfl) ?_
  refine lv_if_lt (tgt := 41) hx hb dX12_roofsBy_10 (by decide) (fun hc => ?_) (fun hc => ?_)
  · have h := ite_t hc h
    exact hK _ H locs ls hH hS (lv_sub hl [0] rfl) h
  · have h := ite_f hc h
    refine lv_aload_n hx hb dX12_roofsBy_13 rfl (lv_at hl 0 rfl) ?_
    refine g_1246 (i := 40) C hH (jM_0 hW) rfl dX12_roofsBy_14 ?_
    refine lv_iload_n hx hb dX12_roofsBy_17 rfl (lv_at hl 2 rfl) ?_
    refine lv_iload_n hx hb dX12_roofsBy_18 rfl (lv_at hl 1 rfl) ?_
    refine lv_bipush (v := 6) hx hb dX12_roofsBy_19 (by decide) ?_
    refine lv_irem hx hb dX12_roofsBy_21 (by decide) ?_
    obtain ⟨b5, h⟩ := gd_e h
    obtain ⟨μ6, e7, h⟩ := bd_e h
    refine h_iast C hH hS (jM_40 hW).1 (jM_40 hW).2.1 b5 dX12_roofsBy_22 (fun H locs hH hS => ?_)
    have hH := Hd.to e7 hH
    refine lv_aload_n hx hb dX12_roofsBy_23 rfl (lv_at hl 0 rfl) ?_
    refine g_1248 (i := 42) C hH (jM_0 hW) rfl dX12_roofsBy_24 ?_
    refine lv_iload_n hx hb dX12_roofsBy_27 rfl (lv_at hl 2 rfl) ?_
    refine lv_iconst (v := 0) hx hb dX12_roofsBy_28 (by decide) ?_
    obtain ⟨b8, h⟩ := gd_e h
    obtain ⟨μ9, e10, h⟩ := bd_e h
    refine h_iast C hH hS (jM_42 hW).1 (jM_42 hW).2.1 b8 dX12_roofsBy_29 (fun H locs hH hS => ?_)
    have hH := Hd.to e10 hH
    refine lv_iload_n hx hb dX12_roofsBy_30 rfl (lv_at hl 1 rfl) ?_
    refine lv_bipush (v := 6) hx hb dX12_roofsBy_31 (by decide) ?_
    refine lv_idiv hx hb dX12_roofsBy_33 (by decide) ?_
    obtain ⟨y11, e12, h⟩ := bd_e h
    refine h_topi e12 ?_
    refine lv_istore_n (lv' := [(2, .int y11), (0, .ref (wB ω + 0)), (3, .int x3)]) hx hb dX12_roofsBy_34 rfl hl (by decide) rfl (fun ls hl => ?_)
    refine lv_iinc (v := x3 + (-1)) (lv' := [(3, .int (x3 + (-1))), (2, .int y11), (0, .ref (wB ω + 0))]) hx hb dX12_roofsBy_35 hl (k := 2) rfl rfl (by decide) rfl (fun ls hl => ?_)
    refine lv_goto (tgt := 9) hx hb dX12_roofsBy_38 (by decide) ?_
    exact hrec _ _ _ H locs ls hH hS (lv_sub hl [2, 1, 0] rfl) h
theorem wX12_roofsBy_l9 (hW : FWM ω) (C : Cx ω p s m args c cX12_roofsBy 6 RX12) (hr : meth.sig.returnType = some .int) (hk : meth.locks = false) {rr : Int32} {μo : Mem} {K : Mem → Option (Int32 × Mem)} (hK : ∀ (ν : Mem) (H : Heap) (locs : List Loc) (ls : Array Slot), Hd ω ν H → FS ω s H locs → lv_has ls 6 [(0, .ref (wB ω + 0))] → K ν = some (rr, μo) → W p l e (rmd 2) s m args below meth c H locs 0 0 (MQ below (QR ω (some (.int rr)) μo) args s 0 0 (wA ω)) (F0 m 41 ls [])) : ∀ (n : Nat) (x2 : Int32) (x3 : Int32) (μ : Mem) (H : Heap) (locs : List Loc) (ls : Array Slot), Hd ω μ H → FS ω s H locs → lv_has ls 6 [(0, .ref (wB ω + 0)), (2, .int x2), (3, .int x3)] → fX12_roofsBy_l9 K n x2 x3 μ = some (rr, μo) → W p l e (rmd 2) s m args below meth c H locs 0 0 (MQ below (QR ω (some (.int rr)) μo) args s 0 0 (wA ω)) (F0 m 9 ls []) := by
  intro n
  induction n with
  | zero => intro x2 x3 μ H locs ls hH hS hl h; cases h
  | succ n ih => intro x2 x3 μ H locs ls hH hS hl h; exact wX12_roofsBy_s9 hW C hr hk ih hK hH hS hl h
set_option maxHeartbeats 4000000 in
set_option maxRecDepth 100000 in
theorem wX12_roofsBy_b82 (hW : FWM ω) (C : Cx ω p s m args c cX12_roofsBy 6 RX12) (hr : meth.sig.returnType = some .int) (hk : meth.locks = false) {rr : Int32} {μo : Mem} {x3 : Int32} {x4 : Int32} {x5 : Int32} {rec : Int32 → Int32 → Mem → Option (Int32 × Mem)} (hrec : ∀ (z3 : Int32) (z4 : Int32) (ν : Mem) (H : Heap) (locs : List Loc) (ls : Array Slot), Hd ω ν H → FS ω s H locs → lv_has ls 6 [(0, .ref (wB ω + 0)), (3, .int z3), (4, .int z4)] → rec z3 z4 ν = some (rr, μo) → W p l e (rmd 2) s m args below meth c H locs 0 0 (MQ below (QR ω (some (.int rr)) μo) args s 0 0 (wA ω)) (F0 m 46 ls [])) {μ : Mem} {H : Heap} {locs : List Loc} {ls : Array Slot} (hH : Hd ω μ H) (hS : FS ω s H locs) (hl : lv_has ls 6 [(0, .ref (wB ω + 0)), (3, .int x3), (4, .int x4), (5, .int x5)]) (h : fX12_roofsBy_b82 rec x3 x4 x5 μ = some (rr, μo)) : W p l e (rmd 2) s m args below meth c H locs 0 0 (MQ below (QR ω (some (.int rr)) μo) args s 0 0 (wA ω)) (F0 m 82 ls []) := by
  have hx := C.1
  have hb := C.2.1
  unfold fX12_roofsBy_b82 at h
  refine lv_aload_n hx hb dX12_roofsBy_82 rfl (lv_at hl 0 rfl) ?_
  refine g_1248 (i := 42) C hH (jM_0 hW) rfl dX12_roofsBy_83 ?_
  refine lv_iload hx hb dX12_roofsBy_86 (lv_at hl 3 rfl) ?_
  refine lv_dup2_11 hx hb dX12_roofsBy_88 rfl rfl ?_
  obtain ⟨b19, h⟩ := gd_e h
  refine h_iald C hH (jM_42 hW).1 (jM_42 hW).2.1 b19 dX12_roofsBy_89 ?_
  refine lv_aload_n hx hb dX12_roofsBy_90 rfl (lv_at hl 0 rfl) ?_
  refine lv_iload hx hb dX12_roofsBy_91 (lv_at hl 2 rfl) ?_
  obtain ⟨r21, e20, h⟩ := b1_e h
  refine cVi (as := [.int x4]) (rest := [.int (μ.1 42 x5.toNatClampNeg), .int x5, .ref (wB ω + 42)]) (c_X12_panesAt hW e20) C hl.1 hH hS rfl (jM_0 hW) rfl wd_55 wd_1514 mw_X12_panesAt wd_1512 rfl (rm_ok (by decide) (by decide)) (Nat.le_of_ble_eq_true rfl) ⟨Nat.zero_le _, Nat.zero_le _⟩ (by decide) dX12_roofsBy_93 (fun H locs hH hS => ?_)
  refine lv_iadd hx hb dX12_roofsBy_96 ?_
  obtain ⟨b22, h⟩ := gd_e h
  obtain ⟨μ23, e24, h⟩ := bd_e h
  refine h_iast C hH hS (jM_42 hW).1 (jM_42 hW).2.1 b22 dX12_roofsBy_97 (fun H locs hH hS => ?_)
  have hH := Hd.to e24 hH
  refine lv_aload_n hx hb dX12_roofsBy_98 rfl (lv_at hl 0 rfl) ?_
  refine g_1248 (i := 42) C hH (jM_0 hW) rfl dX12_roofsBy_99 ?_
  refine lv_iload hx hb dX12_roofsBy_102 (lv_at hl 3 rfl) ?_
  obtain ⟨b25, h⟩ := gd_e h
  refine h_iald C hH (jM_42 hW).1 (jM_42 hW).2.1 b25 dX12_roofsBy_104 ?_
  refine lv_aload_n hx hb dX12_roofsBy_105 rfl (lv_at hl 0 rfl) ?_
  refine g_1215 (i := 16) C hH (jM_0 hW) rfl dX12_roofsBy_106 ?_
  refine lv_aload_n hx hb dX12_roofsBy_109 rfl (lv_at hl 0 rfl) ?_
  refine g_1205 C hH (jM_0 hW) dX12_roofsBy_110 ?_
  obtain ⟨b26, h⟩ := gd_e h
  refine h_iald C hH (jM_16 hW).1 (jM_16 hW).2.1 b26 dX12_roofsBy_113 ?_
  refine lv_icmp_le (tgt := 120) hx hb dX12_roofsBy_114 (by decide) (fun hc => ?_) (fun hc => ?_)
  · have h := ite_t hc h
    refine lv_iinc (v := x4 + 1) (lv' := [(4, .int (x4 + 1)), (0, .ref (wB ω + 0)), (3, .int x3), (5, .int x5)]) hx hb dX12_roofsBy_120 hl (k := 2) rfl rfl (by decide) rfl (fun ls hl => ?_)
    refine lv_goto (tgt := 46) hx hb dX12_roofsBy_123 (by decide) ?_
    exact hrec _ _ _ H locs ls hH hS (lv_sub hl [1, 2, 0] rfl) h
  · have h := ite_f hc h
    refine lv_bipush (v := 7) hx hb dX12_roofsBy_117 (by decide) ?_
    exact h_iret C hr hk hH hS rfl (by cases h; rfl) dX12_roofsBy_119
set_option maxHeartbeats 4000000 in
set_option maxRecDepth 100000 in
theorem wX12_roofsBy_s46 (hW : FWM ω) (C : Cx ω p s m args c cX12_roofsBy 6 RX12) (hr : meth.sig.returnType = some .int) (hk : meth.locks = false) {rr : Int32} {μo : Mem} {x3 : Int32} {x4 : Int32} {rec : Int32 → Int32 → Mem → Option (Int32 × Mem)} (hrec : ∀ (z3 : Int32) (z4 : Int32) (ν : Mem) (H : Heap) (locs : List Loc) (ls : Array Slot), Hd ω ν H → FS ω s H locs → lv_has ls 6 [(0, .ref (wB ω + 0)), (3, .int z3), (4, .int z4)] → rec z3 z4 ν = some (rr, μo) → W p l e (rmd 2) s m args below meth c H locs 0 0 (MQ below (QR ω (some (.int rr)) μo) args s 0 0 (wA ω)) (F0 m 46 ls [])) {μ : Mem} {H : Heap} {locs : List Loc} {ls : Array Slot} (hH : Hd ω μ H) (hS : FS ω s H locs) (hl : lv_has ls 6 [(0, .ref (wB ω + 0)), (3, .int x3), (4, .int x4)]) (h : fX12_roofsBy_s46 rec x3 x4 μ = some (rr, μo)) : W p l e (rmd 2) s m args below meth c H locs 0 0 (MQ below (QR ω (some (.int rr)) μo) args s 0 0 (wA ω)) (F0 m 46 ls []) := by
  have hx := C.1
  have hb := C.2.1
  unfold fX12_roofsBy_s46 at h
  refine lv_iload hx hb dX12_roofsBy_46 (lv_at hl 2 rfl) ?_
  refine lv_aload_n hx hb dX12_roofsBy_48 rfl (lv_at hl 0 rfl) ?_
  obtain ⟨r15, e14, h⟩ := b1_e h
  refine cVi (as := []) (rest := [.int x4]) (c_X12_many hW e14) C hl.1 hH hS rfl (jM_0 hW) rfl wd_31 wd_1182 mw_X12_many wd_1180 rfl (rm_ok (by decide) (by decide)) (Nat.le_of_ble_eq_true rfl) ⟨Nat.zero_le _, Nat.zero_le _⟩ (by decide) dX12_roofsBy_49 (fun H locs hH hS => ?_)
  refine lv_icmp_ge (tgt := 126) hx hb dX12_roofsBy_52 (by decide) (fun hc => ?_) (fun hc => ?_)
  · have h := ite_t hc h
    refine lv_iload_n hx hb dX12_roofsBy_126 rfl (lv_at hl 1 rfl) ?_
    exact h_iret C hr hk hH hS rfl (by cases h; rfl) dX12_roofsBy_127
  · have h := ite_f hc h
    refine lv_aload_n hx hb dX12_roofsBy_55 rfl (lv_at hl 0 rfl) ?_
    refine g_1246 (i := 40) C hH (jM_0 hW) rfl dX12_roofsBy_56 ?_
    refine lv_iload hx hb dX12_roofsBy_59 (lv_at hl 2 rfl) ?_
    obtain ⟨b16, h⟩ := gd_e h
    refine h_iald C hH (jM_40 hW).1 (jM_40 hW).2.1 b16 dX12_roofsBy_61 ?_
    obtain ⟨y17, e18, h⟩ := bd_e h
    refine h_topi e18 ?_
    refine lv_istore (lv' := [(5, .int y17), (0, .ref (wB ω + 0)), (3, .int x3), (4, .int x4)]) hx hb dX12_roofsBy_62 hl (by decide) rfl (fun ls hl => ?_)
    refine lv_iload hx hb dX12_roofsBy_64 (lv_at hl 0 rfl) ?_
    refine lv_iload_n hx hb dX12_roofsBy_66 rfl (lv_at hl 2 rfl) ?_
    refine lv_icmp_le (tgt := 73) hx hb dX12_roofsBy_67 (by decide) (fun hc => ?_) (fun hc => ?_)
    · have h := ite_t hc h
      refine lv_iload hx hb dX12_roofsBy_73 (lv_at hl 0 rfl) ?_
      refine lv_iload_n hx hb dX12_roofsBy_75 rfl (lv_at hl 2 rfl) ?_
      refine lv_icmp_ne (tgt := 82) hx hb dX12_roofsBy_76 (by decide) (fun hc => ?_) (fun hc => ?_)
      · have h := ite_f hc h
        exact wX12_roofsBy_b82 hW C hr hk hrec hH hS (lv_sub hl [1, 2, 3, 0] rfl) h
      · have h := ite_t hc h
        refine lv_iinc (v := x3 + 1) (lv' := [(3, .int (x3 + 1)), (5, .int y17), (0, .ref (wB ω + 0)), (4, .int x4)]) hx hb dX12_roofsBy_79 hl (k := 2) rfl rfl (by decide) rfl (fun ls hl => ?_)
        exact wX12_roofsBy_b82 hW C hr hk hrec hH hS (lv_sub hl [2, 0, 3, 1] rfl) h
    · have h := ite_f hc h
      refine lv_bipush (v := 7) hx hb dX12_roofsBy_70 (by decide) ?_
      exact h_iret C hr hk hH hS rfl (by cases h; rfl) dX12_roofsBy_72
theorem wX12_roofsBy_l46 (hW : FWM ω) (C : Cx ω p s m args c cX12_roofsBy 6 RX12) (hr : meth.sig.returnType = some .int) (hk : meth.locks = false) {rr : Int32} {μo : Mem} : ∀ (n : Nat) (x3 : Int32) (x4 : Int32) (μ : Mem) (H : Heap) (locs : List Loc) (ls : Array Slot), Hd ω μ H → FS ω s H locs → lv_has ls 6 [(0, .ref (wB ω + 0)), (3, .int x3), (4, .int x4)] → fX12_roofsBy_l46 n x3 x4 μ = some (rr, μo) → W p l e (rmd 2) s m args below meth c H locs 0 0 (MQ below (QR ω (some (.int rr)) μo) args s 0 0 (wA ω)) (F0 m 46 ls []) := by
  intro n
  induction n with
  | zero => intro x3 x4 μ H locs ls hH hS hl h; cases h
  | succ n ih => intro x3 x4 μ H locs ls hH hS hl h; exact wX12_roofsBy_s46 hW C hr hk ih hH hS hl h
set_option maxHeartbeats 4000000 in
set_option maxRecDepth 100000 in
theorem wX12_roofsBy_e (hW : FWM ω) (C : Cx ω p s m args c cX12_roofsBy 6 RX12) (hr : meth.sig.returnType = some .int) (hk : meth.locks = false) {rr : Int32} {μo : Mem} {x1 : Int32} {μ : Mem} {H : Heap} {locs : List Loc} {ls : Array Slot} (hH : Hd ω μ H) (hS : FS ω s H locs) (hl : lv_has ls 6 [(0, .ref (wB ω + 0)), (1, .int x1)]) (h : fX12_roofsBy x1 μ = some (rr, μo)) : W p l e (rmd 2) s m args below meth c H locs 0 0 (MQ below (QR ω (some (.int rr)) μo) args s 0 0 (wA ω)) (F0 m 0 ls []) := by
  have hx := C.1
  have hb := C.2.1
  unfold fX12_roofsBy at h
  refine lv_iload_n hx hb dX12_roofsBy_0 rfl (lv_at hl 1 rfl) ?_
  refine lv_istore_n (lv' := [(2, .int x1), (0, .ref (wB ω + 0)), (1, .int x1)]) hx hb dX12_roofsBy_1 rfl hl (by decide) rfl (fun ls hl => ?_)
  refine lv_aload_n hx hb dX12_roofsBy_2 rfl (lv_at hl 1 rfl) ?_
  obtain ⟨r2, e1, h⟩ := b1_e h
  refine cVi (as := []) (rest := []) (c_X12_many hW e1) C hl.1 hH hS rfl (jM_0 hW) rfl wd_31 wd_1182 mw_X12_many wd_1180 rfl (rm_ok (by decide) (by decide)) (Nat.le_of_ble_eq_true rfl) ⟨Nat.zero_le _, Nat.zero_le _⟩ (by decide) dX12_roofsBy_3 (fun H locs hH hS => ?_)
  refine lv_iconst (v := 1) hx hb dX12_roofsBy_6 (by decide) ?_
  refine lv_isub hx hb dX12_roofsBy_7 ?_
  obtain ⟨y3, e4, h⟩ := bd_e h
  refine h_topi e4 ?_
  refine lv_istore_n (lv' := [(3, .int y3), (2, .int x1), (0, .ref (wB ω + 0)), (1, .int x1)]) hx hb dX12_roofsBy_8 rfl hl (by decide) rfl (fun ls hl => ?_)
  refine wX12_roofsBy_l9 hW C hr hk (fun μ13 H locs ls hH hS hl h => ?_) FU _ _ _ H locs ls hH hS (lv_sub hl [2, 1, 0] rfl) h
  refine lv_iconst (v := 0) hx hb dX12_roofsBy_41 (by decide) ?_
  refine lv_istore_n (lv' := [(3, .int 0), (0, .ref (wB ω + 0))]) hx hb dX12_roofsBy_42 rfl hl (by decide) rfl (fun ls hl => ?_)
  refine lv_iconst (v := 0) hx hb dX12_roofsBy_43 (by decide) ?_
  refine lv_istore (lv' := [(4, .int 0), (3, .int 0), (0, .ref (wB ω + 0))]) hx hb dX12_roofsBy_44 hl (by decide) rfl (fun ls hl => ?_)
  exact wX12_roofsBy_l46 hW C hr hk FU _ _ _ H locs ls hH hS (lv_sub hl [2, 1, 0] rfl) h
theorem c_X12_roofsBy {l : Launch} {ω : WW} {x1 : Int32} (hW : FWM ω) {μ : Mem} {rr : Int32} {μo : Mem} (h : fX12_roofsBy x1 μ = some (rr, μo)) : Con l yX12_roofsBy cX12_roofsBy 6 (some .int) 2 ω [.ref (wB ω + 0), .int x1] μ (some (.int rr)) μo :=
  con_of (by decide) (Nat.le_of_ble_eq_true rfl) (fun p e s m args below meth c ls C hr hk hl hH hS => wX12_roofsBy_e hW C hr hk hH hS (lv_sub hl [0, 1] rfl) h)
set_option maxHeartbeats 4000000 in
set_option maxRecDepth 100000 in
theorem wX12_roofs_s19 (hW : FWM ω) (C : Cx ω p s m args c cX12_roofs 7 RX12) (hr : meth.sig.returnType = some .int) (hk : meth.locks = false) {rr : Int32} {μo : Mem} {x1 : Int32} {x2 : Int32} {x3 : Int32} {μ : Mem} {rec : Int32 → Int32 → Option (Int32 × Mem)} (hrec : ∀ (z2 : Int32) (z3 : Int32) (H : Heap) (locs : List Loc) (ls : Array Slot), Hd ω μ H → FS ω s H locs → lv_has ls 7 [(0, .ref (wB ω + 0)), (1, .int x1), (2, .int z2), (3, .int z3)] → rec z2 z3 = some (rr, μo) → W p l e (rmd 3) s m args below meth c H locs 0 0 (MQ below (QR ω (some (.int rr)) μo) args s 0 0 (wA ω)) (F0 m 19 ls [])) {K : Int32 → Option (Int32 × Mem)} (hK : ∀ (z2 : Int32) (H : Heap) (locs : List Loc) (ls : Array Slot), Hd ω μ H → FS ω s H locs → lv_has ls 7 [(0, .ref (wB ω + 0)), (1, .int x1), (2, .int z2)] → K z2 = some (rr, μo) → W p l e (rmd 3) s m args below meth c H locs 0 0 (MQ below (QR ω (some (.int rr)) μo) args s 0 0 (wA ω)) (F0 m 38 ls [])) {H : Heap} {locs : List Loc} {ls : Array Slot} (hH : Hd ω μ H) (hS : FS ω s H locs) (hl : lv_has ls 7 [(0, .ref (wB ω + 0)), (1, .int x1), (2, .int x2), (3, .int x3)]) (h : fX12_roofs_s19 rec K x2 x3 μ = some (rr, μo)) : W p l e (rmd 3) s m args below meth c H locs 0 0 (MQ below (QR ω (some (.int rr)) μo) args s 0 0 (wA ω)) (F0 m 19 ls []) := by
  have hx := C.1
  have hb := C.2.1
  unfold fX12_roofs_s19 at h
  refine lv_iload_n hx hb dX12_roofs_19 rfl (lv_at hl 3 rfl) ?_
  refine lv_aload_n hx hb dX12_roofs_20 rfl (lv_at hl 0 rfl) ?_
  obtain ⟨r2, e1, h⟩ := b1_e h
  refine cVi (as := []) (rest := [.int x3]) (c_X12_many hW e1) C hl.1 hH hS rfl (jM_0 hW) rfl wd_31 wd_1182 mw_X12_many wd_1180 rfl (rm_ok (by decide) (by decide)) (Nat.le_of_ble_eq_true rfl) ⟨Nat.zero_le _, Nat.zero_le _⟩ (by decide) dX12_roofs_21 (fun H locs hH hS => ?_)
  refine lv_icmp_ge (tgt := 38) hx hb dX12_roofs_24 (by decide) (fun hc => ?_) (fun hc => ?_)
  · have h := ite_t hc h
    exact hK _ H locs ls hH hS (lv_sub hl [0, 1, 2] rfl) h
  · have h := ite_f hc h
    refine lv_iload_n hx hb dX12_roofs_27 rfl (lv_at hl 2 rfl) ?_
    refine lv_bipush (v := 6) hx hb dX12_roofs_28 (by decide) ?_
    refine lv_imul hx hb dX12_roofs_30 ?_
    obtain ⟨y3, e4, h⟩ := bd_e h
    refine h_topi e4 ?_
    refine lv_istore_n (lv' := [(2, .int y3), (0, .ref (wB ω + 0)), (1, .int x1), (3, .int x3)]) hx hb dX12_roofs_31 rfl hl (by decide) rfl (fun ls hl => ?_)
    refine lv_iinc (v := x3 + 1) (lv' := [(3, .int (x3 + 1)), (2, .int y3), (0, .ref (wB ω + 0)), (1, .int x1)]) hx hb dX12_roofs_32 hl (k := 3) rfl rfl (by decide) rfl (fun ls hl => ?_)
    refine lv_goto (tgt := 19) hx hb dX12_roofs_35 (by decide) ?_
    exact hrec _ _ H locs ls hH hS (lv_sub hl [2, 3, 1, 0] rfl) h
theorem wX12_roofs_l19 (hW : FWM ω) (C : Cx ω p s m args c cX12_roofs 7 RX12) (hr : meth.sig.returnType = some .int) (hk : meth.locks = false) {rr : Int32} {μo : Mem} {x1 : Int32} {μ : Mem} {K : Int32 → Option (Int32 × Mem)} (hK : ∀ (z2 : Int32) (H : Heap) (locs : List Loc) (ls : Array Slot), Hd ω μ H → FS ω s H locs → lv_has ls 7 [(0, .ref (wB ω + 0)), (1, .int x1), (2, .int z2)] → K z2 = some (rr, μo) → W p l e (rmd 3) s m args below meth c H locs 0 0 (MQ below (QR ω (some (.int rr)) μo) args s 0 0 (wA ω)) (F0 m 38 ls [])) : ∀ (n : Nat) (x2 : Int32) (x3 : Int32) (H : Heap) (locs : List Loc) (ls : Array Slot), Hd ω μ H → FS ω s H locs → lv_has ls 7 [(0, .ref (wB ω + 0)), (1, .int x1), (2, .int x2), (3, .int x3)] → fX12_roofs_l19 K μ n x2 x3 = some (rr, μo) → W p l e (rmd 3) s m args below meth c H locs 0 0 (MQ below (QR ω (some (.int rr)) μo) args s 0 0 (wA ω)) (F0 m 19 ls []) := by
  intro n
  induction n with
  | zero => intro x2 x3 H locs ls hH hS hl h; cases h
  | succ n ih => intro x2 x3 H locs ls hH hS hl h; exact wX12_roofs_s19 hW C hr hk ih hK hH hS hl h
set_option maxHeartbeats 4000000 in
set_option maxRecDepth 100000 in
theorem wX12_roofs_s73 (hW : FWM ω) (C : Cx ω p s m args c cX12_roofs 7 RX12) (hr : meth.sig.returnType = some .int) (hk : meth.locks = false) {rr : Int32} {μo : Mem} {x1 : Int32} {x2 : Int32} {x3 : Int32} {x4 : Int32} {x6 : Int32} {rec : Int32 → Mem → Option (Int32 × Mem)} (hrec : ∀ (z6 : Int32) (ν : Mem) (H : Heap) (locs : List Loc) (ls : Array Slot), Hd ω ν H → FS ω s H locs → lv_has ls 7 [(0, .ref (wB ω + 0)), (1, .int x1), (2, .int x2), (3, .int x3), (4, .int x4), (6, .int z6)] → rec z6 ν = some (rr, μo) → W p l e (rmd 3) s m args below meth c H locs 0 0 (MQ below (QR ω (some (.int rr)) μo) args s 0 0 (wA ω)) (F0 m 73 ls [])) {K : Mem → Option (Int32 × Mem)} (hK : ∀ (ν : Mem) (H : Heap) (locs : List Loc) (ls : Array Slot), Hd ω ν H → FS ω s H locs → lv_has ls 7 [(0, .ref (wB ω + 0)), (1, .int x1), (2, .int x2), (3, .int x3), (4, .int x4)] → K ν = some (rr, μo) → W p l e (rmd 3) s m args below meth c H locs 0 0 (MQ below (QR ω (some (.int rr)) μo) args s 0 0 (wA ω)) (F0 m 102 ls [])) {μ : Mem} {H : Heap} {locs : List Loc} {ls : Array Slot} (hH : Hd ω μ H) (hS : FS ω s H locs) (hl : lv_has ls 7 [(0, .ref (wB ω + 0)), (1, .int x1), (2, .int x2), (3, .int x3), (4, .int x4), (6, .int x6)]) (h : fX12_roofs_s73 rec K x6 μ = some (rr, μo)) : W p l e (rmd 3) s m args below meth c H locs 0 0 (MQ below (QR ω (some (.int rr)) μo) args s 0 0 (wA ω)) (F0 m 73 ls []) := by
  have hx := C.1
  have hb := C.2.1
  unfold fX12_roofs_s73 at h
  refine lv_iload hx hb dX12_roofs_73 (lv_at hl 5 rfl) ?_
  refine lv_aload_n hx hb dX12_roofs_75 rfl (lv_at hl 0 rfl) ?_
  obtain ⟨r10, e9, h⟩ := b1_e h
  refine cVi (as := []) (rest := [.int x6]) (c_X12_many hW e9) C hl.1 hH hS rfl (jM_0 hW) rfl wd_31 wd_1182 mw_X12_many wd_1180 rfl (rm_ok (by decide) (by decide)) (Nat.le_of_ble_eq_true rfl) ⟨Nat.zero_le _, Nat.zero_le _⟩ (by decide) dX12_roofs_76 (fun H locs hH hS => ?_)
  refine lv_icmp_ge (tgt := 102) hx hb dX12_roofs_79 (by decide) (fun hc => ?_) (fun hc => ?_)
  · have h := ite_t hc h
    exact hK _ H locs ls hH hS (lv_sub hl [0, 1, 2, 3, 4] rfl) h
  · have h := ite_f hc h
    refine lv_aload_n hx hb dX12_roofs_82 rfl (lv_at hl 0 rfl) ?_
    refine g_1247 (i := 41) C hH (jM_0 hW) rfl dX12_roofs_83 ?_
    refine lv_iload hx hb dX12_roofs_86 (lv_at hl 5 rfl) ?_
    refine lv_aload_n hx hb dX12_roofs_88 rfl (lv_at hl 0 rfl) ?_
    refine g_1246 (i := 40) C hH (jM_0 hW) rfl dX12_roofs_89 ?_
    refine lv_iload hx hb dX12_roofs_92 (lv_at hl 5 rfl) ?_
    obtain ⟨b11, h⟩ := gd_e h
    refine h_iald C hH (jM_40 hW).1 (jM_40 hW).2.1 b11 dX12_roofs_94 ?_
    obtain ⟨b12, h⟩ := gd_e h
    obtain ⟨μ13, e14, h⟩ := bd_e h
    refine h_iast C hH hS (jM_41 hW).1 (jM_41 hW).2.1 b12 dX12_roofs_95 (fun H locs hH hS => ?_)
    have hH := Hd.to e14 hH
    refine lv_iinc (v := x6 + 1) (lv' := [(6, .int (x6 + 1)), (0, .ref (wB ω + 0)), (1, .int x1), (2, .int x2), (3, .int x3), (4, .int x4)]) hx hb dX12_roofs_96 hl (k := 5) rfl rfl (by decide) rfl (fun ls hl => ?_)
    refine lv_goto (tgt := 73) hx hb dX12_roofs_99 (by decide) ?_
    exact hrec _ _ H locs ls hH hS (lv_sub hl [1, 2, 3, 4, 5, 0] rfl) h
theorem wX12_roofs_l73 (hW : FWM ω) (C : Cx ω p s m args c cX12_roofs 7 RX12) (hr : meth.sig.returnType = some .int) (hk : meth.locks = false) {rr : Int32} {μo : Mem} {x1 : Int32} {x2 : Int32} {x3 : Int32} {x4 : Int32} {K : Mem → Option (Int32 × Mem)} (hK : ∀ (ν : Mem) (H : Heap) (locs : List Loc) (ls : Array Slot), Hd ω ν H → FS ω s H locs → lv_has ls 7 [(0, .ref (wB ω + 0)), (1, .int x1), (2, .int x2), (3, .int x3), (4, .int x4)] → K ν = some (rr, μo) → W p l e (rmd 3) s m args below meth c H locs 0 0 (MQ below (QR ω (some (.int rr)) μo) args s 0 0 (wA ω)) (F0 m 102 ls [])) : ∀ (n : Nat) (x6 : Int32) (μ : Mem) (H : Heap) (locs : List Loc) (ls : Array Slot), Hd ω μ H → FS ω s H locs → lv_has ls 7 [(0, .ref (wB ω + 0)), (1, .int x1), (2, .int x2), (3, .int x3), (4, .int x4), (6, .int x6)] → fX12_roofs_l73 K n x6 μ = some (rr, μo) → W p l e (rmd 3) s m args below meth c H locs 0 0 (MQ below (QR ω (some (.int rr)) μo) args s 0 0 (wA ω)) (F0 m 73 ls []) := by
  intro n
  induction n with
  | zero => intro x6 μ H locs ls hH hS hl h; cases h
  | succ n ih => intro x6 μ H locs ls hH hS hl h; exact wX12_roofs_s73 hW C hr hk ih hK hH hS hl h
set_option maxHeartbeats 4000000 in
set_option maxRecDepth 100000 in
theorem wX12_roofs_s44 (hW : FWM ω) (C : Cx ω p s m args c cX12_roofs 7 RX12) (hr : meth.sig.returnType = some .int) (hk : meth.locks = false) {rr : Int32} {μo : Mem} {x1 : Int32} {x2 : Int32} {x3 : Int32} {x4 : Int32} {rec : Int32 → Int32 → Mem → Option (Int32 × Mem)} (hrec : ∀ (z3 : Int32) (z4 : Int32) (ν : Mem) (H : Heap) (locs : List Loc) (ls : Array Slot), Hd ω ν H → FS ω s H locs → lv_has ls 7 [(0, .ref (wB ω + 0)), (1, .int x1), (2, .int x2), (3, .int z3), (4, .int z4)] → rec z3 z4 ν = some (rr, μo) → W p l e (rmd 3) s m args below meth c H locs 0 0 (MQ below (QR ω (some (.int rr)) μo) args s 0 0 (wA ω)) (F0 m 44 ls [])) {K : Int32 → Mem → Option (Int32 × Mem)} (hK : ∀ (z3 : Int32) (ν : Mem) (H : Heap) (locs : List Loc) (ls : Array Slot), Hd ω ν H → FS ω s H locs → lv_has ls 7 [(0, .ref (wB ω + 0)), (1, .int x1), (3, .int z3)] → K z3 ν = some (rr, μo) → W p l e (rmd 3) s m args below meth c H locs 0 0 (MQ below (QR ω (some (.int rr)) μo) args s 0 0 (wA ω)) (F0 m 108 ls [])) {μ : Mem} {H : Heap} {locs : List Loc} {ls : Array Slot} (hH : Hd ω μ H) (hS : FS ω s H locs) (hl : lv_has ls 7 [(0, .ref (wB ω + 0)), (1, .int x1), (2, .int x2), (3, .int x3), (4, .int x4)]) (h : fX12_roofs_s44 rec K x2 x3 x4 μ = some (rr, μo)) : W p l e (rmd 3) s m args below meth c H locs 0 0 (MQ below (QR ω (some (.int rr)) μo) args s 0 0 (wA ω)) (F0 m 44 ls []) := by
  have hx := C.1
  have hb := C.2.1
  unfold fX12_roofs_s44 at h
  refine lv_iload hx hb dX12_roofs_44 (lv_at hl 4 rfl) ?_
  refine lv_iload_n hx hb dX12_roofs_46 rfl (lv_at hl 2 rfl) ?_
  refine lv_icmp_ge (tgt := 108) hx hb dX12_roofs_47 (by decide) (fun hc => ?_) (fun hc => ?_)
  · have h := ite_t hc h
    exact hK _ _ H locs ls hH hS (lv_sub hl [0, 1, 3] rfl) h
  · have h := ite_f hc h
    refine lv_aload_n hx hb dX12_roofs_50 rfl (lv_at hl 0 rfl) ?_
    refine lv_iload hx hb dX12_roofs_51 (lv_at hl 4 rfl) ?_
    obtain ⟨r8, μ7, e6, h⟩ := b2_e h
    refine cVi (as := [.int x4]) (rest := []) (c_X12_roofsBy hW e6) C hl.1 hH hS rfl (jM_0 hW) rfl wd_89 wd_1767 mw_X12_roofsBy wd_1765 rfl (rm_ok (by decide) (by decide)) (Nat.le_of_ble_eq_true rfl) ⟨Nat.zero_le _, Nat.zero_le _⟩ (by decide) dX12_roofs_53 (fun H locs hH hS => ?_)
    refine lv_istore (lv' := [(5, .int r8), (0, .ref (wB ω + 0)), (1, .int x1), (2, .int x2), (3, .int x3), (4, .int x4)]) hx hb dX12_roofs_56 hl (by decide) rfl (fun ls hl => ?_)
    refine lv_iload hx hb dX12_roofs_58 (lv_at hl 0 rfl) ?_
    refine lv_iload_n hx hb dX12_roofs_60 rfl (lv_at hl 4 rfl) ?_
    refine lv_icmp_lt (tgt := 67) hx hb dX12_roofs_61 (by decide) (fun hc => ?_) (fun hc => ?_)
    · have h := ite_t hc h
      refine lv_iload hx hb dX12_roofs_67 (lv_at hl 0 rfl) ?_
      refine lv_istore_n (lv' := [(3, .int r8), (5, .int r8), (0, .ref (wB ω + 0)), (1, .int x1), (2, .int x2), (4, .int x4)]) hx hb dX12_roofs_69 rfl hl (by decide) rfl (fun ls hl => ?_)
      refine lv_iconst (v := 0) hx hb dX12_roofs_70 (by decide) ?_
      refine lv_istore (lv' := [(6, .int 0), (3, .int r8), (5, .int r8), (0, .ref (wB ω + 0)), (1, .int x1), (2, .int x2), (4, .int x4)]) hx hb dX12_roofs_71 hl (by decide) rfl (fun ls hl => ?_)
      refine wX12_roofs_l73 hW C hr hk (fun μ15 H locs ls hH hS hl h => ?_) FU _ _ H locs ls hH hS (lv_sub hl [3, 4, 5, 1, 6, 0] rfl) h
      refine lv_iinc (v := x4 + 1) (lv' := [(4, .int (x4 + 1)), (0, .ref (wB ω + 0)), (1, .int x1), (2, .int x2), (3, .int r8)]) hx hb dX12_roofs_102 hl (k := 4) rfl rfl (by decide) rfl (fun ls hl => ?_)
      refine lv_goto (tgt := 44) hx hb dX12_roofs_105 (by decide) ?_
      exact hrec _ _ _ H locs ls hH hS (lv_sub hl [1, 2, 3, 4, 0] rfl) h
    · have h := ite_f hc h
      refine lv_goto (tgt := 102) hx hb dX12_roofs_64 (by decide) ?_
      refine lv_iinc (v := x4 + 1) (lv' := [(4, .int (x4 + 1)), (5, .int r8), (0, .ref (wB ω + 0)), (1, .int x1), (2, .int x2), (3, .int x3)]) hx hb dX12_roofs_102 hl (k := 5) rfl rfl (by decide) rfl (fun ls hl => ?_)
      refine lv_goto (tgt := 44) hx hb dX12_roofs_105 (by decide) ?_
      exact hrec _ _ _ H locs ls hH hS (lv_sub hl [2, 3, 4, 5, 0] rfl) h
theorem wX12_roofs_l44 (hW : FWM ω) (C : Cx ω p s m args c cX12_roofs 7 RX12) (hr : meth.sig.returnType = some .int) (hk : meth.locks = false) {rr : Int32} {μo : Mem} {x2 : Int32} {x1 : Int32} {K : Int32 → Mem → Option (Int32 × Mem)} (hK : ∀ (z3 : Int32) (ν : Mem) (H : Heap) (locs : List Loc) (ls : Array Slot), Hd ω ν H → FS ω s H locs → lv_has ls 7 [(0, .ref (wB ω + 0)), (1, .int x1), (3, .int z3)] → K z3 ν = some (rr, μo) → W p l e (rmd 3) s m args below meth c H locs 0 0 (MQ below (QR ω (some (.int rr)) μo) args s 0 0 (wA ω)) (F0 m 108 ls [])) : ∀ (n : Nat) (x3 : Int32) (x4 : Int32) (μ : Mem) (H : Heap) (locs : List Loc) (ls : Array Slot), Hd ω μ H → FS ω s H locs → lv_has ls 7 [(0, .ref (wB ω + 0)), (1, .int x1), (2, .int x2), (3, .int x3), (4, .int x4)] → fX12_roofs_l44 K x2 n x3 x4 μ = some (rr, μo) → W p l e (rmd 3) s m args below meth c H locs 0 0 (MQ below (QR ω (some (.int rr)) μo) args s 0 0 (wA ω)) (F0 m 44 ls []) := by
  intro n
  induction n with
  | zero => intro x3 x4 μ H locs ls hH hS hl h; cases h
  | succ n ih => intro x3 x4 μ H locs ls hH hS hl h; exact wX12_roofs_s44 hW C hr hk ih hK hH hS hl h
set_option maxHeartbeats 4000000 in
set_option maxRecDepth 100000 in
theorem wX12_roofs_b15 (hW : FWM ω) (C : Cx ω p s m args c cX12_roofs 7 RX12) (hr : meth.sig.returnType = some .int) (hk : meth.locks = false) {rr : Int32} {μo : Mem} {x1 : Int32} {μ : Mem} {H : Heap} {locs : List Loc} {ls : Array Slot} (hH : Hd ω μ H) (hS : FS ω s H locs) (hl : lv_has ls 7 [(0, .ref (wB ω + 0)), (1, .int x1)]) (h : fX12_roofs_b15 x1 μ = some (rr, μo)) : W p l e (rmd 3) s m args below meth c H locs 0 0 (MQ below (QR ω (some (.int rr)) μo) args s 0 0 (wA ω)) (F0 m 15 ls []) := by
  have hx := C.1
  have hb := C.2.1
  unfold fX12_roofs_b15 at h
  refine lv_iconst (v := 1) hx hb dX12_roofs_15 (by decide) ?_
  refine lv_istore_n (lv' := [(2, .int 1), (0, .ref (wB ω + 0)), (1, .int x1)]) hx hb dX12_roofs_16 rfl hl (by decide) rfl (fun ls hl => ?_)
  refine lv_iconst (v := 0) hx hb dX12_roofs_17 (by decide) ?_
  refine lv_istore_n (lv' := [(3, .int 0), (2, .int 1), (0, .ref (wB ω + 0)), (1, .int x1)]) hx hb dX12_roofs_18 rfl hl (by decide) rfl (fun ls hl => ?_)
  refine wX12_roofs_l19 hW C hr hk (fun y5 H locs ls hH hS hl h => ?_) FU _ _ H locs ls hH hS (lv_sub hl [2, 3, 1, 0] rfl) h
  refine lv_bipush (v := 7) hx hb dX12_roofs_38 (by decide) ?_
  refine lv_istore_n (lv' := [(3, .int 7), (0, .ref (wB ω + 0)), (1, .int x1), (2, .int y5)]) hx hb dX12_roofs_40 rfl hl (by decide) rfl (fun ls hl => ?_)
  refine lv_iconst (v := 0) hx hb dX12_roofs_41 (by decide) ?_
  refine lv_istore (lv' := [(4, .int 0), (3, .int 7), (0, .ref (wB ω + 0)), (1, .int x1), (2, .int y5)]) hx hb dX12_roofs_42 hl (by decide) rfl (fun ls hl => ?_)
  refine wX12_roofs_l44 hW C hr hk (fun y16 μ17 H locs ls hH hS hl h => ?_) FU _ _ _ H locs ls hH hS (lv_sub hl [2, 3, 4, 1, 0] rfl) h
  refine lv_iload_n hx hb dX12_roofs_108 rfl (lv_at hl 2 rfl) ?_
  refine lv_bipush (v := 7) hx hb dX12_roofs_109 (by decide) ?_
  refine lv_icmp_ne (tgt := 117) hx hb dX12_roofs_111 (by decide) (fun hc => ?_) (fun hc => ?_)
  · have h := ite_f hc h
    refine lv_iload_n hx hb dX12_roofs_117 rfl (lv_at hl 1 rfl) ?_
    refine lv_iconst (v := (-1)) hx hb dX12_roofs_118 (by decide) ?_
    refine lv_icmp_ne (tgt := 126) hx hb dX12_roofs_119 (by decide) (fun hc => ?_) (fun hc => ?_)
    · have h := ite_f hc h
      refine lv_aload_n hx hb dX12_roofs_126 rfl (lv_at hl 0 rfl) ?_
      refine g_1247 (i := 41) C hH (jM_0 hW) rfl dX12_roofs_127 ?_
      refine lv_iload_n hx hb dX12_roofs_130 rfl (lv_at hl 1 rfl) ?_
      obtain ⟨b18, h⟩ := gd_e h
      refine h_iald C hH (jM_41 hW).1 (jM_41 hW).2.1 b18 dX12_roofs_131 ?_
      exact h_iret C hr hk hH hS rfl (by cases h; rfl) dX12_roofs_132
    · have h := ite_t hc h
      refine lv_iload_n hx hb dX12_roofs_122 rfl (lv_at hl 2 rfl) ?_
      refine lv_goto (tgt := 132) hx hb dX12_roofs_123 (by decide) ?_
      exact h_iret C hr hk hH hS rfl (by cases h; rfl) dX12_roofs_132
  · have h := ite_t hc h
    refine lv_bipush (v := (-2)) hx hb dX12_roofs_114 (by decide) ?_
    exact h_iret C hr hk hH hS rfl (by cases h; rfl) dX12_roofs_116
set_option maxHeartbeats 4000000 in
set_option maxRecDepth 100000 in
theorem wX12_roofs_e (hW : FWM ω) (C : Cx ω p s m args c cX12_roofs 7 RX12) (hr : meth.sig.returnType = some .int) (hk : meth.locks = false) {rr : Int32} {μo : Mem} {x1 : Int32} {μ : Mem} {H : Heap} {locs : List Loc} {ls : Array Slot} (hH : Hd ω μ H) (hS : FS ω s H locs) (hl : lv_has ls 7 [(0, .ref (wB ω + 0)), (1, .int x1)]) (h : fX12_roofs x1 μ = some (rr, μo)) : W p l e (rmd 3) s m args below meth c H locs 0 0 (MQ below (QR ω (some (.int rr)) μo) args s 0 0 (wA ω)) (F0 m 0 ls []) := by
  have hx := C.1
  have hb := C.2.1
  unfold fX12_roofs at h
  refine lv_iload_n hx hb dX12_roofs_0 rfl (lv_at hl 1 rfl) ?_
  refine lv_iconst (v := (-1)) hx hb dX12_roofs_1 (by decide) ?_
  refine lv_icmp_eq (tgt := 15) hx hb dX12_roofs_2 (by decide) (fun hc => ?_) (fun hc => ?_)
  · have h := ite_t hc h
    exact wX12_roofs_b15 hW C hr hk hH hS hl h
  · have h := ite_f hc h
    refine lv_aload_n hx hb dX12_roofs_5 rfl (lv_at hl 0 rfl) ?_
    refine lv_iload_n hx hb dX12_roofs_6 rfl (lv_at hl 1 rfl) ?_
    obtain ⟨r20, e19, h⟩ := b1_e h
    refine cVi (as := [.int x1]) (rest := []) (c_X12_isHouse hW e19) C hl.1 hH hS rfl (jM_0 hW) rfl wd_53 wd_1503 mw_X12_isHouse wd_1501 rfl (rm_ok (by decide) (by decide)) (Nat.le_of_ble_eq_true rfl) ⟨Nat.zero_le _, Nat.zero_le _⟩ (by decide) dX12_roofs_7 (fun H locs hH hS => ?_)
    refine lv_if_ne (tgt := 15) hx hb dX12_roofs_10 (by decide) (fun hc => ?_) (fun hc => ?_)
    · have h := ite_f hc h
      exact wX12_roofs_b15 hW C hr hk hH hS hl h
    · have h := ite_t hc h
      refine lv_iconst (v := (-1)) hx hb dX12_roofs_13 (by decide) ?_
      exact h_iret C hr hk hH hS rfl (by cases h; rfl) dX12_roofs_14
theorem c_X12_roofs {l : Launch} {ω : WW} {x1 : Int32} (hW : FWM ω) {μ : Mem} {rr : Int32} {μo : Mem} (h : fX12_roofs x1 μ = some (rr, μo)) : Con l yX12_roofs cX12_roofs 7 (some .int) 3 ω [.ref (wB ω + 0), .int x1] μ (some (.int rr)) μo :=
  con_of (by decide) (Nat.le_of_ble_eq_true rfl) (fun p e s m args below meth c ls C hr hk hl hH hS => wX12_roofs_e hW C hr hk hH hS (lv_sub hl [0, 1] rfl) h)
set_option maxHeartbeats 4000000 in
set_option maxRecDepth 100000 in
theorem wX12_round_e (hW : FWM ω) (C : Cx ω p s m args c cX12_round 2 RX12) (hr : meth.sig.returnType = some .int) (hk : meth.locks = false) {rr : Int32} {μo : Mem} {x1 : Int32} {μ : Mem} {H : Heap} {locs : List Loc} {ls : Array Slot} (hH : Hd ω μ H) (hS : FS ω s H locs) (hl : lv_has ls 2 [(0, .ref (wB ω + 0)), (1, .int x1)]) (h : fX12_round x1 μ = some (rr, μo)) : W p l e (rmd 5) s m args below meth c H locs 0 0 (MQ below (QR ω (some (.int rr)) μo) args s 0 0 (wA ω)) (F0 m 0 ls []) := by
  have hx := C.1
  have hb := C.2.1
  unfold fX12_round at h
  refine lv_aload_n hx hb dX12_round_0 rfl (lv_at hl 0 rfl) ?_
  refine lv_iload_n hx hb dX12_round_1 rfl (lv_at hl 1 rfl) ?_
  obtain ⟨r2, e1, h⟩ := b1_e h
  refine cVi (as := [.int x1]) (rest := []) (c_X12_isHouse hW e1) C hl.1 hH hS rfl (jM_0 hW) rfl wd_53 wd_1503 mw_X12_isHouse wd_1501 rfl (rm_ok (by decide) (by decide)) (Nat.le_of_ble_eq_true rfl) ⟨Nat.zero_le _, Nat.zero_le _⟩ (by decide) dX12_round_2 (fun H locs hH hS => ?_)
  refine lv_if_ne (tgt := 10) hx hb dX12_round_5 (by decide) (fun hc => ?_) (fun hc => ?_)
  · have h := ite_f hc h
    refine lv_aload_n hx hb dX12_round_10 rfl (lv_at hl 0 rfl) ?_
    obtain ⟨μ4, e3, h⟩ := b1_e h
    refine cVv (as := []) (rest := []) (c_X12_fillsRest hW e3) C hl.1 hH hS rfl (jM_0 hW) rfl wd_85 wd_1727 mw_X12_fillsRest wd_1725 rfl (rm_ok (by decide) (by decide)) (Nat.le_of_ble_eq_true rfl) ⟨Nat.zero_le _, Nat.zero_le _⟩ (by decide) dX12_round_11 (fun H locs hH hS => ?_)
    refine lv_aload_n hx hb dX12_round_14 rfl (lv_at hl 0 rfl) ?_
    refine g_1245 (i := 39) C hH (jM_0 hW) rfl dX12_round_15 ?_
    refine lv_bipush (v := 6) hx hb dX12_round_18 (by decide) ?_
    refine lv_iconst (v := 1) hx hb dX12_round_20 (by decide) ?_
    refine lv_iload_n hx hb dX12_round_21 rfl (lv_at hl 1 rfl) ?_
    refine lv_ishl hx hb dX12_round_22 ?_
    refine lv_imul hx hb dX12_round_23 ?_
    refine lv_iload_n hx hb dX12_round_24 rfl (lv_at hl 1 rfl) ?_
    refine lv_iadd hx hb dX12_round_25 ?_
    obtain ⟨b5, h⟩ := gd_e h
    refine h_iald C hH (jM_39 hW).1 (jM_39 hW).2.1 b5 dX12_round_26 ?_
    exact h_iret C hr hk hH hS rfl (by cases h; rfl) dX12_round_27
  · have h := ite_t hc h
    refine lv_iconst (v := (-1)) hx hb dX12_round_8 (by decide) ?_
    exact h_iret C hr hk hH hS rfl (by cases h; rfl) dX12_round_9
theorem c_X12_round {l : Launch} {ω : WW} {x1 : Int32} (hW : FWM ω) {μ : Mem} {rr : Int32} {μo : Mem} (h : fX12_round x1 μ = some (rr, μo)) : Con l yX12_round cX12_round 2 (some .int) 5 ω [.ref (wB ω + 0), .int x1] μ (some (.int rr)) μo :=
  con_of (by decide) (Nat.le_of_ble_eq_true rfl) (fun p e s m args below meth c ls C hr hk hl hH hS => wX12_round_e hW C hr hk hH hS (lv_sub hl [0, 1] rfl) h)
set_option maxHeartbeats 4000000 in
set_option maxRecDepth 100000 in
theorem wX12_saves_e (hW : FWM ω) (C : Cx ω p s m args c cX12_saves 2 RX12) (hr : meth.sig.returnType = some .int) (hk : meth.locks = false) {rr : Int32} {μo : Mem} {x1 : Int32} {μ : Mem} {H : Heap} {locs : List Loc} {ls : Array Slot} (hH : Hd ω μ H) (hS : FS ω s H locs) (hl : lv_has ls 2 [(0, .ref (wB ω + 0)), (1, .int x1)]) (h : fX12_saves x1 μ = some (rr, μo)) : W p l e (rmd 9) s m args below meth c H locs 0 0 (MQ below (QR ω (some (.int rr)) μo) args s 0 0 (wA ω)) (F0 m 0 ls []) := by
  have hx := C.1
  have hb := C.2.1
  unfold fX12_saves at h
  refine lv_aload_n hx hb dX12_saves_0 rfl (lv_at hl 0 rfl) ?_
  refine lv_iload_n hx hb dX12_saves_1 rfl (lv_at hl 1 rfl) ?_
  obtain ⟨r2, e1, h⟩ := b1_e h
  refine cVi (as := [.int x1]) (rest := []) (c_X12_isHouse hW e1) C hl.1 hH hS rfl (jM_0 hW) rfl wd_53 wd_1503 mw_X12_isHouse wd_1501 rfl (rm_ok (by decide) (by decide)) (Nat.le_of_ble_eq_true rfl) ⟨Nat.zero_le _, Nat.zero_le _⟩ (by decide) dX12_saves_2 (fun H locs hH hS => ?_)
  refine lv_if_eq (tgt := 16) hx hb dX12_saves_5 (by decide) (fun hc => ?_) (fun hc => ?_)
  · have h := ite_t hc h
    refine lv_ldcw (v := (-100000)) hx hb C.2.2.2.1 (C.2.2.2.2.1 _ (tg wd_1705 rfl)) dX12_saves_16 ?_
    exact h_iret C hr hk hH hS rfl (by cases h; rfl) dX12_saves_19
  · have h := ite_f hc h
    refine lv_aload_n hx hb dX12_saves_8 rfl (lv_at hl 0 rfl) ?_
    refine lv_iload_n hx hb dX12_saves_9 rfl (lv_at hl 1 rfl) ?_
    obtain ⟨r5, μ4, e3, h⟩ := b2_e h
    refine cVi (as := [.int x1]) (rest := []) (c_X12_savesOf hW e3) C hl.1 hH hS rfl (jM_0 hW) rfl wd_82 wd_1699 mw_X12_savesOf wd_1697 rfl (rm_ok (by decide) (by decide)) (Nat.le_of_ble_eq_true rfl) ⟨Nat.zero_le _, Nat.zero_le _⟩ (by decide) dX12_saves_10 (fun H locs hH hS => ?_)
    refine lv_goto (tgt := 19) hx hb dX12_saves_13 (by decide) ?_
    exact h_iret C hr hk hH hS rfl (by cases h; rfl) dX12_saves_19
theorem c_X12_saves {l : Launch} {ω : WW} {x1 : Int32} (hW : FWM ω) {μ : Mem} {rr : Int32} {μo : Mem} (h : fX12_saves x1 μ = some (rr, μo)) : Con l yX12_saves cX12_saves 2 (some .int) 9 ω [.ref (wB ω + 0), .int x1] μ (some (.int rr)) μo :=
  con_of (by decide) (Nat.le_of_ble_eq_true rfl) (fun p e s m args below meth c ls C hr hk hl hH hS => wX12_saves_e hW C hr hk hH hS (lv_sub hl [0, 1] rfl) h)
set_option maxHeartbeats 4000000 in
set_option maxRecDepth 100000 in
theorem wX12_share_s48 (hW : FWM ω) (C : Cx ω p s m args c cX12_share 5 RX12) (hr : meth.sig.returnType = some .int) (hk : meth.locks = false) {rr : Int32} {μo : Mem} {x2 : Int32} {x3 : Int32} {x4 : Int32} {μ : Mem} {rec : Int32 → Int32 → Option (Int32 × Mem)} (hrec : ∀ (z3 : Int32) (z4 : Int32) (H : Heap) (locs : List Loc) (ls : Array Slot), Hd ω μ H → FS ω s H locs → lv_has ls 5 [(0, .ref (wB ω + 0)), (2, .int x2), (3, .int z3), (4, .int z4)] → rec z3 z4 = some (rr, μo) → W p l e (rmd 8) s m args below meth c H locs 0 0 (MQ below (QR ω (some (.int rr)) μo) args s 0 0 (wA ω)) (F0 m 48 ls [])) {H : Heap} {locs : List Loc} {ls : Array Slot} (hH : Hd ω μ H) (hS : FS ω s H locs) (hl : lv_has ls 5 [(0, .ref (wB ω + 0)), (2, .int x2), (3, .int x3), (4, .int x4)]) (h : fX12_share_s48 rec x2 x3 x4 μ = some (rr, μo)) : W p l e (rmd 8) s m args below meth c H locs 0 0 (MQ below (QR ω (some (.int rr)) μo) args s 0 0 (wA ω)) (F0 m 48 ls []) := by
  have hx := C.1
  have hb := C.2.1
  unfold fX12_share_s48 at h
  refine lv_iload hx hb dX12_share_48 (lv_at hl 3 rfl) ?_
  refine lv_iload_n hx hb dX12_share_50 rfl (lv_at hl 1 rfl) ?_
  refine lv_icmp_ge (tgt := 70) hx hb dX12_share_51 (by decide) (fun hc => ?_) (fun hc => ?_)
  · have h := ite_t hc h
    refine lv_aload_n hx hb dX12_share_70 rfl (lv_at hl 0 rfl) ?_
    refine lv_iload_n hx hb dX12_share_71 rfl (lv_at hl 1 rfl) ?_
    refine lv_iload_n hx hb dX12_share_72 rfl (lv_at hl 2 rfl) ?_
    obtain ⟨r8, e7, h⟩ := b1_e h
    refine cVi (as := [.int x2, .int x3]) (rest := []) (c_X12_shareFor hW e7) C hl.1 hH hS rfl (jM_0 hW) rfl wd_74 wd_1639 mw_X12_shareFor wd_1637 rfl (rm_ok (by decide) (by decide)) (Nat.le_of_ble_eq_true rfl) ⟨Nat.zero_le _, Nat.zero_le _⟩ (by decide) dX12_share_73 (fun H locs hH hS => ?_)
    exact h_iret C hr hk hH hS rfl (by cases h; rfl) dX12_share_76
  · have h := ite_f hc h
    refine lv_iload_n hx hb dX12_share_54 rfl (lv_at hl 2 rfl) ?_
    refine lv_aload_n hx hb dX12_share_55 rfl (lv_at hl 0 rfl) ?_
    refine lv_iload hx hb dX12_share_56 (lv_at hl 3 rfl) ?_
    refine lv_iload_n hx hb dX12_share_58 rfl (lv_at hl 2 rfl) ?_
    obtain ⟨r10, e9, h⟩ := b1_e h
    refine cVi (as := [.int x4, .int x3]) (rest := [.int x3]) (c_X12_shareFor hW e9) C hl.1 hH hS rfl (jM_0 hW) rfl wd_74 wd_1639 mw_X12_shareFor wd_1637 rfl (rm_ok (by decide) (by decide)) (Nat.le_of_ble_eq_true rfl) ⟨Nat.zero_le _, Nat.zero_le _⟩ (by decide) dX12_share_59 (fun H locs hH hS => ?_)
    refine lv_isub hx hb dX12_share_62 ?_
    obtain ⟨y11, e12, h⟩ := bd_e h
    refine h_topi e12 ?_
    refine lv_istore_n (lv' := [(3, .int y11), (0, .ref (wB ω + 0)), (2, .int x2), (4, .int x4)]) hx hb dX12_share_63 rfl hl (by decide) rfl (fun ls hl => ?_)
    refine lv_iinc (v := x4 + 1) (lv' := [(4, .int (x4 + 1)), (3, .int y11), (0, .ref (wB ω + 0)), (2, .int x2)]) hx hb dX12_share_64 hl (k := 3) rfl rfl (by decide) rfl (fun ls hl => ?_)
    refine lv_goto (tgt := 48) hx hb dX12_share_67 (by decide) ?_
    exact hrec _ _ H locs ls hH hS (lv_sub hl [2, 3, 1, 0] rfl) h
theorem wX12_share_l48 (hW : FWM ω) (C : Cx ω p s m args c cX12_share 5 RX12) (hr : meth.sig.returnType = some .int) (hk : meth.locks = false) {rr : Int32} {μo : Mem} {x2 : Int32} {μ : Mem} : ∀ (n : Nat) (x3 : Int32) (x4 : Int32) (H : Heap) (locs : List Loc) (ls : Array Slot), Hd ω μ H → FS ω s H locs → lv_has ls 5 [(0, .ref (wB ω + 0)), (2, .int x2), (3, .int x3), (4, .int x4)] → fX12_share_l48 x2 μ n x3 x4 = some (rr, μo) → W p l e (rmd 8) s m args below meth c H locs 0 0 (MQ below (QR ω (some (.int rr)) μo) args s 0 0 (wA ω)) (F0 m 48 ls []) := by
  intro n
  induction n with
  | zero => intro x3 x4 H locs ls hH hS hl h; cases h
  | succ n ih => intro x3 x4 H locs ls hH hS hl h; exact wX12_share_s48 hW C hr hk ih hH hS hl h
set_option maxHeartbeats 4000000 in
set_option maxRecDepth 100000 in
theorem wX12_share_b22 (hW : FWM ω) (C : Cx ω p s m args c cX12_share 5 RX12) (hr : meth.sig.returnType = some .int) (hk : meth.locks = false) {rr : Int32} {μo : Mem} {x1 : Int32} {x2 : Int32} {μ : Mem} {H : Heap} {locs : List Loc} {ls : Array Slot} (hH : Hd ω μ H) (hS : FS ω s H locs) (hl : lv_has ls 5 [(0, .ref (wB ω + 0)), (1, .int x1), (2, .int x2)]) (h : fX12_share_b22 x1 x2 μ = some (rr, μo)) : W p l e (rmd 8) s m args below meth c H locs 0 0 (MQ below (QR ω (some (.int rr)) μo) args s 0 0 (wA ω)) (F0 m 22 ls []) := by
  have hx := C.1
  have hb := C.2.1
  unfold fX12_share_b22 at h
  refine lv_aload_n hx hb dX12_share_22 rfl (lv_at hl 0 rfl) ?_
  obtain ⟨μ4, e3, h⟩ := b1_e h
  refine cVv (as := []) (rest := []) (c_X12_copies hW e3) C hl.1 hH hS rfl (jM_0 hW) rfl wd_54 wd_1510 mw_X12_copies wd_1508 rfl (rm_ok (by decide) (by decide)) (Nat.le_of_ble_eq_true rfl) ⟨Nat.zero_le _, Nat.zero_le _⟩ (by decide) dX12_share_23 (fun H locs hH hS => ?_)
  refine lv_aload_n hx hb dX12_share_26 rfl (lv_at hl 0 rfl) ?_
  refine lv_iload_n hx hb dX12_share_27 rfl (lv_at hl 1 rfl) ?_
  obtain ⟨μ6, e5, h⟩ := b1_e h
  refine cVv (as := [.int x1]) (rest := []) (c_X12_fillsShare hW e5) C hl.1 hH hS rfl (jM_0 hW) rfl wd_71 wd_1627 mw_X12_fillsShare wd_1625 rfl (rm_ok (by decide) (by decide)) (Nat.le_of_ble_eq_true rfl) ⟨Nat.zero_le _, Nat.zero_le _⟩ (by decide) dX12_share_28 (fun H locs hH hS => ?_)
  refine lv_iload_n hx hb dX12_share_31 rfl (lv_at hl 2 rfl) ?_
  refine lv_iconst (v := (-1)) hx hb dX12_share_32 (by decide) ?_
  refine lv_icmp_ne (tgt := 43) hx hb dX12_share_33 (by decide) (fun hc => ?_) (fun hc => ?_)
  · have h := ite_f hc h
    refine lv_iload_n hx hb dX12_share_43 rfl (lv_at hl 1 rfl) ?_
    refine lv_istore_n (lv' := [(3, .int x1), (0, .ref (wB ω + 0)), (1, .int x1), (2, .int x2)]) hx hb dX12_share_44 rfl hl (by decide) rfl (fun ls hl => ?_)
    refine lv_iconst (v := 0) hx hb dX12_share_45 (by decide) ?_
    refine lv_istore (lv' := [(4, .int 0), (3, .int x1), (0, .ref (wB ω + 0)), (1, .int x1), (2, .int x2)]) hx hb dX12_share_46 hl (by decide) rfl (fun ls hl => ?_)
    exact wX12_share_l48 hW C hr hk FU _ _ H locs ls hH hS (lv_sub hl [2, 4, 1, 0] rfl) h
  · have h := ite_t hc h
    refine lv_aload_n hx hb dX12_share_36 rfl (lv_at hl 0 rfl) ?_
    refine g_1243 (i := 37) C hH (jM_0 hW) rfl dX12_share_37 ?_
    refine lv_iload_n hx hb dX12_share_40 rfl (lv_at hl 1 rfl) ?_
    obtain ⟨b13, h⟩ := gd_e h
    refine h_iald C hH (jM_37 hW).1 (jM_37 hW).2.1 b13 dX12_share_41 ?_
    exact h_iret C hr hk hH hS rfl (by cases h; rfl) dX12_share_42
set_option maxHeartbeats 4000000 in
set_option maxRecDepth 100000 in
theorem wX12_share_e (hW : FWM ω) (C : Cx ω p s m args c cX12_share 5 RX12) (hr : meth.sig.returnType = some .int) (hk : meth.locks = false) {rr : Int32} {μo : Mem} {x1 : Int32} {x2 : Int32} {μ : Mem} {H : Heap} {locs : List Loc} {ls : Array Slot} (hH : Hd ω μ H) (hS : FS ω s H locs) (hl : lv_has ls 5 [(0, .ref (wB ω + 0)), (1, .int x1), (2, .int x2)]) (h : fX12_share x1 x2 μ = some (rr, μo)) : W p l e (rmd 8) s m args below meth c H locs 0 0 (MQ below (QR ω (some (.int rr)) μo) args s 0 0 (wA ω)) (F0 m 0 ls []) := by
  have hx := C.1
  have hb := C.2.1
  unfold fX12_share at h
  refine lv_iload_n hx hb dX12_share_0 rfl (lv_at hl 1 rfl) ?_
  obtain ⟨r2, e1, h⟩ := b1_e h
  refine cSi (as := [.int x1]) (rest := []) (c_X12_isSmall e1) C hl.1 hH hS rfl wd_1619 mw_X12_isSmall wd_1618 rfl (rm_ok (by decide) (by decide)) (Nat.le_of_ble_eq_true rfl) ⟨Nat.zero_le _, Nat.zero_le _⟩ dX12_share_1 (fun H locs hH hS => ?_)
  refine lv_if_eq (tgt := 20) hx hb dX12_share_4 (by decide) (fun hc => ?_) (fun hc => ?_)
  · have h := ite_t hc h
    refine lv_iconst (v := (-1)) hx hb dX12_share_20 (by decide) ?_
    exact h_iret C hr hk hH hS rfl (by cases h; rfl) dX12_share_21
  · have h := ite_f hc h
    refine lv_iload_n hx hb dX12_share_7 rfl (lv_at hl 2 rfl) ?_
    refine lv_iconst (v := (-1)) hx hb dX12_share_8 (by decide) ?_
    refine lv_icmp_eq (tgt := 22) hx hb dX12_share_9 (by decide) (fun hc => ?_) (fun hc => ?_)
    · have h := ite_t hc h
      exact wX12_share_b22 hW C hr hk hH hS hl h
    · have h := ite_f hc h
      refine lv_aload_n hx hb dX12_share_12 rfl (lv_at hl 0 rfl) ?_
      refine lv_iload_n hx hb dX12_share_13 rfl (lv_at hl 2 rfl) ?_
      obtain ⟨r15, e14, h⟩ := b1_e h
      refine cVi (as := [.int x2]) (rest := []) (c_X12_isHouse hW e14) C hl.1 hH hS rfl (jM_0 hW) rfl wd_53 wd_1503 mw_X12_isHouse wd_1501 rfl (rm_ok (by decide) (by decide)) (Nat.le_of_ble_eq_true rfl) ⟨Nat.zero_le _, Nat.zero_le _⟩ (by decide) dX12_share_14 (fun H locs hH hS => ?_)
      refine lv_if_ne (tgt := 22) hx hb dX12_share_17 (by decide) (fun hc => ?_) (fun hc => ?_)
      · have h := ite_f hc h
        exact wX12_share_b22 hW C hr hk hH hS hl h
      · have h := ite_t hc h
        refine lv_iconst (v := (-1)) hx hb dX12_share_20 (by decide) ?_
        exact h_iret C hr hk hH hS rfl (by cases h; rfl) dX12_share_21
theorem c_X12_share {l : Launch} {ω : WW} {x1 : Int32} {x2 : Int32} (hW : FWM ω) {μ : Mem} {rr : Int32} {μo : Mem} (h : fX12_share x1 x2 μ = some (rr, μo)) : Con l yX12_share cX12_share 5 (some .int) 8 ω [.ref (wB ω + 0), .int x1, .int x2] μ (some (.int rr)) μo :=
  con_of (by decide) (Nat.le_of_ble_eq_true rfl) (fun p e s m args below meth c ls C hr hk hl hH hS => wX12_share_e hW C hr hk hH hS (lv_sub hl [0, 1, 2] rfl) h)
set_option maxHeartbeats 4000000 in
set_option maxRecDepth 100000 in
theorem wX12_summers_s17 (hW : FWM ω) (C : Cx ω p s m args c cX12_summers 4 RX12) (hr : meth.sig.returnType = some .int) (hk : meth.locks = false) {rr : Int32} {μ : Mem} {x1 : Int32} {x2 : Int32} {x3 : Int32} {rec : Int32 → Int32 → Option Int32} (hrec : ∀ (z2 : Int32) (z3 : Int32) (H : Heap) (locs : List Loc) (ls : Array Slot), Hd ω μ H → FS ω s H locs → lv_has ls 4 [(0, .ref (wB ω + 0)), (1, .int x1), (2, .int z2), (3, .int z3)] → rec z2 z3 = some rr → W p l e (rmd 2) s m args below meth c H locs 0 0 (MQ below (QR ω (some (.int rr)) μ) args s 0 0 (wA ω)) (F0 m 17 ls [])) {H : Heap} {locs : List Loc} {ls : Array Slot} (hH : Hd ω μ H) (hS : FS ω s H locs) (hl : lv_has ls 4 [(0, .ref (wB ω + 0)), (1, .int x1), (2, .int x2), (3, .int x3)]) (h : fX12_summers_s17 rec x1 x2 x3 μ = some rr) : W p l e (rmd 2) s m args below meth c H locs 0 0 (MQ below (QR ω (some (.int rr)) μ) args s 0 0 (wA ω)) (F0 m 17 ls []) := by
  have hx := C.1
  have hb := C.2.1
  unfold fX12_summers_s17 at h
  refine lv_iload_n hx hb dX12_summers_17 rfl (lv_at hl 3 rfl) ?_
  refine lv_aload_n hx hb dX12_summers_18 rfl (lv_at hl 0 rfl) ?_
  obtain ⟨r4, e3, h⟩ := b1_e h
  refine cVi (as := []) (rest := [.int x3]) (c_X12_many hW e3) C hl.1 hH hS rfl (jM_0 hW) rfl wd_31 wd_1182 mw_X12_many wd_1180 rfl (rm_ok (by decide) (by decide)) (Nat.le_of_ble_eq_true rfl) ⟨Nat.zero_le _, Nat.zero_le _⟩ (by decide) dX12_summers_19 (fun H locs hH hS => ?_)
  refine lv_icmp_ge (tgt := 47) hx hb dX12_summers_22 (by decide) (fun hc => ?_) (fun hc => ?_)
  · have h := ite_t hc h
    refine lv_iload_n hx hb dX12_summers_47 rfl (lv_at hl 2 rfl) ?_
    exact h_iret C hr hk hH hS rfl (by cases h; rfl) dX12_summers_48
  · have h := ite_f hc h
    refine lv_aload_n hx hb dX12_summers_25 rfl (lv_at hl 0 rfl) ?_
    refine g_1234 (i := 31) C hH (jM_0 hW) rfl dX12_summers_26 ?_
    refine lv_bipush (v := 12) hx hb dX12_summers_29 (by decide) ?_
    refine lv_iload_n hx hb dX12_summers_31 rfl (lv_at hl 3 rfl) ?_
    refine lv_iadd hx hb dX12_summers_32 ?_
    obtain ⟨b5, h⟩ := gd_e h
    refine h_iald C hH (jM_31 hW).1 (jM_31 hW).2.1 b5 dX12_summers_33 ?_
    refine lv_iload_n hx hb dX12_summers_34 rfl (lv_at hl 1 rfl) ?_
    refine lv_icmp_lt (tgt := 41) hx hb dX12_summers_35 (by decide) (fun hc => ?_) (fun hc => ?_)
    · have h := ite_t hc h
      refine lv_iinc (v := x3 + 1) (lv' := [(3, .int (x3 + 1)), (0, .ref (wB ω + 0)), (1, .int x1), (2, .int x2)]) hx hb dX12_summers_41 hl (k := 3) rfl rfl (by decide) rfl (fun ls hl => ?_)
      refine lv_goto (tgt := 17) hx hb dX12_summers_44 (by decide) ?_
      exact hrec _ _ H locs ls hH hS (lv_sub hl [1, 2, 3, 0] rfl) h
    · have h := ite_f hc h
      refine lv_iinc (v := x2 + 1) (lv' := [(2, .int (x2 + 1)), (0, .ref (wB ω + 0)), (1, .int x1), (3, .int x3)]) hx hb dX12_summers_38 hl (k := 2) rfl rfl (by decide) rfl (fun ls hl => ?_)
      refine lv_iinc (v := x3 + 1) (lv' := [(3, .int (x3 + 1)), (2, .int (x2 + 1)), (0, .ref (wB ω + 0)), (1, .int x1)]) hx hb dX12_summers_41 hl (k := 3) rfl rfl (by decide) rfl (fun ls hl => ?_)
      refine lv_goto (tgt := 17) hx hb dX12_summers_44 (by decide) ?_
      exact hrec _ _ H locs ls hH hS (lv_sub hl [2, 3, 1, 0] rfl) h
theorem wX12_summers_l17 (hW : FWM ω) (C : Cx ω p s m args c cX12_summers 4 RX12) (hr : meth.sig.returnType = some .int) (hk : meth.locks = false) {rr : Int32} {μ : Mem} {x1 : Int32} : ∀ (n : Nat) (x2 : Int32) (x3 : Int32) (H : Heap) (locs : List Loc) (ls : Array Slot), Hd ω μ H → FS ω s H locs → lv_has ls 4 [(0, .ref (wB ω + 0)), (1, .int x1), (2, .int x2), (3, .int x3)] → fX12_summers_l17 x1 μ n x2 x3 = some rr → W p l e (rmd 2) s m args below meth c H locs 0 0 (MQ below (QR ω (some (.int rr)) μ) args s 0 0 (wA ω)) (F0 m 17 ls []) := by
  intro n
  induction n with
  | zero => intro x2 x3 H locs ls hH hS hl h; cases h
  | succ n ih => intro x2 x3 H locs ls hH hS hl h; exact wX12_summers_s17 hW C hr hk ih hH hS hl h
set_option maxHeartbeats 4000000 in
set_option maxRecDepth 100000 in
theorem wX12_summers_e (hW : FWM ω) (C : Cx ω p s m args c cX12_summers 4 RX12) (hr : meth.sig.returnType = some .int) (hk : meth.locks = false) {rr : Int32} {μ : Mem} {x1 : Int32} {H : Heap} {locs : List Loc} {ls : Array Slot} (hH : Hd ω μ H) (hS : FS ω s H locs) (hl : lv_has ls 4 [(0, .ref (wB ω + 0)), (1, .int x1)]) (h : fX12_summers x1 μ = some rr) : W p l e (rmd 2) s m args below meth c H locs 0 0 (MQ below (QR ω (some (.int rr)) μ) args s 0 0 (wA ω)) (F0 m 0 ls []) := by
  have hx := C.1
  have hb := C.2.1
  unfold fX12_summers at h
  refine lv_iload_n hx hb dX12_summers_0 rfl (lv_at hl 1 rfl) ?_
  refine lv_iconst (v := 1) hx hb dX12_summers_1 (by decide) ?_
  refine lv_sipush (v := 999) hx hb dX12_summers_2 (by decide) ?_
  obtain ⟨r2, e1, h⟩ := b1_e h
  refine cSi (as := [.int x1, .int 1, .int 999]) (rest := []) (c_X12_in e1) C hl.1 hH hS rfl wd_1506 mw_X12_in wd_1505 rfl (rm_ok (by decide) (by decide)) (Nat.le_of_ble_eq_true rfl) ⟨Nat.zero_le _, Nat.zero_le _⟩ dX12_summers_5 (fun H locs hH hS => ?_)
  refine lv_if_ne (tgt := 13) hx hb dX12_summers_8 (by decide) (fun hc => ?_) (fun hc => ?_)
  · have h := ite_f hc h
    refine lv_iconst (v := 0) hx hb dX12_summers_13 (by decide) ?_
    refine lv_istore_n (lv' := [(2, .int 0), (0, .ref (wB ω + 0)), (1, .int x1)]) hx hb dX12_summers_14 rfl hl (by decide) rfl (fun ls hl => ?_)
    refine lv_iconst (v := 0) hx hb dX12_summers_15 (by decide) ?_
    refine lv_istore_n (lv' := [(3, .int 0), (2, .int 0), (0, .ref (wB ω + 0)), (1, .int x1)]) hx hb dX12_summers_16 rfl hl (by decide) rfl (fun ls hl => ?_)
    exact wX12_summers_l17 hW C hr hk FU _ _ H locs ls hH hS (lv_sub hl [2, 3, 1, 0] rfl) h
  · have h := ite_t hc h
    refine lv_iconst (v := (-1)) hx hb dX12_summers_11 (by decide) ?_
    exact h_iret C hr hk hH hS rfl (by cases h; rfl) dX12_summers_12
theorem c_X12_summers {l : Launch} {ω : WW} {x1 : Int32} (hW : FWM ω) {μ : Mem} {rr : Int32} (h : fX12_summers x1 μ = some rr) : Con l yX12_summers cX12_summers 4 (some .int) 2 ω [.ref (wB ω + 0), .int x1] μ (some (.int rr)) μ :=
  con_of (by decide) (Nat.le_of_ble_eq_true rfl) (fun p e s m args below meth c ls C hr hk hl hH hS => wX12_summers_e hW C hr hk hH hS (lv_sub hl [0, 1] rfl) h)
set_option maxHeartbeats 4000000 in
set_option maxRecDepth 100000 in
theorem wX12_tell_e (hW : FWM ω) (C : Cx ω p s m args c cX12_tell 4 RX12) (hr : meth.sig.returnType = some .int) (hk : meth.locks = false) {rr : Int32} {μo : Mem} {x1 : Int32} {x2 : Int32} {x3 : Int32} {μ : Mem} {H : Heap} {locs : List Loc} {ls : Array Slot} (hH : Hd ω μ H) (hS : FS ω s H locs) (hl : lv_has ls 4 [(0, .ref (wB ω + 0)), (1, .int x1), (2, .int x2), (3, .int x3)]) (h : fX12_tell x1 x2 x3 μ = some (rr, μo)) : W p l e (rmd 2) s m args below meth c H locs 0 0 (MQ below (QR ω (some (.int rr)) μo) args s 0 0 (wA ω)) (F0 m 0 ls []) := by
  have hx := C.1
  have hb := C.2.1
  unfold fX12_tell at h
  refine lv_aload_n hx hb dX12_tell_0 rfl (lv_at hl 0 rfl) ?_
  refine g_1250 C hH (jM_0 hW) dX12_tell_1 ?_
  refine lv_bipush (v := 20) hx hb dX12_tell_4 (by decide) ?_
  refine lv_icmp_eq (tgt := 29) hx hb dX12_tell_6 (by decide) (fun hc => ?_) (fun hc => ?_)
  · have h := ite_t hc h
    refine lv_iconst (v := (-1)) hx hb dX12_tell_29 (by decide) ?_
    exact h_iret C hr hk hH hS rfl (by cases h; rfl) dX12_tell_30
  · have h := ite_f hc h
    refine lv_iload_n hx hb dX12_tell_9 rfl (lv_at hl 1 rfl) ?_
    refine lv_iconst (v := 0) hx hb dX12_tell_10 (by decide) ?_
    refine lv_iconst (v := 3) hx hb dX12_tell_11 (by decide) ?_
    obtain ⟨r2, e1, h⟩ := b1_e h
    refine cSi (as := [.int x1, .int 0, .int 3]) (rest := []) (c_X12_in e1) C hl.1 hH hS rfl wd_1506 mw_X12_in wd_1505 rfl (rm_ok (by decide) (by decide)) (Nat.le_of_ble_eq_true rfl) ⟨Nat.zero_le _, Nat.zero_le _⟩ dX12_tell_12 (fun H locs hH hS => ?_)
    refine lv_if_eq (tgt := 29) hx hb dX12_tell_15 (by decide) (fun hc => ?_) (fun hc => ?_)
    · have h := ite_t hc h
      refine lv_iconst (v := (-1)) hx hb dX12_tell_29 (by decide) ?_
      exact h_iret C hr hk hH hS rfl (by cases h; rfl) dX12_tell_30
    · have h := ite_f hc h
      refine lv_iload_n hx hb dX12_tell_18 rfl (lv_at hl 2 rfl) ?_
      refine lv_iconst (v := 0) hx hb dX12_tell_19 (by decide) ?_
      refine lv_sipush (v := 999) hx hb dX12_tell_20 (by decide) ?_
      obtain ⟨r4, e3, h⟩ := b1_e h
      refine cSi (as := [.int x2, .int 0, .int 999]) (rest := []) (c_X12_in e3) C hl.1 hH hS rfl wd_1506 mw_X12_in wd_1505 rfl (rm_ok (by decide) (by decide)) (Nat.le_of_ble_eq_true rfl) ⟨Nat.zero_le _, Nat.zero_le _⟩ dX12_tell_23 (fun H locs hH hS => ?_)
      refine lv_if_ne (tgt := 31) hx hb dX12_tell_26 (by decide) (fun hc => ?_) (fun hc => ?_)
      · have h := ite_f hc h
        refine lv_aload_n hx hb dX12_tell_31 rfl (lv_at hl 0 rfl) ?_
        refine g_1251 (i := 44) C hH (jM_0 hW) rfl dX12_tell_32 ?_
        refine lv_aload_n hx hb dX12_tell_35 rfl (lv_at hl 0 rfl) ?_
        refine g_1250 C hH (jM_0 hW) dX12_tell_36 ?_
        refine lv_iload_n hx hb dX12_tell_39 rfl (lv_at hl 1 rfl) ?_
        obtain ⟨b5, h⟩ := gd_e h
        obtain ⟨μ6, e7, h⟩ := bd_e h
        refine h_iast C hH hS (jM_44 hW).1 (jM_44 hW).2.1 b5 dX12_tell_40 (fun H locs hH hS => ?_)
        have hH := Hd.to e7 hH
        refine lv_aload_n hx hb dX12_tell_41 rfl (lv_at hl 0 rfl) ?_
        refine g_1252 (i := 45) C hH (jM_0 hW) rfl dX12_tell_42 ?_
        refine lv_aload_n hx hb dX12_tell_45 rfl (lv_at hl 0 rfl) ?_
        refine g_1250 C hH (jM_0 hW) dX12_tell_46 ?_
        refine lv_iload_n hx hb dX12_tell_49 rfl (lv_at hl 2 rfl) ?_
        obtain ⟨b8, h⟩ := gd_e h
        obtain ⟨μ9, e10, h⟩ := bd_e h
        refine h_iast C hH hS (jM_45 hW).1 (jM_45 hW).2.1 b8 dX12_tell_50 (fun H locs hH hS => ?_)
        have hH := Hd.to e10 hH
        refine lv_aload_n hx hb dX12_tell_51 rfl (lv_at hl 0 rfl) ?_
        refine g_1253 (i := 46) C hH (jM_0 hW) rfl dX12_tell_52 ?_
        refine lv_aload_n hx hb dX12_tell_55 rfl (lv_at hl 0 rfl) ?_
        refine g_1250 C hH (jM_0 hW) dX12_tell_56 ?_
        refine lv_iload_n hx hb dX12_tell_59 rfl (lv_at hl 3 rfl) ?_
        obtain ⟨b11, h⟩ := gd_e h
        obtain ⟨μ12, e13, h⟩ := bd_e h
        refine h_zast (y := x3 &&& 1) C hH hS (jM_46 hW).1 (jM_46 hW).2.1 b11 rfl dX12_tell_60 (fun H locs hH hS => ?_)
        have hH := Hd.to e13 hH
        refine lv_aload_n hx hb dX12_tell_61 rfl (lv_at hl 0 rfl) ?_
        refine lv_dup hx hb dX12_tell_62 rfl ?_
        refine g_1250 C hH (jM_0 hW) dX12_tell_63 ?_
        refine lv_iconst (v := 1) hx hb dX12_tell_66 (by decide) ?_
        refine lv_iadd hx hb dX12_tell_67 ?_
        obtain ⟨μ14, e15, h⟩ := bd_e h
        refine p_1250 C hH hS (jM_0 hW) dX12_tell_68 (fun H locs hH hS => ?_)
        have hH := Hd.to e15 hH
        refine lv_aload_n hx hb dX12_tell_71 rfl (lv_at hl 0 rfl) ?_
        refine g_1250 C hH (jM_0 hW) dX12_tell_72 ?_
        refine lv_iconst (v := 1) hx hb dX12_tell_75 (by decide) ?_
        refine lv_isub hx hb dX12_tell_76 ?_
        exact h_iret C hr hk hH hS rfl (by cases h; rfl) dX12_tell_77
      · have h := ite_t hc h
        refine lv_iconst (v := (-1)) hx hb dX12_tell_29 (by decide) ?_
        exact h_iret C hr hk hH hS rfl (by cases h; rfl) dX12_tell_30
theorem c_X12_tell {l : Launch} {ω : WW} {x1 : Int32} {x2 : Int32} {x3 : Int32} (hW : FWM ω) {μ : Mem} {rr : Int32} {μo : Mem} (h : fX12_tell x1 x2 x3 μ = some (rr, μo)) : Con l yX12_tell cX12_tell 4 (some .int) 2 ω [.ref (wB ω + 0), .int x1, .int x2, .int x3] μ (some (.int rr)) μo :=
  con_of (by decide) (Nat.le_of_ble_eq_true rfl) (fun p e s m args below meth c ls C hr hk hl hH hS => wX12_tell_e hW C hr hk hH hS (lv_sub hl [0, 1, 2, 3] rfl) h)
set_option maxHeartbeats 4000000 in
set_option maxRecDepth 100000 in
theorem wX12_then_e (hW : FWM ω) (C : Cx ω p s m args c cX12_then 4 RX12) (hr : meth.sig.returnType = some .int) (hk : meth.locks = false) {rr : Int32} {μo : Mem} {x1 : Int32} {x2 : Int32} {x3 : Int32} {μ : Mem} {H : Heap} {locs : List Loc} {ls : Array Slot} (hH : Hd ω μ H) (hS : FS ω s H locs) (hl : lv_has ls 4 [(0, .ref (wB ω + 0)), (1, .int x1), (2, .int x2), (3, .int x3)]) (h : fX12_then x1 x2 x3 μ = some (rr, μo)) : W p l e (rmd 8) s m args below meth c H locs 0 0 (MQ below (QR ω (some (.int rr)) μo) args s 0 0 (wA ω)) (F0 m 0 ls []) := by
  have hx := C.1
  have hb := C.2.1
  unfold fX12_then at h
  refine lv_aload_n hx hb dX12_then_0 rfl (lv_at hl 0 rfl) ?_
  refine lv_iload_n hx hb dX12_then_1 rfl (lv_at hl 1 rfl) ?_
  obtain ⟨r2, e1, h⟩ := b1_e h
  refine cVi (as := [.int x1]) (rest := []) (c_X12_isHouse hW e1) C hl.1 hH hS rfl (jM_0 hW) rfl wd_53 wd_1503 mw_X12_isHouse wd_1501 rfl (rm_ok (by decide) (by decide)) (Nat.le_of_ble_eq_true rfl) ⟨Nat.zero_le _, Nat.zero_le _⟩ (by decide) dX12_then_2 (fun H locs hH hS => ?_)
  refine lv_if_eq (tgt := 24) hx hb dX12_then_5 (by decide) (fun hc => ?_) (fun hc => ?_)
  · have h := ite_t hc h
    refine lv_iconst (v := (-1)) hx hb dX12_then_24 (by decide) ?_
    exact h_iret C hr hk hH hS rfl (by cases h; rfl) dX12_then_25
  · have h := ite_f hc h
    refine lv_iload_n hx hb dX12_then_8 rfl (lv_at hl 2 rfl) ?_
    obtain ⟨r4, e3, h⟩ := b1_e h
    refine cSi (as := [.int x2]) (rest := []) (c_X12_isLong e3) C hl.1 hH hS rfl wd_1584 mw_X12_isLong wd_1583 rfl (rm_ok (by decide) (by decide)) (Nat.le_of_ble_eq_true rfl) ⟨Nat.zero_le _, Nat.zero_le _⟩ dX12_then_9 (fun H locs hH hS => ?_)
    refine lv_if_eq (tgt := 24) hx hb dX12_then_12 (by decide) (fun hc => ?_) (fun hc => ?_)
    · have h := ite_t hc h
      refine lv_iconst (v := (-1)) hx hb dX12_then_24 (by decide) ?_
      exact h_iret C hr hk hH hS rfl (by cases h; rfl) dX12_then_25
    · have h := ite_f hc h
      refine lv_iload_n hx hb dX12_then_15 rfl (lv_at hl 3 rfl) ?_
      refine lv_iconst (v := 0) hx hb dX12_then_16 (by decide) ?_
      refine lv_iconst (v := 2) hx hb dX12_then_17 (by decide) ?_
      obtain ⟨r6, e5, h⟩ := b1_e h
      refine cSi (as := [.int x3, .int 0, .int 2]) (rest := []) (c_X12_in e5) C hl.1 hH hS rfl wd_1506 mw_X12_in wd_1505 rfl (rm_ok (by decide) (by decide)) (Nat.le_of_ble_eq_true rfl) ⟨Nat.zero_le _, Nat.zero_le _⟩ dX12_then_18 (fun H locs hH hS => ?_)
      refine lv_if_ne (tgt := 26) hx hb dX12_then_21 (by decide) (fun hc => ?_) (fun hc => ?_)
      · have h := ite_f hc h
        refine lv_aload_n hx hb dX12_then_26 rfl (lv_at hl 0 rfl) ?_
        obtain ⟨μ8, e7, h⟩ := b1_e h
        refine cVv (as := []) (rest := []) (c_X12_copies hW e7) C hl.1 hH hS rfl (jM_0 hW) rfl wd_54 wd_1510 mw_X12_copies wd_1508 rfl (rm_ok (by decide) (by decide)) (Nat.le_of_ble_eq_true rfl) ⟨Nat.zero_le _, Nat.zero_le _⟩ (by decide) dX12_then_27 (fun H locs hH hS => ?_)
        refine lv_aload_n hx hb dX12_then_30 rfl (lv_at hl 0 rfl) ?_
        refine lv_iload_n hx hb dX12_then_31 rfl (lv_at hl 2 rfl) ?_
        obtain ⟨μ10, e9, h⟩ := b1_e h
        refine cVv (as := [.int x2]) (rest := []) (c_X12_goes hW e9) C hl.1 hH hS rfl (jM_0 hW) rfl wd_66 wd_1588 mw_X12_goes wd_1586 rfl (rm_ok (by decide) (by decide)) (Nat.le_of_ble_eq_true rfl) ⟨Nat.zero_le _, Nat.zero_le _⟩ (by decide) dX12_then_32 (fun H locs hH hS => ?_)
        refine lv_iload_n hx hb dX12_then_35 rfl (lv_at hl 3 rfl) ?_
        refine lv_if_ne (tgt := 51) hx hb dX12_then_36 (by decide) (fun hc => ?_) (fun hc => ?_)
        · have h := ite_f hc h
          refine lv_iload_n hx hb dX12_then_51 rfl (lv_at hl 3 rfl) ?_
          refine lv_iconst (v := 1) hx hb dX12_then_52 (by decide) ?_
          refine lv_icmp_ne (tgt := 68) hx hb dX12_then_53 (by decide) (fun hc => ?_) (fun hc => ?_)
          · have h := ite_f hc h
            refine lv_aload_n hx hb dX12_then_68 rfl (lv_at hl 0 rfl) ?_
            refine g_1235 (i := 32) C hH (jM_0 hW) rfl dX12_then_69 ?_
            refine lv_iload_n hx hb dX12_then_72 rfl (lv_at hl 1 rfl) ?_
            obtain ⟨b11, h⟩ := gd_e h
            refine h_iald C hH (jM_32 hW).1 (jM_32 hW).2.1 b11 dX12_then_73 ?_
            exact h_iret C hr hk hH hS rfl (by cases h; rfl) dX12_then_74
          · have h := ite_t hc h
            refine lv_aload_n hx hb dX12_then_56 rfl (lv_at hl 0 rfl) ?_
            refine g_1235 (i := 32) C hH (jM_0 hW) rfl dX12_then_57 ?_
            refine lv_bipush (v := 12) hx hb dX12_then_60 (by decide) ?_
            refine lv_iload_n hx hb dX12_then_62 rfl (lv_at hl 1 rfl) ?_
            refine lv_iadd hx hb dX12_then_63 ?_
            obtain ⟨b12, h⟩ := gd_e h
            refine h_iald C hH (jM_32 hW).1 (jM_32 hW).2.1 b12 dX12_then_64 ?_
            refine lv_goto (tgt := 74) hx hb dX12_then_65 (by decide) ?_
            exact h_iret C hr hk hH hS rfl (by cases h; rfl) dX12_then_74
        · have h := ite_t hc h
          refine lv_aload_n hx hb dX12_then_39 rfl (lv_at hl 0 rfl) ?_
          refine g_1235 (i := 32) C hH (jM_0 hW) rfl dX12_then_40 ?_
          refine lv_bipush (v := 6) hx hb dX12_then_43 (by decide) ?_
          refine lv_iload_n hx hb dX12_then_45 rfl (lv_at hl 1 rfl) ?_
          refine lv_iadd hx hb dX12_then_46 ?_
          obtain ⟨b13, h⟩ := gd_e h
          refine h_iald C hH (jM_32 hW).1 (jM_32 hW).2.1 b13 dX12_then_47 ?_
          refine lv_goto (tgt := 74) hx hb dX12_then_48 (by decide) ?_
          exact h_iret C hr hk hH hS rfl (by cases h; rfl) dX12_then_74
      · have h := ite_t hc h
        refine lv_iconst (v := (-1)) hx hb dX12_then_24 (by decide) ?_
        exact h_iret C hr hk hH hS rfl (by cases h; rfl) dX12_then_25
theorem c_X12_then {l : Launch} {ω : WW} {x1 : Int32} {x2 : Int32} {x3 : Int32} (hW : FWM ω) {μ : Mem} {rr : Int32} {μo : Mem} (h : fX12_then x1 x2 x3 μ = some (rr, μo)) : Con l yX12_then cX12_then 4 (some .int) 8 ω [.ref (wB ω + 0), .int x1, .int x2, .int x3] μ (some (.int rr)) μo :=
  con_of (by decide) (Nat.le_of_ble_eq_true rfl) (fun p e s m args below meth c ls C hr hk hl hH hS => wX12_then_e hW C hr hk hH hS (lv_sub hl [0, 1, 2, 3] rfl) h)
set_option maxHeartbeats 4000000 in
set_option maxRecDepth 100000 in
theorem wX12_twins_b63 (hW : FWM ω) (C : Cx ω p s m args c cX12_twins 6 RX12) (hr : meth.sig.returnType = some .int) (hk : meth.locks = false) {rr : Int32} {μ : Mem} {x1 : Int32} {x4 : Int32} {x5 : Int32} {rec : Int32 → Int32 → Int32 → Option Int32} (hrec : ∀ (z2 : Int32) (z3 : Int32) (z5 : Int32) (H : Heap) (locs : List Loc) (ls : Array Slot), Hd ω μ H → FS ω s H locs → lv_has ls 6 [(0, .ref (wB ω + 0)), (1, .int x1), (2, .int z2), (3, .int z3), (4, .int x4), (5, .int z5)] → rec z2 z3 z5 = some rr → W p l e (rmd 3) s m args below meth c H locs 0 0 (MQ below (QR ω (some (.int rr)) μ) args s 0 0 (wA ω)) (F0 m 35 ls [])) {K : Int32 → Int32 → Option Int32} (hK : ∀ (z2 : Int32) (z3 : Int32) (H : Heap) (locs : List Loc) (ls : Array Slot), Hd ω μ H → FS ω s H locs → lv_has ls 6 [(0, .ref (wB ω + 0)), (1, .int x1), (2, .int z2), (3, .int z3), (4, .int x4)] → K z2 z3 = some rr → W p l e (rmd 3) s m args below meth c H locs 0 0 (MQ below (QR ω (some (.int rr)) μ) args s 0 0 (wA ω)) (F0 m 87 ls [])) {H : Heap} {locs : List Loc} {ls : Array Slot} (hH : Hd ω μ H) (hS : FS ω s H locs) (hl : lv_has ls 6 [(0, .ref (wB ω + 0)), (1, .int x1), (4, .int x4), (5, .int x5)]) (h : fX12_twins_b63 rec K x4 x5 μ = some rr) : W p l e (rmd 3) s m args below meth c H locs 0 0 (MQ below (QR ω (some (.int rr)) μ) args s 0 0 (wA ω)) (F0 m 63 ls []) := by
  have hx := C.1
  have hb := C.2.1
  unfold fX12_twins_b63 at h
  refine lv_bipush (v := 10) hx hb dX12_twins_63 (by decide) ?_
  refine lv_iload hx hb dX12_twins_65 (lv_at hl 2 rfl) ?_
  refine lv_imul hx hb dX12_twins_67 ?_
  refine lv_iload hx hb dX12_twins_68 (lv_at hl 3 rfl) ?_
  refine lv_iadd hx hb dX12_twins_70 ?_
  obtain ⟨y9, e10, h⟩ := bd_e h
  refine h_topi e10 ?_
  refine lv_istore_n (lv' := [(2, .int y9), (0, .ref (wB ω + 0)), (1, .int x1), (4, .int x4), (5, .int x5)]) hx hb dX12_twins_71 rfl hl (by decide) rfl (fun ls hl => ?_)
  refine lv_aload_n hx hb dX12_twins_72 rfl (lv_at hl 1 rfl) ?_
  refine lv_iload hx hb dX12_twins_73 (lv_at hl 3 rfl) ?_
  refine lv_iload hx hb dX12_twins_75 (lv_at hl 4 rfl) ?_
  obtain ⟨r12, e11, h⟩ := b1_e h
  refine cVi (as := [.int x4, .int x5]) (rest := []) (c_X12_unlike hW e11) C hl.1 hH hS rfl (jM_0 hW) rfl wd_88 wd_1755 mw_X12_unlike wd_1753 rfl (rm_ok (by decide) (by decide)) (Nat.le_of_ble_eq_true rfl) ⟨Nat.zero_le _, Nat.zero_le _⟩ (by decide) dX12_twins_77 (fun H locs hH hS => ?_)
  refine lv_istore_n (lv' := [(3, .int r12), (2, .int y9), (0, .ref (wB ω + 0)), (1, .int x1), (4, .int x4), (5, .int x5)]) hx hb dX12_twins_80 rfl hl (by decide) rfl (fun ls hl => ?_)
  refine lv_iinc (v := x5 + 1) (lv' := [(5, .int (x5 + 1)), (3, .int r12), (2, .int y9), (0, .ref (wB ω + 0)), (1, .int x1), (4, .int x4)]) hx hb dX12_twins_81 hl (k := 5) rfl rfl (by decide) rfl (fun ls hl => ?_)
  refine lv_goto (tgt := 35) hx hb dX12_twins_84 (by decide) ?_
  exact hrec _ _ _ H locs ls hH hS (lv_sub hl [3, 4, 2, 1, 5, 0] rfl) h
set_option maxHeartbeats 4000000 in
set_option maxRecDepth 100000 in
theorem wX12_twins_s35 (hW : FWM ω) (C : Cx ω p s m args c cX12_twins 6 RX12) (hr : meth.sig.returnType = some .int) (hk : meth.locks = false) {rr : Int32} {μ : Mem} {x1 : Int32} {x2 : Int32} {x3 : Int32} {x4 : Int32} {x5 : Int32} {rec : Int32 → Int32 → Int32 → Option Int32} (hrec : ∀ (z2 : Int32) (z3 : Int32) (z5 : Int32) (H : Heap) (locs : List Loc) (ls : Array Slot), Hd ω μ H → FS ω s H locs → lv_has ls 6 [(0, .ref (wB ω + 0)), (1, .int x1), (2, .int z2), (3, .int z3), (4, .int x4), (5, .int z5)] → rec z2 z3 z5 = some rr → W p l e (rmd 3) s m args below meth c H locs 0 0 (MQ below (QR ω (some (.int rr)) μ) args s 0 0 (wA ω)) (F0 m 35 ls [])) {K : Int32 → Int32 → Option Int32} (hK : ∀ (z2 : Int32) (z3 : Int32) (H : Heap) (locs : List Loc) (ls : Array Slot), Hd ω μ H → FS ω s H locs → lv_has ls 6 [(0, .ref (wB ω + 0)), (1, .int x1), (2, .int z2), (3, .int z3), (4, .int x4)] → K z2 z3 = some rr → W p l e (rmd 3) s m args below meth c H locs 0 0 (MQ below (QR ω (some (.int rr)) μ) args s 0 0 (wA ω)) (F0 m 87 ls [])) {H : Heap} {locs : List Loc} {ls : Array Slot} (hH : Hd ω μ H) (hS : FS ω s H locs) (hl : lv_has ls 6 [(0, .ref (wB ω + 0)), (1, .int x1), (2, .int x2), (3, .int x3), (4, .int x4), (5, .int x5)]) (h : fX12_twins_s35 rec K x4 x2 x3 x5 μ = some rr) : W p l e (rmd 3) s m args below meth c H locs 0 0 (MQ below (QR ω (some (.int rr)) μ) args s 0 0 (wA ω)) (F0 m 35 ls []) := by
  have hx := C.1
  have hb := C.2.1
  unfold fX12_twins_s35 at h
  refine lv_iload hx hb dX12_twins_35 (lv_at hl 5 rfl) ?_
  refine lv_aload_n hx hb dX12_twins_37 rfl (lv_at hl 0 rfl) ?_
  obtain ⟨r8, e7, h⟩ := b1_e h
  refine cVi (as := []) (rest := [.int x5]) (c_X12_many hW e7) C hl.1 hH hS rfl (jM_0 hW) rfl wd_31 wd_1182 mw_X12_many wd_1180 rfl (rm_ok (by decide) (by decide)) (Nat.le_of_ble_eq_true rfl) ⟨Nat.zero_le _, Nat.zero_le _⟩ (by decide) dX12_twins_38 (fun H locs hH hS => ?_)
  refine lv_icmp_ge (tgt := 87) hx hb dX12_twins_41 (by decide) (fun hc => ?_) (fun hc => ?_)
  · have h := ite_t hc h
    exact hK _ _ H locs ls hH hS (lv_sub hl [0, 1, 2, 3, 4] rfl) h
  · have h := ite_f hc h
    refine lv_iload_n hx hb dX12_twins_44 rfl (lv_at hl 2 rfl) ?_
    refine lv_if_lt (tgt := 63) hx hb dX12_twins_45 (by decide) (fun hc => ?_) (fun hc => ?_)
    · have h := ite_t hc h
      exact wX12_twins_b63 hW C hr hk hrec hK hH hS (lv_sub hl [0, 1, 4, 5] rfl) h
    · have h := ite_f hc h
      refine lv_aload_n hx hb dX12_twins_48 rfl (lv_at hl 0 rfl) ?_
      refine lv_iload hx hb dX12_twins_49 (lv_at hl 4 rfl) ?_
      refine lv_iload hx hb dX12_twins_51 (lv_at hl 5 rfl) ?_
      obtain ⟨r14, e13, h⟩ := b1_e h
      refine cVi (as := [.int x4, .int x5]) (rest := []) (c_X12_unlike hW e13) C hl.1 hH hS rfl (jM_0 hW) rfl wd_88 wd_1755 mw_X12_unlike wd_1753 rfl (rm_ok (by decide) (by decide)) (Nat.le_of_ble_eq_true rfl) ⟨Nat.zero_le _, Nat.zero_le _⟩ (by decide) dX12_twins_53 (fun H locs hH hS => ?_)
      refine lv_iload_n hx hb dX12_twins_56 rfl (lv_at hl 3 rfl) ?_
      refine lv_icmp_lt (tgt := 63) hx hb dX12_twins_57 (by decide) (fun hc => ?_) (fun hc => ?_)
      · have h := ite_t hc h
        exact wX12_twins_b63 hW C hr hk hrec hK hH hS (lv_sub hl [0, 1, 4, 5] rfl) h
      · have h := ite_f hc h
        refine lv_goto (tgt := 81) hx hb dX12_twins_60 (by decide) ?_
        refine lv_iinc (v := x5 + 1) (lv' := [(5, .int (x5 + 1)), (0, .ref (wB ω + 0)), (1, .int x1), (2, .int x2), (3, .int x3), (4, .int x4)]) hx hb dX12_twins_81 hl (k := 5) rfl rfl (by decide) rfl (fun ls hl => ?_)
        refine lv_goto (tgt := 35) hx hb dX12_twins_84 (by decide) ?_
        exact hrec _ _ _ H locs ls hH hS (lv_sub hl [1, 2, 3, 4, 5, 0] rfl) h
theorem wX12_twins_l35 (hW : FWM ω) (C : Cx ω p s m args c cX12_twins 6 RX12) (hr : meth.sig.returnType = some .int) (hk : meth.locks = false) {rr : Int32} {μ : Mem} {x4 : Int32} {x1 : Int32} {K : Int32 → Int32 → Option Int32} (hK : ∀ (z2 : Int32) (z3 : Int32) (H : Heap) (locs : List Loc) (ls : Array Slot), Hd ω μ H → FS ω s H locs → lv_has ls 6 [(0, .ref (wB ω + 0)), (1, .int x1), (2, .int z2), (3, .int z3), (4, .int x4)] → K z2 z3 = some rr → W p l e (rmd 3) s m args below meth c H locs 0 0 (MQ below (QR ω (some (.int rr)) μ) args s 0 0 (wA ω)) (F0 m 87 ls [])) : ∀ (n : Nat) (x2 : Int32) (x3 : Int32) (x5 : Int32) (H : Heap) (locs : List Loc) (ls : Array Slot), Hd ω μ H → FS ω s H locs → lv_has ls 6 [(0, .ref (wB ω + 0)), (1, .int x1), (2, .int x2), (3, .int x3), (4, .int x4), (5, .int x5)] → fX12_twins_l35 K x4 μ n x2 x3 x5 = some rr → W p l e (rmd 3) s m args below meth c H locs 0 0 (MQ below (QR ω (some (.int rr)) μ) args s 0 0 (wA ω)) (F0 m 35 ls []) := by
  intro n
  induction n with
  | zero => intro x2 x3 x5 H locs ls hH hS hl h; cases h
  | succ n ih => intro x2 x3 x5 H locs ls hH hS hl h; exact wX12_twins_s35 hW C hr hk ih hK hH hS hl h
set_option maxHeartbeats 4000000 in
set_option maxRecDepth 100000 in
theorem wX12_twins_s20 (hW : FWM ω) (C : Cx ω p s m args c cX12_twins 6 RX12) (hr : meth.sig.returnType = some .int) (hk : meth.locks = false) {rr : Int32} {μ : Mem} {x1 : Int32} {x2 : Int32} {x3 : Int32} {x4 : Int32} {rec : Int32 → Int32 → Int32 → Option Int32} (hrec : ∀ (z2 : Int32) (z3 : Int32) (z4 : Int32) (H : Heap) (locs : List Loc) (ls : Array Slot), Hd ω μ H → FS ω s H locs → lv_has ls 6 [(0, .ref (wB ω + 0)), (1, .int x1), (2, .int z2), (3, .int z3), (4, .int z4)] → rec z2 z3 z4 = some rr → W p l e (rmd 3) s m args below meth c H locs 0 0 (MQ below (QR ω (some (.int rr)) μ) args s 0 0 (wA ω)) (F0 m 20 ls [])) {H : Heap} {locs : List Loc} {ls : Array Slot} (hH : Hd ω μ H) (hS : FS ω s H locs) (hl : lv_has ls 6 [(0, .ref (wB ω + 0)), (1, .int x1), (2, .int x2), (3, .int x3), (4, .int x4)]) (h : fX12_twins_s20 rec x1 x2 x3 x4 μ = some rr) : W p l e (rmd 3) s m args below meth c H locs 0 0 (MQ below (QR ω (some (.int rr)) μ) args s 0 0 (wA ω)) (F0 m 20 ls []) := by
  have hx := C.1
  have hb := C.2.1
  unfold fX12_twins_s20 at h
  refine lv_iload hx hb dX12_twins_20 (lv_at hl 4 rfl) ?_
  refine lv_aload_n hx hb dX12_twins_22 rfl (lv_at hl 0 rfl) ?_
  obtain ⟨r4, e3, h⟩ := b1_e h
  refine cVi (as := []) (rest := [.int x4]) (c_X12_many hW e3) C hl.1 hH hS rfl (jM_0 hW) rfl wd_31 wd_1182 mw_X12_many wd_1180 rfl (rm_ok (by decide) (by decide)) (Nat.le_of_ble_eq_true rfl) ⟨Nat.zero_le _, Nat.zero_le _⟩ (by decide) dX12_twins_23 (fun H locs hH hS => ?_)
  refine lv_icmp_ge (tgt := 93) hx hb dX12_twins_26 (by decide) (fun hc => ?_) (fun hc => ?_)
  · have h := ite_t hc h
    refine lv_iload_n hx hb dX12_twins_93 rfl (lv_at hl 1 rfl) ?_
    refine lv_if_ne (tgt := 101) hx hb dX12_twins_94 (by decide) (fun hc => ?_) (fun hc => ?_)
    · have h := ite_f hc h
      refine lv_iload_n hx hb dX12_twins_101 rfl (lv_at hl 3 rfl) ?_
      exact h_iret C hr hk hH hS rfl (by cases h; rfl) dX12_twins_102
    · have h := ite_t hc h
      refine lv_iload_n hx hb dX12_twins_97 rfl (lv_at hl 2 rfl) ?_
      refine lv_goto (tgt := 102) hx hb dX12_twins_98 (by decide) ?_
      exact h_iret C hr hk hH hS rfl (by cases h; rfl) dX12_twins_102
  · have h := ite_f hc h
    refine lv_iload hx hb dX12_twins_29 (lv_at hl 4 rfl) ?_
    refine lv_iconst (v := 1) hx hb dX12_twins_31 (by decide) ?_
    refine lv_iadd hx hb dX12_twins_32 ?_
    obtain ⟨y5, e6, h⟩ := bd_e h
    refine h_topi e6 ?_
    refine lv_istore (lv' := [(5, .int y5), (0, .ref (wB ω + 0)), (1, .int x1), (2, .int x2), (3, .int x3), (4, .int x4)]) hx hb dX12_twins_33 hl (by decide) rfl (fun ls hl => ?_)
    refine wX12_twins_l35 hW C hr hk (fun y15 y16 H locs ls hH hS hl h => ?_) FU _ _ _ H locs ls hH hS (lv_sub hl [1, 2, 3, 4, 5, 0] rfl) h
    refine lv_iinc (v := x4 + 1) (lv' := [(4, .int (x4 + 1)), (0, .ref (wB ω + 0)), (1, .int x1), (2, .int y15), (3, .int y16)]) hx hb dX12_twins_87 hl (k := 4) rfl rfl (by decide) rfl (fun ls hl => ?_)
    refine lv_goto (tgt := 20) hx hb dX12_twins_90 (by decide) ?_
    exact hrec _ _ _ H locs ls hH hS (lv_sub hl [1, 2, 3, 4, 0] rfl) h
theorem wX12_twins_l20 (hW : FWM ω) (C : Cx ω p s m args c cX12_twins 6 RX12) (hr : meth.sig.returnType = some .int) (hk : meth.locks = false) {rr : Int32} {μ : Mem} {x1 : Int32} : ∀ (n : Nat) (x2 : Int32) (x3 : Int32) (x4 : Int32) (H : Heap) (locs : List Loc) (ls : Array Slot), Hd ω μ H → FS ω s H locs → lv_has ls 6 [(0, .ref (wB ω + 0)), (1, .int x1), (2, .int x2), (3, .int x3), (4, .int x4)] → fX12_twins_l20 x1 μ n x2 x3 x4 = some rr → W p l e (rmd 3) s m args below meth c H locs 0 0 (MQ below (QR ω (some (.int rr)) μ) args s 0 0 (wA ω)) (F0 m 20 ls []) := by
  intro n
  induction n with
  | zero => intro x2 x3 x4 H locs ls hH hS hl h; cases h
  | succ n ih => intro x2 x3 x4 H locs ls hH hS hl h; exact wX12_twins_s20 hW C hr hk ih hH hS hl h
set_option maxHeartbeats 4000000 in
set_option maxRecDepth 100000 in
theorem wX12_twins_e (hW : FWM ω) (C : Cx ω p s m args c cX12_twins 6 RX12) (hr : meth.sig.returnType = some .int) (hk : meth.locks = false) {rr : Int32} {μ : Mem} {x1 : Int32} {H : Heap} {locs : List Loc} {ls : Array Slot} (hH : Hd ω μ H) (hS : FS ω s H locs) (hl : lv_has ls 6 [(0, .ref (wB ω + 0)), (1, .int x1)]) (h : fX12_twins x1 μ = some rr) : W p l e (rmd 3) s m args below meth c H locs 0 0 (MQ below (QR ω (some (.int rr)) μ) args s 0 0 (wA ω)) (F0 m 0 ls []) := by
  have hx := C.1
  have hb := C.2.1
  unfold fX12_twins at h
  refine lv_iload_n hx hb dX12_twins_0 rfl (lv_at hl 1 rfl) ?_
  refine lv_iconst (v := 0) hx hb dX12_twins_1 (by decide) ?_
  refine lv_iconst (v := 1) hx hb dX12_twins_2 (by decide) ?_
  obtain ⟨r2, e1, h⟩ := b1_e h
  refine cSi (as := [.int x1, .int 0, .int 1]) (rest := []) (c_X12_in e1) C hl.1 hH hS rfl wd_1506 mw_X12_in wd_1505 rfl (rm_ok (by decide) (by decide)) (Nat.le_of_ble_eq_true rfl) ⟨Nat.zero_le _, Nat.zero_le _⟩ dX12_twins_3 (fun H locs hH hS => ?_)
  refine lv_if_ne (tgt := 11) hx hb dX12_twins_6 (by decide) (fun hc => ?_) (fun hc => ?_)
  · have h := ite_f hc h
    refine lv_bipush (v := (-2)) hx hb dX12_twins_11 (by decide) ?_
    refine lv_istore_n (lv' := [(2, .int (-2)), (0, .ref (wB ω + 0)), (1, .int x1)]) hx hb dX12_twins_13 rfl hl (by decide) rfl (fun ls hl => ?_)
    refine lv_bipush (v := (-2)) hx hb dX12_twins_14 (by decide) ?_
    refine lv_istore_n (lv' := [(3, .int (-2)), (2, .int (-2)), (0, .ref (wB ω + 0)), (1, .int x1)]) hx hb dX12_twins_16 rfl hl (by decide) rfl (fun ls hl => ?_)
    refine lv_iconst (v := 0) hx hb dX12_twins_17 (by decide) ?_
    refine lv_istore (lv' := [(4, .int 0), (3, .int (-2)), (2, .int (-2)), (0, .ref (wB ω + 0)), (1, .int x1)]) hx hb dX12_twins_18 hl (by decide) rfl (fun ls hl => ?_)
    exact wX12_twins_l20 hW C hr hk FU _ _ _ H locs ls hH hS (lv_sub hl [3, 4, 2, 1, 0] rfl) h
  · have h := ite_t hc h
    refine lv_iconst (v := (-1)) hx hb dX12_twins_9 (by decide) ?_
    exact h_iret C hr hk hH hS rfl (by cases h; rfl) dX12_twins_10
theorem c_X12_twins {l : Launch} {ω : WW} {x1 : Int32} (hW : FWM ω) {μ : Mem} {rr : Int32} (h : fX12_twins x1 μ = some rr) : Con l yX12_twins cX12_twins 6 (some .int) 3 ω [.ref (wB ω + 0), .int x1] μ (some (.int rr)) μ :=
  con_of (by decide) (Nat.le_of_ble_eq_true rfl) (fun p e s m args below meth c ls C hr hk hl hH hS => wX12_twins_e hW C hr hk hH hS (lv_sub hl [0, 1] rfl) h)
end WK13
