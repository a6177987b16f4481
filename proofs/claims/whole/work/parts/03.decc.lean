theorem dX9_laysWaves_144 : decode cX9_laysWaves 144 = .ok (.getfield 43, 3) := by decide +kernel
theorem dX9_laysWaves_147 : decode cX9_laysWaves 147 = .ok (.iload_n 1, 1) := by decide +kernel
theorem dX9_laysWaves_148 : decode cX9_laysWaves 148 = .ok (.dup2, 1) := by decide +kernel
theorem dX9_laysWaves_149 : decode cX9_laysWaves 149 = .ok (.iaload, 1) := by decide +kernel
theorem dX9_laysWaves_150 : decode cX9_laysWaves 150 = .ok (.iconst 1, 1) := by decide +kernel
theorem dX9_laysWaves_151 : decode cX9_laysWaves 151 = .ok (.iadd, 1) := by decide +kernel
theorem dX9_laysWaves_152 : decode cX9_laysWaves 152 = .ok (.iastore, 1) := by decide +kernel
theorem dX9_laysWaves_153 : decode cX9_laysWaves 153 = .ok (.iinc 3 1, 3) := by decide +kernel
theorem dX9_laysWaves_156 : decode cX9_laysWaves 156 = .ok (.goto (-78), 3) := by decide +kernel
theorem dX9_laysWaves_159 : decode cX9_laysWaves 159 = .ok (.aload_n 0, 1) := by decide +kernel
theorem dX9_laysWaves_160 : decode cX9_laysWaves 160 = .ok (.getfield 49, 3) := by decide +kernel
theorem dX9_laysWaves_163 : decode cX9_laysWaves 163 = .ok (.iload_n 1, 1) := by decide +kernel
theorem dX9_laysWaves_164 : decode cX9_laysWaves 164 = .ok (.iload_n 2, 1) := by decide +kernel
theorem dX9_laysWaves_165 : decode cX9_laysWaves 165 = .ok (.iastore, 1) := by decide +kernel
theorem dX9_laysWaves_166 : decode cX9_laysWaves 166 = .ok (.iinc 1 1, 3) := by decide +kernel
theorem dX9_laysWaves_169 : decode cX9_laysWaves 169 = .ok (.goto (-131), 3) := by decide +kernel
theorem dX9_laysWaves_172 : decode cX9_laysWaves 172 = .ok (.iconst 0, 1) := by decide +kernel
theorem dX9_laysWaves_173 : decode cX9_laysWaves 173 = .ok (.istore_n 1, 1) := by decide +kernel
theorem dX9_laysWaves_174 : decode cX9_laysWaves 174 = .ok (.iload_n 1, 1) := by decide +kernel
theorem dX9_laysWaves_175 : decode cX9_laysWaves 175 = .ok (.aload_n 0, 1) := by decide +kernel
theorem dX9_laysWaves_176 : decode cX9_laysWaves 176 = .ok (.getfield 150, 3) := by decide +kernel
theorem dX9_laysWaves_179 : decode cX9_laysWaves 179 = .ok (.if_icmp .ge 77, 3) := by decide +kernel
theorem dX9_laysWaves_182 : decode cX9_laysWaves 182 = .ok (.aload_n 0, 1) := by decide +kernel
theorem dX9_laysWaves_183 : decode cX9_laysWaves 183 = .ok (.getfield 73, 3) := by decide +kernel
theorem dX9_laysWaves_186 : decode cX9_laysWaves 186 = .ok (.iload_n 1, 1) := by decide +kernel
theorem dX9_laysWaves_187 : decode cX9_laysWaves 187 = .ok (.iconst 0, 1) := by decide +kernel
theorem dX9_laysWaves_188 : decode cX9_laysWaves 188 = .ok (.iastore, 1) := by decide +kernel
theorem dX9_laysWaves_189 : decode cX9_laysWaves 189 = .ok (.iconst 0, 1) := by decide +kernel
theorem dX9_laysWaves_190 : decode cX9_laysWaves 190 = .ok (.istore_n 2, 1) := by decide +kernel
theorem dX9_laysWaves_191 : decode cX9_laysWaves 191 = .ok (.iload_n 2, 1) := by decide +kernel
theorem dX9_laysWaves_192 : decode cX9_laysWaves 192 = .ok (.aload_n 0, 1) := by decide +kernel
theorem dX9_laysWaves_193 : decode cX9_laysWaves 193 = .ok (.getfield 150, 3) := by decide +kernel
theorem dX9_laysWaves_196 : decode cX9_laysWaves 196 = .ok (.if_icmp .ge 54, 3) := by decide +kernel
theorem dX9_laysWaves_199 : decode cX9_laysWaves 199 = .ok (.aload_n 0, 1) := by decide +kernel
theorem dX9_laysWaves_200 : decode cX9_laysWaves 200 = .ok (.getfield 73, 3) := by decide +kernel
theorem dX9_laysWaves_203 : decode cX9_laysWaves 203 = .ok (.iload_n 1, 1) := by decide +kernel
theorem dX9_laysWaves_204 : decode cX9_laysWaves 204 = .ok (.dup2, 1) := by decide +kernel
theorem dX9_laysWaves_205 : decode cX9_laysWaves 205 = .ok (.iaload, 1) := by decide +kernel
theorem dX9_laysWaves_206 : decode cX9_laysWaves 206 = .ok (.aload_n 0, 1) := by decide +kernel
theorem dX9_laysWaves_207 : decode cX9_laysWaves 207 = .ok (.iload_n 2, 1) := by decide +kernel
theorem dX9_laysWaves_208 : decode cX9_laysWaves 208 = .ok (.invokevirtual 160, 3) := by decide +kernel
theorem dX9_laysWaves_211 : decode cX9_laysWaves 211 = .ok (.aload_n 0, 1) := by decide +kernel
theorem dX9_laysWaves_212 : decode cX9_laysWaves 212 = .ok (.iload_n 1, 1) := by decide +kernel
theorem dX9_laysWaves_213 : decode cX9_laysWaves 213 = .ok (.invokevirtual 160, 3) := by decide +kernel
theorem dX9_laysWaves_216 : decode cX9_laysWaves 216 = .ok (.if_icmp .gt 21, 3) := by decide +kernel
theorem dX9_laysWaves_219 : decode cX9_laysWaves 219 = .ok (.aload_n 0, 1) := by decide +kernel
theorem dX9_laysWaves_220 : decode cX9_laysWaves 220 = .ok (.iload_n 2, 1) := by decide +kernel
theorem dX9_laysWaves_221 : decode cX9_laysWaves 221 = .ok (.invokevirtual 160, 3) := by decide +kernel
theorem dX9_laysWaves_224 : decode cX9_laysWaves 224 = .ok (.aload_n 0, 1) := by decide +kernel
theorem dX9_laysWaves_225 : decode cX9_laysWaves 225 = .ok (.iload_n 1, 1) := by decide +kernel
theorem dX9_laysWaves_226 : decode cX9_laysWaves 226 = .ok (.invokevirtual 160, 3) := by decide +kernel
theorem dX9_laysWaves_229 : decode cX9_laysWaves 229 = .ok (.if_icmp .ne 12, 3) := by decide +kernel
theorem dX9_laysWaves_232 : decode cX9_laysWaves 232 = .ok (.iload_n 2, 1) := by decide +kernel
theorem dX9_laysWaves_233 : decode cX9_laysWaves 233 = .ok (.iload_n 1, 1) := by decide +kernel
theorem dX9_laysWaves_234 : decode cX9_laysWaves 234 = .ok (.if_icmp .ge 7, 3) := by decide +kernel
theorem dX9_laysWaves_237 : decode cX9_laysWaves 237 = .ok (.iconst 1, 1) := by decide +kernel
theorem dX9_laysWaves_238 : decode cX9_laysWaves 238 = .ok (.goto 4, 3) := by decide +kernel
theorem dX9_laysWaves_241 : decode cX9_laysWaves 241 = .ok (.iconst 0, 1) := by decide +kernel
theorem dX9_laysWaves_242 : decode cX9_laysWaves 242 = .ok (.iadd, 1) := by decide +kernel
theorem dX9_laysWaves_243 : decode cX9_laysWaves 243 = .ok (.iastore, 1) := by decide +kernel
theorem dX9_laysWaves_244 : decode cX9_laysWaves 244 = .ok (.iinc 2 1, 3) := by decide +kernel
theorem dX9_laysWaves_247 : decode cX9_laysWaves 247 = .ok (.goto (-56), 3) := by decide +kernel
theorem dX9_laysWaves_250 : decode cX9_laysWaves 250 = .ok (.iinc 1 1, 3) := by decide +kernel
theorem dX9_laysWaves_253 : decode cX9_laysWaves 253 = .ok (.goto (-79), 3) := by decide +kernel
theorem dX9_laysWaves_256 : decode cX9_laysWaves 256 = .ok (.aload_n 0, 1) := by decide +kernel
theorem dX9_laysWaves_257 : decode cX9_laysWaves 257 = .ok (.invokevirtual 163, 3) := by decide +kernel
theorem dX9_laysWaves_260 : decode cX9_laysWaves 260 = .ok (.return_, 1) := by decide +kernel
theorem dX9_wave_0 : decode cX9_wave 0 = .ok (.aload_n 0, 1) := by decide +kernel
theorem dX9_wave_1 : decode cX9_wave 1 = .ok (.getfield 150, 3) := by decide +kernel
theorem dX9_wave_4 : decode cX9_wave 4 = .ok (.istore 4, 2) := by decide +kernel
theorem dX9_wave_6 : decode cX9_wave 6 = .ok (.aload_n 0, 1) := by decide +kernel
theorem dX9_wave_7 : decode cX9_wave 7 = .ok (.getfield 55, 3) := by decide +kernel
theorem dX9_wave_10 : decode cX9_wave 10 = .ok (.iload 4, 2) := by decide +kernel
theorem dX9_wave_12 : decode cX9_wave 12 = .ok (.iload_n 2, 1) := by decide +kernel
theorem dX9_wave_13 : decode cX9_wave 13 = .ok (.iastore, 1) := by decide +kernel
theorem dX9_wave_14 : decode cX9_wave 14 = .ok (.aload_n 0, 1) := by decide +kernel
theorem dX9_wave_15 : decode cX9_wave 15 = .ok (.getfield 58, 3) := by decide +kernel
theorem dX9_wave_18 : decode cX9_wave 18 = .ok (.iload 4, 2) := by decide +kernel
theorem dX9_wave_20 : decode cX9_wave 20 = .ok (.iload_n 3, 1) := by decide +kernel
theorem dX9_wave_21 : decode cX9_wave 21 = .ok (.iload_n 2, 1) := by decide +kernel
theorem dX9_wave_22 : decode cX9_wave 22 = .ok (.isub, 1) := by decide +kernel
theorem dX9_wave_23 : decode cX9_wave 23 = .ok (.iastore, 1) := by decide +kernel
theorem dX9_wave_24 : decode cX9_wave 24 = .ok (.aload_n 0, 1) := by decide +kernel
theorem dX9_wave_25 : decode cX9_wave 25 = .ok (.getfield 70, 3) := by decide +kernel
theorem dX9_wave_28 : decode cX9_wave 28 = .ok (.iload 4, 2) := by decide +kernel
theorem dX9_wave_30 : decode cX9_wave 30 = .ok (.iload_n 1, 1) := by decide +kernel
theorem dX9_wave_31 : decode cX9_wave 31 = .ok (.iastore, 1) := by decide +kernel
theorem dX9_wave_32 : decode cX9_wave 32 = .ok (.aload_n 0, 1) := by decide +kernel
theorem dX9_wave_33 : decode cX9_wave 33 = .ok (.getfield 67, 3) := by decide +kernel
theorem dX9_wave_36 : decode cX9_wave 36 = .ok (.iload 4, 2) := by decide +kernel
theorem dX9_wave_38 : decode cX9_wave 38 = .ok (.iload_n 2, 1) := by decide +kernel
theorem dX9_wave_39 : decode cX9_wave 39 = .ok (.iastore, 1) := by decide +kernel
theorem dX9_wave_40 : decode cX9_wave 40 = .ok (.aload_n 0, 1) := by decide +kernel
theorem dX9_wave_41 : decode cX9_wave 41 = .ok (.getfield 64, 3) := by decide +kernel
theorem dX9_wave_44 : decode cX9_wave 44 = .ok (.iload 4, 2) := by decide +kernel
theorem dX9_wave_46 : decode cX9_wave 46 = .ok (.aload_n 0, 1) := by decide +kernel
theorem dX9_wave_47 : decode cX9_wave 47 = .ok (.getfield 34, 3) := by decide +kernel
theorem dX9_wave_50 : decode cX9_wave 50 = .ok (.iload_n 2, 1) := by decide +kernel
theorem dX9_wave_51 : decode cX9_wave 51 = .ok (.iaload, 1) := by decide +kernel
theorem dX9_wave_52 : decode cX9_wave 52 = .ok (.iastore, 1) := by decide +kernel
theorem dX9_wave_53 : decode cX9_wave 53 = .ok (.iload_n 2, 1) := by decide +kernel
theorem dX9_wave_54 : decode cX9_wave 54 = .ok (.istore 5, 2) := by decide +kernel
theorem dX9_wave_56 : decode cX9_wave 56 = .ok (.iload 5, 2) := by decide +kernel
theorem dX9_wave_58 : decode cX9_wave 58 = .ok (.iload_n 3, 1) := by decide +kernel
theorem dX9_wave_59 : decode cX9_wave 59 = .ok (.if_icmp .ge 80, 3) := by decide +kernel
theorem dX9_wave_62 : decode cX9_wave 62 = .ok (.aload_n 0, 1) := by decide +kernel
theorem dX9_wave_63 : decode cX9_wave 63 = .ok (.getfield 34, 3) := by decide +kernel
theorem dX9_wave_66 : decode cX9_wave 66 = .ok (.iload 5, 2) := by decide +kernel
theorem dX9_wave_68 : decode cX9_wave 68 = .ok (.iaload, 1) := by decide +kernel
theorem dX9_wave_69 : decode cX9_wave 69 = .ok (.aload_n 0, 1) := by decide +kernel
theorem dX9_wave_70 : decode cX9_wave 70 = .ok (.getfield 34, 3) := by decide +kernel
theorem dX9_wave_73 : decode cX9_wave 73 = .ok (.aload_n 0, 1) := by decide +kernel
theorem dX9_wave_74 : decode cX9_wave 74 = .ok (.getfield 67, 3) := by decide +kernel
theorem dX9_wave_77 : decode cX9_wave 77 = .ok (.iload 4, 2) := by decide +kernel
theorem dX9_wave_79 : decode cX9_wave 79 = .ok (.iaload, 1) := by decide +kernel
theorem dX9_wave_80 : decode cX9_wave 80 = .ok (.iaload, 1) := by decide +kernel
theorem dX9_wave_81 : decode cX9_wave 81 = .ok (.if_icmp .le 12, 3) := by decide +kernel
theorem dX9_wave_84 : decode cX9_wave 84 = .ok (.aload_n 0, 1) := by decide +kernel
theorem dX9_wave_85 : decode cX9_wave 85 = .ok (.getfield 67, 3) := by decide +kernel
theorem dX9_wave_88 : decode cX9_wave 88 = .ok (.iload 4, 2) := by decide +kernel
theorem dX9_wave_90 : decode cX9_wave 90 = .ok (.iload 5, 2) := by decide +kernel
theorem dX9_wave_92 : decode cX9_wave 92 = .ok (.iastore, 1) := by decide +kernel
theorem dX9_wave_93 : decode cX9_wave 93 = .ok (.aload_n 0, 1) := by decide +kernel
theorem dX9_wave_94 : decode cX9_wave 94 = .ok (.getfield 34, 3) := by decide +kernel
theorem dX9_wave_97 : decode cX9_wave 97 = .ok (.iload 5, 2) := by decide +kernel
theorem dX9_wave_99 : decode cX9_wave 99 = .ok (.iaload, 1) := by decide +kernel
theorem dX9_wave_100 : decode cX9_wave 100 = .ok (.aload_n 0, 1) := by decide +kernel
theorem dX9_wave_101 : decode cX9_wave 101 = .ok (.getfield 64, 3) := by decide +kernel
theorem dX9_wave_104 : decode cX9_wave 104 = .ok (.iload 4, 2) := by decide +kernel
theorem dX9_wave_106 : decode cX9_wave 106 = .ok (.iaload, 1) := by decide +kernel
theorem dX9_wave_107 : decode cX9_wave 107 = .ok (.if_icmp .ge 17, 3) := by decide +kernel
theorem dX9_wave_110 : decode cX9_wave 110 = .ok (.aload_n 0, 1) := by decide +kernel
theorem dX9_wave_111 : decode cX9_wave 111 = .ok (.getfield 64, 3) := by decide +kernel
theorem dX9_wave_114 : decode cX9_wave 114 = .ok (.iload 4, 2) := by decide +kernel
theorem dX9_wave_116 : decode cX9_wave 116 = .ok (.aload_n 0, 1) := by decide +kernel
theorem dX9_wave_117 : decode cX9_wave 117 = .ok (.getfield 34, 3) := by decide +kernel
theorem dX9_wave_120 : decode cX9_wave 120 = .ok (.iload 5, 2) := by decide +kernel
theorem dX9_wave_122 : decode cX9_wave 122 = .ok (.iaload, 1) := by decide +kernel
theorem dX9_wave_123 : decode cX9_wave 123 = .ok (.iastore, 1) := by decide +kernel
theorem dX9_wave_124 : decode cX9_wave 124 = .ok (.aload_n 0, 1) := by decide +kernel
theorem dX9_wave_125 : decode cX9_wave 125 = .ok (.getfield 52, 3) := by decide +kernel
theorem dX9_wave_128 : decode cX9_wave 128 = .ok (.iload 5, 2) := by decide +kernel
theorem dX9_wave_130 : decode cX9_wave 130 = .ok (.iload 4, 2) := by decide +kernel
theorem dX9_wave_132 : decode cX9_wave 132 = .ok (.iastore, 1) := by decide +kernel
theorem dX9_wave_133 : decode cX9_wave 133 = .ok (.iinc 5 1, 3) := by decide +kernel
theorem dX9_wave_136 : decode cX9_wave 136 = .ok (.goto (-80), 3) := by decide +kernel
theorem dX9_wave_139 : decode cX9_wave 139 = .ok (.aload_n 0, 1) := by decide +kernel
theorem dX9_wave_140 : decode cX9_wave 140 = .ok (.getfield 61, 3) := by decide +kernel
theorem dX9_wave_143 : decode cX9_wave 143 = .ok (.iload 4, 2) := by decide +kernel
theorem dX9_wave_145 : decode cX9_wave 145 = .ok (.aload_n 0, 1) := by decide +kernel
theorem dX9_wave_146 : decode cX9_wave 146 = .ok (.getfield 34, 3) := by decide +kernel
theorem dX9_wave_149 : decode cX9_wave 149 = .ok (.aload_n 0, 1) := by decide +kernel
theorem dX9_wave_150 : decode cX9_wave 150 = .ok (.getfield 67, 3) := by decide +kernel
theorem dX9_wave_153 : decode cX9_wave 153 = .ok (.iload 4, 2) := by decide +kernel
theorem dX9_wave_155 : decode cX9_wave 155 = .ok (.iaload, 1) := by decide +kernel
theorem dX9_wave_156 : decode cX9_wave 156 = .ok (.iaload, 1) := by decide +kernel
theorem dX9_wave_157 : decode cX9_wave 157 = .ok (.iastore, 1) := by decide +kernel
theorem dX9_wave_158 : decode cX9_wave 158 = .ok (.aload_n 0, 1) := by decide +kernel
theorem dX9_wave_159 : decode cX9_wave 159 = .ok (.dup, 1) := by decide +kernel
theorem dX9_wave_160 : decode cX9_wave 160 = .ok (.getfield 150, 3) := by decide +kernel
theorem dX9_wave_163 : decode cX9_wave 163 = .ok (.iconst 1, 1) := by decide +kernel
theorem dX9_wave_164 : decode cX9_wave 164 = .ok (.iadd, 1) := by decide +kernel
theorem dX9_wave_165 : decode cX9_wave 165 = .ok (.putfield 150, 3) := by decide +kernel
theorem dX9_wave_168 : decode cX9_wave 168 = .ok (.return_, 1) := by decide +kernel
theorem dX9_height_0 : decode cX9_height 0 = .ok (.aload_n 0, 1) := by decide +kernel
theorem dX9_height_1 : decode cX9_height 1 = .ok (.getfield 61, 3) := by decide +kernel
theorem dX9_height_4 : decode cX9_height 4 = .ok (.iload_n 1, 1) := by decide +kernel
theorem dX9_height_5 : decode cX9_height 5 = .ok (.iaload, 1) := by decide +kernel
theorem dX9_height_6 : decode cX9_height 6 = .ok (.aload_n 0, 1) := by decide +kernel
theorem dX9_height_7 : decode cX9_height 7 = .ok (.getfield 64, 3) := by decide +kernel
theorem dX9_height_10 : decode cX9_height 10 = .ok (.iload_n 1, 1) := by decide +kernel
theorem dX9_height_11 : decode cX9_height 11 = .ok (.iaload, 1) := by decide +kernel
theorem dX9_height_12 : decode cX9_height 12 = .ok (.isub, 1) := by decide +kernel
theorem dX9_height_13 : decode cX9_height 13 = .ok (.ireturn, 1) := by decide +kernel
theorem dX9_highestMany_0 : decode cX9_highestMany 0 = .ok (.aload_n 0, 1) := by decide +kernel
theorem dX9_highestMany_1 : decode cX9_highestMany 1 = .ok (.getfield 150, 3) := by decide +kernel
theorem dX9_highestMany_4 : decode cX9_highestMany 4 = .ok (.ifCond .ne 7, 3) := by decide +kernel
theorem dX9_highestMany_7 : decode cX9_highestMany 7 = .ok (.iconst 0, 1) := by decide +kernel
theorem dX9_highestMany_8 : decode cX9_highestMany 8 = .ok (.goto 23, 3) := by decide +kernel
theorem dX9_highestMany_11 : decode cX9_highestMany 11 = .ok (.aload_n 0, 1) := by decide +kernel
theorem dX9_highestMany_12 : decode cX9_highestMany 12 = .ok (.getfield 150, 3) := by decide +kernel
theorem dX9_highestMany_15 : decode cX9_highestMany 15 = .ok (.iload_n 1, 1) := by decide +kernel
theorem dX9_highestMany_16 : decode cX9_highestMany 16 = .ok (.idiv, 1) := by decide +kernel
theorem dX9_highestMany_17 : decode cX9_highestMany 17 = .ok (.iconst 1, 1) := by decide +kernel
theorem dX9_highestMany_18 : decode cX9_highestMany 18 = .ok (.if_icmp .ge 7, 3) := by decide +kernel
theorem dX9_highestMany_21 : decode cX9_highestMany 21 = .ok (.iconst 1, 1) := by decide +kernel
theorem dX9_highestMany_22 : decode cX9_highestMany 22 = .ok (.goto 9, 3) := by decide +kernel
theorem dX9_highestMany_25 : decode cX9_highestMany 25 = .ok (.aload_n 0, 1) := by decide +kernel
theorem dX9_highestMany_26 : decode cX9_highestMany 26 = .ok (.getfield 150, 3) := by decide +kernel
theorem dX9_highestMany_29 : decode cX9_highestMany 29 = .ok (.iload_n 1, 1) := by decide +kernel
theorem dX9_highestMany_30 : decode cX9_highestMany 30 = .ok (.idiv, 1) := by decide +kernel
theorem dX9_highestMany_31 : decode cX9_highestMany 31 = .ok (.ireturn, 1) := by decide +kernel
theorem dX9_highestSum_0 : decode cX9_highestSum 0 = .ok (.lconst 0, 1) := by decide +kernel
theorem dX9_highestSum_1 : decode cX9_highestSum 1 = .ok (.lstore_n 3, 1) := by decide +kernel
theorem dX9_highestSum_2 : decode cX9_highestSum 2 = .ok (.iconst 0, 1) := by decide +kernel
theorem dX9_highestSum_3 : decode cX9_highestSum 3 = .ok (.istore 5, 2) := by decide +kernel
theorem dX9_highestSum_5 : decode cX9_highestSum 5 = .ok (.iload 5, 2) := by decide +kernel
theorem dX9_highestSum_7 : decode cX9_highestSum 7 = .ok (.aload_n 0, 1) := by decide +kernel
theorem dX9_highestSum_8 : decode cX9_highestSum 8 = .ok (.getfield 150, 3) := by decide +kernel
theorem dX9_highestSum_11 : decode cX9_highestSum 11 = .ok (.if_icmp .ge 49, 3) := by decide +kernel
theorem dX9_highestSum_14 : decode cX9_highestSum 14 = .ok (.aload_n 0, 1) := by decide +kernel
theorem dX9_highestSum_15 : decode cX9_highestSum 15 = .ok (.getfield 73, 3) := by decide +kernel
theorem dX9_highestSum_18 : decode cX9_highestSum 18 = .ok (.iload 5, 2) := by decide +kernel
theorem dX9_highestSum_20 : decode cX9_highestSum 20 = .ok (.iaload, 1) := by decide +kernel
theorem dX9_highestSum_21 : decode cX9_highestSum 21 = .ok (.aload_n 0, 1) := by decide +kernel
theorem dX9_highestSum_22 : decode cX9_highestSum 22 = .ok (.iload_n 1, 1) := by decide +kernel
theorem dX9_highestSum_23 : decode cX9_highestSum 23 = .ok (.invokevirtual 166, 3) := by decide +kernel
theorem dX9_highestSum_26 : decode cX9_highestSum 26 = .ok (.if_icmp .ge 28, 3) := by decide +kernel
theorem dX9_highestSum_29 : decode cX9_highestSum 29 = .ok (.lload_n 3, 1) := by decide +kernel
theorem dX9_highestSum_30 : decode cX9_highestSum 30 = .ok (.iload_n 2, 1) := by decide +kernel
theorem dX9_highestSum_31 : decode cX9_highestSum 31 = .ok (.ifCond .eq 13, 3) := by decide +kernel
theorem dX9_highestSum_34 : decode cX9_highestSum 34 = .ok (.aload_n 0, 1) := by decide +kernel
theorem dX9_highestSum_35 : decode cX9_highestSum 35 = .ok (.iload 5, 2) := by decide +kernel
theorem dX9_highestSum_37 : decode cX9_highestSum 37 = .ok (.invokevirtual 160, 3) := by decide +kernel
theorem dX9_highestSum_40 : decode cX9_highestSum 40 = .ok (.i2l, 1) := by decide +kernel
theorem dX9_highestSum_41 : decode cX9_highestSum 41 = .ok (.goto 11, 3) := by decide +kernel
theorem dX9_highestSum_44 : decode cX9_highestSum 44 = .ok (.aload_n 0, 1) := by decide +kernel
theorem dX9_highestSum_45 : decode cX9_highestSum 45 = .ok (.getfield 58, 3) := by decide +kernel
theorem dX9_highestSum_48 : decode cX9_highestSum 48 = .ok (.iload 5, 2) := by decide +kernel
theorem dX9_highestSum_50 : decode cX9_highestSum 50 = .ok (.iaload, 1) := by decide +kernel
theorem dX9_highestSum_51 : decode cX9_highestSum 51 = .ok (.i2l, 1) := by decide +kernel
theorem dX9_highestSum_52 : decode cX9_highestSum 52 = .ok (.ladd, 1) := by decide +kernel
theorem dX9_highestSum_53 : decode cX9_highestSum 53 = .ok (.lstore_n 3, 1) := by decide +kernel
theorem dX9_highestSum_54 : decode cX9_highestSum 54 = .ok (.iinc 5 1, 3) := by decide +kernel
theorem dX9_highestSum_57 : decode cX9_highestSum 57 = .ok (.goto (-52), 3) := by decide +kernel
theorem dX9_highestSum_60 : decode cX9_highestSum 60 = .ok (.lload_n 3, 1) := by decide +kernel
theorem dX9_highestSum_61 : decode cX9_highestSum 61 = .ok (.lreturn, 1) := by decide +kernel
theorem dX9_middleHeight_0 : decode cX9_middleHeight 0 = .ok (.iconst 0, 1) := by decide +kernel
theorem dX9_middleHeight_1 : decode cX9_middleHeight 1 = .ok (.istore_n 1, 1) := by decide +kernel
theorem dX9_middleHeight_2 : decode cX9_middleHeight 2 = .ok (.iload_n 1, 1) := by decide +kernel
theorem dX9_middleHeight_3 : decode cX9_middleHeight 3 = .ok (.aload_n 0, 1) := by decide +kernel
theorem dX9_middleHeight_4 : decode cX9_middleHeight 4 = .ok (.getfield 150, 3) := by decide +kernel
theorem dX9_middleHeight_7 : decode cX9_middleHeight 7 = .ok (.if_icmp .ge 105, 3) := by decide +kernel
theorem dX9_middleHeight_10 : decode cX9_middleHeight 10 = .ok (.iconst 0, 1) := by decide +kernel
theorem dX9_middleHeight_11 : decode cX9_middleHeight 11 = .ok (.istore_n 2, 1) := by decide +kernel
theorem dX9_middleHeight_12 : decode cX9_middleHeight 12 = .ok (.iconst 0, 1) := by decide +kernel
theorem dX9_middleHeight_13 : decode cX9_middleHeight 13 = .ok (.istore_n 3, 1) := by decide +kernel
theorem dX9_middleHeight_14 : decode cX9_middleHeight 14 = .ok (.iconst 0, 1) := by decide +kernel
theorem dX9_middleHeight_15 : decode cX9_middleHeight 15 = .ok (.istore 4, 2) := by decide +kernel
theorem dX9_middleHeight_17 : decode cX9_middleHeight 17 = .ok (.iload 4, 2) := by decide +kernel
theorem dX9_middleHeight_19 : decode cX9_middleHeight 19 = .ok (.aload_n 0, 1) := by decide +kernel
theorem dX9_middleHeight_20 : decode cX9_middleHeight 20 = .ok (.getfield 150, 3) := by decide +kernel
theorem dX9_middleHeight_23 : decode cX9_middleHeight 23 = .ok (.if_icmp .ge 53, 3) := by decide +kernel
theorem dX9_middleHeight_26 : decode cX9_middleHeight 26 = .ok (.iload_n 2, 1) := by decide +kernel
theorem dX9_middleHeight_27 : decode cX9_middleHeight 27 = .ok (.aload_n 0, 1) := by decide +kernel
theorem dX9_middleHeight_28 : decode cX9_middleHeight 28 = .ok (.iload 4, 2) := by decide +kernel
theorem dX9_middleHeight_30 : decode cX9_middleHeight 30 = .ok (.invokevirtual 160, 3) := by decide +kernel
theorem dX9_middleHeight_33 : decode cX9_middleHeight 33 = .ok (.aload_n 0, 1) := by decide +kernel
theorem dX9_middleHeight_34 : decode cX9_middleHeight 34 = .ok (.iload_n 1, 1) := by decide +kernel
theorem dX9_middleHeight_35 : decode cX9_middleHeight 35 = .ok (.invokevirtual 160, 3) := by decide +kernel
theorem dX9_middleHeight_38 : decode cX9_middleHeight 38 = .ok (.if_icmp .ge 7, 3) := by decide +kernel
theorem dX9_middleHeight_41 : decode cX9_middleHeight 41 = .ok (.iconst 1, 1) := by decide +kernel
theorem dX9_middleHeight_42 : decode cX9_middleHeight 42 = .ok (.goto 4, 3) := by decide +kernel
theorem dX9_middleHeight_45 : decode cX9_middleHeight 45 = .ok (.iconst 0, 1) := by decide +kernel
theorem dX9_middleHeight_46 : decode cX9_middleHeight 46 = .ok (.iadd, 1) := by decide +kernel
theorem dX9_middleHeight_47 : decode cX9_middleHeight 47 = .ok (.istore_n 2, 1) := by decide +kernel
theorem dX9_middleHeight_48 : decode cX9_middleHeight 48 = .ok (.iload_n 3, 1) := by decide +kernel
theorem dX9_middleHeight_49 : decode cX9_middleHeight 49 = .ok (.aload_n 0, 1) := by decide +kernel
theorem dX9_middleHeight_50 : decode cX9_middleHeight 50 = .ok (.iload 4, 2) := by decide +kernel
theorem dX9_middleHeight_52 : decode cX9_middleHeight 52 = .ok (.invokevirtual 160, 3) := by decide +kernel
theorem dX9_middleHeight_55 : decode cX9_middleHeight 55 = .ok (.aload_n 0, 1) := by decide +kernel
theorem dX9_middleHeight_56 : decode cX9_middleHeight 56 = .ok (.iload_n 1, 1) := by decide +kernel
theorem dX9_middleHeight_57 : decode cX9_middleHeight 57 = .ok (.invokevirtual 160, 3) := by decide +kernel
theorem dX9_middleHeight_60 : decode cX9_middleHeight 60 = .ok (.if_icmp .gt 7, 3) := by decide +kernel
theorem dX9_middleHeight_63 : decode cX9_middleHeight 63 = .ok (.iconst 1, 1) := by decide +kernel
theorem dX9_middleHeight_64 : decode cX9_middleHeight 64 = .ok (.goto 4, 3) := by decide +kernel
theorem dX9_middleHeight_67 : decode cX9_middleHeight 67 = .ok (.iconst 0, 1) := by decide +kernel
theorem dX9_middleHeight_68 : decode cX9_middleHeight 68 = .ok (.iadd, 1) := by decide +kernel
theorem dX9_middleHeight_69 : decode cX9_middleHeight 69 = .ok (.istore_n 3, 1) := by decide +kernel
theorem dX9_middleHeight_70 : decode cX9_middleHeight 70 = .ok (.iinc 4 1, 3) := by decide +kernel
theorem dX9_middleHeight_73 : decode cX9_middleHeight 73 = .ok (.goto (-56), 3) := by decide +kernel
theorem dX9_middleHeight_76 : decode cX9_middleHeight 76 = .ok (.iload_n 2, 1) := by decide +kernel
theorem dX9_middleHeight_77 : decode cX9_middleHeight 77 = .ok (.aload_n 0, 1) := by decide +kernel
theorem dX9_middleHeight_78 : decode cX9_middleHeight 78 = .ok (.getfield 150, 3) := by decide +kernel
theorem dX9_middleHeight_81 : decode cX9_middleHeight 81 = .ok (.iconst 1, 1) := by decide +kernel
theorem dX9_middleHeight_82 : decode cX9_middleHeight 82 = .ok (.isub, 1) := by decide +kernel
theorem dX9_middleHeight_83 : decode cX9_middleHeight 83 = .ok (.iconst 2, 1) := by decide +kernel
theorem dX9_middleHeight_84 : decode cX9_middleHeight 84 = .ok (.idiv, 1) := by decide +kernel
theorem dX9_middleHeight_85 : decode cX9_middleHeight 85 = .ok (.if_icmp .gt 21, 3) := by decide +kernel
theorem dX9_middleHeight_88 : decode cX9_middleHeight 88 = .ok (.iload_n 3, 1) := by decide +kernel
theorem dX9_middleHeight_89 : decode cX9_middleHeight 89 = .ok (.aload_n 0, 1) := by decide +kernel
theorem dX9_middleHeight_90 : decode cX9_middleHeight 90 = .ok (.getfield 150, 3) := by decide +kernel
theorem dX9_middleHeight_93 : decode cX9_middleHeight 93 = .ok (.iconst 1, 1) := by decide +kernel
theorem dX9_middleHeight_94 : decode cX9_middleHeight 94 = .ok (.isub, 1) := by decide +kernel
theorem dX9_middleHeight_95 : decode cX9_middleHeight 95 = .ok (.iconst 2, 1) := by decide +kernel
theorem dX9_middleHeight_96 : decode cX9_middleHeight 96 = .ok (.idiv, 1) := by decide +kernel
theorem dX9_middleHeight_97 : decode cX9_middleHeight 97 = .ok (.if_icmp .le 9, 3) := by decide +kernel
theorem dX9_middleHeight_100 : decode cX9_middleHeight 100 = .ok (.aload_n 0, 1) := by decide +kernel
theorem dX9_middleHeight_101 : decode cX9_middleHeight 101 = .ok (.iload_n 1, 1) := by decide +kernel
theorem dX9_middleHeight_102 : decode cX9_middleHeight 102 = .ok (.invokevirtual 160, 3) := by decide +kernel
theorem dX9_middleHeight_105 : decode cX9_middleHeight 105 = .ok (.ireturn, 1) := by decide +kernel
theorem dX9_middleHeight_106 : decode cX9_middleHeight 106 = .ok (.iinc 1 1, 3) := by decide +kernel
theorem dX9_middleHeight_109 : decode cX9_middleHeight 109 = .ok (.goto (-107), 3) := by decide +kernel
theorem dX9_middleHeight_112 : decode cX9_middleHeight 112 = .ok (.iconst 0, 1) := by decide +kernel
theorem dX9_middleHeight_113 : decode cX9_middleHeight 113 = .ok (.ireturn, 1) := by decide +kernel
theorem dX9_laysHigh_0 : decode cX9_laysHigh 0 = .ok (.aload_n 0, 1) := by decide +kernel
theorem dX9_laysHigh_1 : decode cX9_laysHigh 1 = .ok (.getfield 13, 3) := by decide +kernel
theorem dX9_laysHigh_4 : decode cX9_laysHigh 4 = .ok (.bipush 7, 2) := by decide +kernel
theorem dX9_laysHigh_6 : decode cX9_laysHigh 6 = .ok (.iaload, 1) := by decide +kernel
theorem dX9_laysHigh_7 : decode cX9_laysHigh 7 = .ok (.i2l, 1) := by decide +kernel
theorem dX9_laysHigh_8 : decode cX9_laysHigh 8 = .ok (.lstore_n 1, 1) := by decide +kernel
theorem dX9_laysHigh_9 : decode cX9_laysHigh 9 = .ok (.lconst 1, 1) := by decide +kernel
theorem dX9_laysHigh_10 : decode cX9_laysHigh 10 = .ok (.lstore_n 3, 1) := by decide +kernel
theorem dX9_laysHigh_11 : decode cX9_laysHigh 11 = .ok (.aload_n 0, 1) := by decide +kernel
theorem dX9_laysHigh_12 : decode cX9_laysHigh 12 = .ok (.getfield 13, 3) := by decide +kernel
theorem dX9_laysHigh_15 : decode cX9_laysHigh 15 = .ok (.bipush 6, 2) := by decide +kernel
theorem dX9_laysHigh_17 : decode cX9_laysHigh 17 = .ok (.iaload, 1) := by decide +kernel
theorem dX9_laysHigh_18 : decode cX9_laysHigh 18 = .ok (.iconst 1, 1) := by decide +kernel
theorem dX9_laysHigh_19 : decode cX9_laysHigh 19 = .ok (.if_icmp .eq 14, 3) := by decide +kernel
theorem dX9_laysHigh_22 : decode cX9_laysHigh 22 = .ok (.aload_n 0, 1) := by decide +kernel
theorem dX9_laysHigh_23 : decode cX9_laysHigh 23 = .ok (.getfield 13, 3) := by decide +kernel
theorem dX9_laysHigh_26 : decode cX9_laysHigh 26 = .ok (.bipush 6, 2) := by decide +kernel
theorem dX9_laysHigh_28 : decode cX9_laysHigh 28 = .ok (.iaload, 1) := by decide +kernel
theorem dX9_laysHigh_29 : decode cX9_laysHigh 29 = .ok (.iconst 2, 1) := by decide +kernel
theorem dX9_laysHigh_30 : decode cX9_laysHigh 30 = .ok (.if_icmp .ne 37, 3) := by decide +kernel
theorem dX9_laysHigh_33 : decode cX9_laysHigh 33 = .ok (.aload_n 0, 1) := by decide +kernel
theorem dX9_laysHigh_34 : decode cX9_laysHigh 34 = .ok (.getfield 13, 3) := by decide +kernel
theorem dX9_laysHigh_37 : decode cX9_laysHigh 37 = .ok (.bipush 6, 2) := by decide +kernel
theorem dX9_laysHigh_39 : decode cX9_laysHigh 39 = .ok (.iaload, 1) := by decide +kernel
theorem dX9_laysHigh_40 : decode cX9_laysHigh 40 = .ok (.iconst 1, 1) := by decide +kernel
theorem dX9_laysHigh_41 : decode cX9_laysHigh 41 = .ok (.if_icmp .ne 7, 3) := by decide +kernel
theorem dX9_laysHigh_44 : decode cX9_laysHigh 44 = .ok (.iconst 1, 1) := by decide +kernel
theorem dX9_laysHigh_45 : decode cX9_laysHigh 45 = .ok (.goto 4, 3) := by decide +kernel
theorem dX9_laysHigh_48 : decode cX9_laysHigh 48 = .ok (.iconst 3, 1) := by decide +kernel
theorem dX9_laysHigh_49 : decode cX9_laysHigh 49 = .ok (.istore 5, 2) := by decide +kernel
theorem dX9_laysHigh_51 : decode cX9_laysHigh 51 = .ok (.aload_n 0, 1) := by decide +kernel
theorem dX9_laysHigh_52 : decode cX9_laysHigh 52 = .ok (.iload 5, 2) := by decide +kernel
theorem dX9_laysHigh_54 : decode cX9_laysHigh 54 = .ok (.iconst 1, 1) := by decide +kernel
theorem dX9_laysHigh_55 : decode cX9_laysHigh 55 = .ok (.invokevirtual 169, 3) := by decide +kernel
theorem dX9_laysHigh_58 : decode cX9_laysHigh 58 = .ok (.lstore_n 1, 1) := by decide +kernel
theorem dX9_laysHigh_59 : decode cX9_laysHigh 59 = .ok (.aload_n 0, 1) := by decide +kernel
theorem dX9_laysHigh_60 : decode cX9_laysHigh 60 = .ok (.iload 5, 2) := by decide +kernel
theorem dX9_laysHigh_62 : decode cX9_laysHigh 62 = .ok (.invokevirtual 166, 3) := by decide +kernel
theorem dX9_laysHigh_65 : decode cX9_laysHigh 65 = .ok (.i2l, 1) := by decide +kernel
theorem dX9_laysHigh_66 : decode cX9_laysHigh 66 = .ok (.lstore_n 3, 1) := by decide +kernel
theorem dX9_laysHigh_67 : decode cX9_laysHigh 67 = .ok (.aload_n 0, 1) := by decide +kernel
theorem dX9_laysHigh_68 : decode cX9_laysHigh 68 = .ok (.getfield 13, 3) := by decide +kernel
theorem dX9_laysHigh_71 : decode cX9_laysHigh 71 = .ok (.bipush 6, 2) := by decide +kernel
theorem dX9_laysHigh_73 : decode cX9_laysHigh 73 = .ok (.iaload, 1) := by decide +kernel
theorem dX9_laysHigh_74 : decode cX9_laysHigh 74 = .ok (.iconst 3, 1) := by decide +kernel
theorem dX9_laysHigh_75 : decode cX9_laysHigh 75 = .ok (.if_icmp .ne 9, 3) := by decide +kernel
theorem dX9_laysHigh_78 : decode cX9_laysHigh 78 = .ok (.aload_n 0, 1) := by decide +kernel
theorem dX9_laysHigh_79 : decode cX9_laysHigh 79 = .ok (.invokevirtual 173, 3) := by decide +kernel
theorem dX9_laysHigh_82 : decode cX9_laysHigh 82 = .ok (.i2l, 1) := by decide +kernel
theorem dX9_laysHigh_83 : decode cX9_laysHigh 83 = .ok (.lstore_n 1, 1) := by decide +kernel
theorem dX9_laysHigh_84 : decode cX9_laysHigh 84 = .ok (.iconst 0, 1) := by decide +kernel
theorem dX9_laysHigh_85 : decode cX9_laysHigh 85 = .ok (.istore 5, 2) := by decide +kernel
theorem dX9_laysHigh_87 : decode cX9_laysHigh 87 = .ok (.iload 5, 2) := by decide +kernel
theorem dX9_laysHigh_89 : decode cX9_laysHigh 89 = .ok (.aload_n 0, 1) := by decide +kernel
theorem dX9_laysHigh_90 : decode cX9_laysHigh 90 = .ok (.getfield 150, 3) := by decide +kernel
theorem dX9_laysHigh_93 : decode cX9_laysHigh 93 = .ok (.if_icmp .ge 35, 3) := by decide +kernel
theorem dX9_laysHigh_96 : decode cX9_laysHigh 96 = .ok (.aload_n 0, 1) := by decide +kernel
theorem dX9_laysHigh_97 : decode cX9_laysHigh 97 = .ok (.getfield 76, 3) := by decide +kernel
theorem dX9_laysHigh_100 : decode cX9_laysHigh 100 = .ok (.iload 5, 2) := by decide +kernel
theorem dX9_laysHigh_102 : decode cX9_laysHigh 102 = .ok (.aload_n 0, 1) := by decide +kernel
theorem dX9_laysHigh_103 : decode cX9_laysHigh 103 = .ok (.iload 5, 2) := by decide +kernel
theorem dX9_laysHigh_105 : decode cX9_laysHigh 105 = .ok (.invokevirtual 160, 3) := by decide +kernel
theorem dX9_laysHigh_108 : decode cX9_laysHigh 108 = .ok (.i2l, 1) := by decide +kernel
theorem dX9_laysHigh_109 : decode cX9_laysHigh 109 = .ok (.lload_n 3, 1) := by decide +kernel
theorem dX9_laysHigh_110 : decode cX9_laysHigh 110 = .ok (.lmul, 1) := by decide +kernel
theorem dX9_laysHigh_111 : decode cX9_laysHigh 111 = .ok (.lload_n 1, 1) := by decide +kernel
theorem dX9_laysHigh_112 : decode cX9_laysHigh 112 = .ok (.lcmp, 1) := by decide +kernel
theorem dX9_laysHigh_113 : decode cX9_laysHigh 113 = .ok (.ifCond .le 7, 3) := by decide +kernel
theorem dX9_laysHigh_116 : decode cX9_laysHigh 116 = .ok (.iconst 1, 1) := by decide +kernel
theorem dX9_laysHigh_117 : decode cX9_laysHigh 117 = .ok (.goto 4, 3) := by decide +kernel
theorem dX9_laysHigh_120 : decode cX9_laysHigh 120 = .ok (.iconst 0, 1) := by decide +kernel
theorem dX9_laysHigh_121 : decode cX9_laysHigh 121 = .ok (.bastore, 1) := by decide +kernel
theorem dX9_laysHigh_122 : decode cX9_laysHigh 122 = .ok (.iinc 5 1, 3) := by decide +kernel
theorem dX9_laysHigh_125 : decode cX9_laysHigh 125 = .ok (.goto (-38), 3) := by decide +kernel
theorem dX9_laysHigh_128 : decode cX9_laysHigh 128 = .ok (.return_, 1) := by decide +kernel
theorem dX9_isFreak_0 : decode cX9_isFreak 0 = .ok (.ldc2_w 121, 3) := by decide +kernel
theorem dX9_isFreak_3 : decode cX9_isFreak 3 = .ok (.aload_n 0, 1) := by decide +kernel
theorem dX9_isFreak_4 : decode cX9_isFreak 4 = .ok (.iload_n 1, 1) := by decide +kernel
theorem dX9_isFreak_5 : decode cX9_isFreak 5 = .ok (.invokevirtual 160, 3) := by decide +kernel
theorem dX9_isFreak_8 : decode cX9_isFreak 8 = .ok (.i2l, 1) := by decide +kernel
theorem dX9_isFreak_9 : decode cX9_isFreak 9 = .ok (.lmul, 1) := by decide +kernel
theorem dX9_isFreak_10 : decode cX9_isFreak 10 = .ok (.aload_n 0, 1) := by decide +kernel
theorem dX9_isFreak_11 : decode cX9_isFreak 11 = .ok (.iconst 3, 1) := by decide +kernel
theorem dX9_isFreak_12 : decode cX9_isFreak 12 = .ok (.invokevirtual 166, 3) := by decide +kernel
theorem dX9_isFreak_15 : decode cX9_isFreak 15 = .ok (.i2l, 1) := by decide +kernel
theorem dX9_isFreak_16 : decode cX9_isFreak 16 = .ok (.lmul, 1) := by decide +kernel
theorem dX9_isFreak_17 : decode cX9_isFreak 17 = .ok (.aload_n 0, 1) := by decide +kernel
theorem dX9_isFreak_18 : decode cX9_isFreak 18 = .ok (.getfield 13, 3) := by decide +kernel
theorem dX9_isFreak_21 : decode cX9_isFreak 21 = .ok (.iconst 2, 1) := by decide +kernel
theorem dX9_isFreak_22 : decode cX9_isFreak 22 = .ok (.iaload, 1) := by decide +kernel
theorem dX9_isFreak_23 : decode cX9_isFreak 23 = .ok (.i2l, 1) := by decide +kernel
theorem dX9_isFreak_24 : decode cX9_isFreak 24 = .ok (.aload_n 0, 1) := by decide +kernel
theorem dX9_isFreak_25 : decode cX9_isFreak 25 = .ok (.iconst 3, 1) := by decide +kernel
theorem dX9_isFreak_26 : decode cX9_isFreak 26 = .ok (.iconst 1, 1) := by decide +kernel
theorem dX9_isFreak_27 : decode cX9_isFreak 27 = .ok (.invokevirtual 169, 3) := by decide +kernel
theorem dX9_isFreak_30 : decode cX9_isFreak 30 = .ok (.lmul, 1) := by decide +kernel
theorem dX9_isFreak_31 : decode cX9_isFreak 31 = .ok (.lcmp, 1) := by decide +kernel
theorem dX9_isFreak_32 : decode cX9_isFreak 32 = .ok (.ifCond .le 7, 3) := by decide +kernel
theorem dX9_isFreak_35 : decode cX9_isFreak 35 = .ok (.iconst 1, 1) := by decide +kernel
theorem dX9_isFreak_36 : decode cX9_isFreak 36 = .ok (.goto 4, 3) := by decide +kernel
theorem dX9_isFreak_39 : decode cX9_isFreak 39 = .ok (.iconst 0, 1) := by decide +kernel
theorem dX9_isFreak_40 : decode cX9_isFreak 40 = .ok (.ireturn, 1) := by decide +kernel
theorem dX9_freaks_0 : decode cX9_freaks 0 = .ok (.iconst 0, 1) := by decide +kernel
theorem dX9_freaks_1 : decode cX9_freaks 1 = .ok (.istore_n 1, 1) := by decide +kernel
theorem dX9_freaks_2 : decode cX9_freaks 2 = .ok (.iconst 0, 1) := by decide +kernel
theorem dX9_freaks_3 : decode cX9_freaks 3 = .ok (.istore_n 2, 1) := by decide +kernel
theorem dX9_freaks_4 : decode cX9_freaks 4 = .ok (.iload_n 2, 1) := by decide +kernel
theorem dX9_freaks_5 : decode cX9_freaks 5 = .ok (.aload_n 0, 1) := by decide +kernel
theorem dX9_freaks_6 : decode cX9_freaks 6 = .ok (.getfield 150, 3) := by decide +kernel
theorem dX9_freaks_9 : decode cX9_freaks 9 = .ok (.if_icmp .ge 25, 3) := by decide +kernel
theorem dX9_freaks_12 : decode cX9_freaks 12 = .ok (.iload_n 1, 1) := by decide +kernel
theorem dX9_freaks_13 : decode cX9_freaks 13 = .ok (.aload_n 0, 1) := by decide +kernel
theorem dX9_freaks_14 : decode cX9_freaks 14 = .ok (.iload_n 2, 1) := by decide +kernel
theorem dX9_freaks_15 : decode cX9_freaks 15 = .ok (.invokevirtual 177, 3) := by decide +kernel
theorem dX9_freaks_18 : decode cX9_freaks 18 = .ok (.ifCond .eq 7, 3) := by decide +kernel
theorem dX9_freaks_21 : decode cX9_freaks 21 = .ok (.iconst 1, 1) := by decide +kernel
theorem dX9_freaks_22 : decode cX9_freaks 22 = .ok (.goto 4, 3) := by decide +kernel
theorem dX9_freaks_25 : decode cX9_freaks 25 = .ok (.iconst 0, 1) := by decide +kernel
theorem dX9_freaks_26 : decode cX9_freaks 26 = .ok (.iadd, 1) := by decide +kernel
theorem dX9_freaks_27 : decode cX9_freaks 27 = .ok (.istore_n 1, 1) := by decide +kernel
theorem dX9_freaks_28 : decode cX9_freaks 28 = .ok (.iinc 2 1, 3) := by decide +kernel
theorem dX9_freaks_31 : decode cX9_freaks 31 = .ok (.goto (-27), 3) := by decide +kernel
theorem dX9_freaks_34 : decode cX9_freaks 34 = .ok (.iload_n 1, 1) := by decide +kernel
theorem dX9_freaks_35 : decode cX9_freaks 35 = .ok (.ireturn, 1) := by decide +kernel
theorem dX9_run_0 : decode cX9_run 0 = .ok (.aload_n 0, 1) := by decide +kernel
theorem dX9_run_1 : decode cX9_run 1 = .ok (.getfield 76, 3) := by decide +kernel
theorem dX9_run_4 : decode cX9_run 4 = .ok (.iload_n 1, 1) := by decide +kernel
theorem dX9_run_5 : decode cX9_run 5 = .ok (.baload, 1) := by decide +kernel
theorem dX9_run_6 : decode cX9_run 6 = .ok (.ifCond .eq 35, 3) := by decide +kernel
theorem dX9_run_9 : decode cX9_run 9 = .ok (.iload_n 1, 1) := by decide +kernel
theorem dX9_run_10 : decode cX9_run 10 = .ok (.ifCond .le 33, 3) := by decide +kernel
theorem dX9_run_13 : decode cX9_run 13 = .ok (.aload_n 0, 1) := by decide +kernel
theorem dX9_run_14 : decode cX9_run 14 = .ok (.getfield 76, 3) := by decide +kernel
theorem dX9_run_17 : decode cX9_run 17 = .ok (.iload_n 1, 1) := by decide +kernel
theorem dX9_run_18 : decode cX9_run 18 = .ok (.iconst 1, 1) := by decide +kernel
theorem dX9_run_19 : decode cX9_run 19 = .ok (.isub, 1) := by decide +kernel
theorem dX9_run_20 : decode cX9_run 20 = .ok (.baload, 1) := by decide +kernel
theorem dX9_run_21 : decode cX9_run 21 = .ok (.ifCond .eq 22, 3) := by decide +kernel
theorem dX9_run_24 : decode cX9_run 24 = .ok (.aload_n 0, 1) := by decide +kernel
theorem dX9_run_25 : decode cX9_run 25 = .ok (.getfield 70, 3) := by decide +kernel
theorem dX9_run_28 : decode cX9_run 28 = .ok (.iload_n 1, 1) := by decide +kernel
theorem dX9_run_29 : decode cX9_run 29 = .ok (.iconst 1, 1) := by decide +kernel
theorem dX9_run_30 : decode cX9_run 30 = .ok (.isub, 1) := by decide +kernel
theorem dX9_run_31 : decode cX9_run 31 = .ok (.iaload, 1) := by decide +kernel
theorem dX9_run_32 : decode cX9_run 32 = .ok (.aload_n 0, 1) := by decide +kernel
theorem dX9_run_33 : decode cX9_run 33 = .ok (.getfield 70, 3) := by decide +kernel
theorem dX9_run_36 : decode cX9_run 36 = .ok (.iload_n 1, 1) := by decide +kernel
theorem dX9_run_37 : decode cX9_run 37 = .ok (.iaload, 1) := by decide +kernel
theorem dX9_run_38 : decode cX9_run 38 = .ok (.if_icmp .ne 5, 3) := by decide +kernel
theorem dX9_run_41 : decode cX9_run 41 = .ok (.iconst 0, 1) := by decide +kernel
theorem dX9_run_42 : decode cX9_run 42 = .ok (.ireturn, 1) := by decide +kernel
theorem dX9_run_43 : decode cX9_run 43 = .ok (.iconst 0, 1) := by decide +kernel
theorem dX9_run_44 : decode cX9_run 44 = .ok (.istore_n 2, 1) := by decide +kernel
theorem dX9_run_45 : decode cX9_run 45 = .ok (.iload_n 1, 1) := by decide +kernel
theorem dX9_run_46 : decode cX9_run 46 = .ok (.iload_n 2, 1) := by decide +kernel
theorem dX9_run_47 : decode cX9_run 47 = .ok (.iadd, 1) := by decide +kernel
theorem dX9_run_48 : decode cX9_run 48 = .ok (.aload_n 0, 1) := by decide +kernel
theorem dX9_run_49 : decode cX9_run 49 = .ok (.getfield 150, 3) := by decide +kernel
theorem dX9_run_52 : decode cX9_run 52 = .ok (.if_icmp .ge 37, 3) := by decide +kernel
theorem dX9_run_55 : decode cX9_run 55 = .ok (.aload_n 0, 1) := by decide +kernel
theorem dX9_run_56 : decode cX9_run 56 = .ok (.getfield 76, 3) := by decide +kernel
theorem dX9_run_59 : decode cX9_run 59 = .ok (.iload_n 1, 1) := by decide +kernel
theorem dX9_run_60 : decode cX9_run 60 = .ok (.iload_n 2, 1) := by decide +kernel
theorem dX9_run_61 : decode cX9_run 61 = .ok (.iadd, 1) := by decide +kernel
theorem dX9_run_62 : decode cX9_run 62 = .ok (.baload, 1) := by decide +kernel
theorem dX9_run_63 : decode cX9_run 63 = .ok (.ifCond .eq 26, 3) := by decide +kernel
theorem dX9_run_66 : decode cX9_run 66 = .ok (.aload_n 0, 1) := by decide +kernel
theorem dX9_run_67 : decode cX9_run 67 = .ok (.getfield 70, 3) := by decide +kernel
theorem dX9_run_70 : decode cX9_run 70 = .ok (.iload_n 1, 1) := by decide +kernel
theorem dX9_run_71 : decode cX9_run 71 = .ok (.iload_n 2, 1) := by decide +kernel
theorem dX9_run_72 : decode cX9_run 72 = .ok (.iadd, 1) := by decide +kernel
theorem dX9_run_73 : decode cX9_run 73 = .ok (.iaload, 1) := by decide +kernel
theorem dX9_run_74 : decode cX9_run 74 = .ok (.aload_n 0, 1) := by decide +kernel
theorem dX9_run_75 : decode cX9_run 75 = .ok (.getfield 70, 3) := by decide +kernel
theorem dX9_run_78 : decode cX9_run 78 = .ok (.iload_n 1, 1) := by decide +kernel
theorem dX9_run_79 : decode cX9_run 79 = .ok (.iaload, 1) := by decide +kernel
theorem dX9_run_80 : decode cX9_run 80 = .ok (.if_icmp .ne 9, 3) := by decide +kernel
theorem dX9_run_83 : decode cX9_run 83 = .ok (.iinc 2 1, 3) := by decide +kernel
theorem dX9_run_86 : decode cX9_run 86 = .ok (.goto (-41), 3) := by decide +kernel
theorem dX9_run_89 : decode cX9_run 89 = .ok (.iload_n 2, 1) := by decide +kernel
theorem dX9_run_90 : decode cX9_run 90 = .ok (.ireturn, 1) := by decide +kernel
theorem dX9_groupAt_0 : decode cX9_groupAt 0 = .ok (.iconst 0, 1) := by decide +kernel
theorem dX9_groupAt_1 : decode cX9_groupAt 1 = .ok (.istore_n 2, 1) := by decide +kernel
theorem dX9_groupAt_2 : decode cX9_groupAt 2 = .ok (.iconst 0, 1) := by decide +kernel
theorem dX9_groupAt_3 : decode cX9_groupAt 3 = .ok (.istore_n 3, 1) := by decide +kernel
theorem dX9_groupAt_4 : decode cX9_groupAt 4 = .ok (.iload_n 3, 1) := by decide +kernel
theorem dX9_groupAt_5 : decode cX9_groupAt 5 = .ok (.aload_n 0, 1) := by decide +kernel
theorem dX9_groupAt_6 : decode cX9_groupAt 6 = .ok (.getfield 150, 3) := by decide +kernel
theorem dX9_groupAt_9 : decode cX9_groupAt 9 = .ok (.if_icmp .ge 36, 3) := by decide +kernel
theorem dX9_groupAt_12 : decode cX9_groupAt 12 = .ok (.aload_n 0, 1) := by decide +kernel
theorem dX9_groupAt_13 : decode cX9_groupAt 13 = .ok (.iload_n 3, 1) := by decide +kernel
theorem dX9_groupAt_14 : decode cX9_groupAt 14 = .ok (.invokevirtual 180, 3) := by decide +kernel
theorem dX9_groupAt_17 : decode cX9_groupAt 17 = .ok (.aload_n 0, 1) := by decide +kernel
theorem dX9_groupAt_18 : decode cX9_groupAt 18 = .ok (.getfield 13, 3) := by decide +kernel
theorem dX9_groupAt_21 : decode cX9_groupAt 21 = .ok (.iconst 3, 1) := by decide +kernel
theorem dX9_groupAt_22 : decode cX9_groupAt 22 = .ok (.iaload, 1) := by decide +kernel
theorem dX9_groupAt_23 : decode cX9_groupAt 23 = .ok (.if_icmp .ge 6, 3) := by decide +kernel
theorem dX9_groupAt_26 : decode cX9_groupAt 26 = .ok (.goto 13, 3) := by decide +kernel
theorem dX9_groupAt_29 : decode cX9_groupAt 29 = .ok (.iload_n 2, 1) := by decide +kernel
theorem dX9_groupAt_30 : decode cX9_groupAt 30 = .ok (.iload_n 1, 1) := by decide +kernel
theorem dX9_groupAt_31 : decode cX9_groupAt 31 = .ok (.if_icmp .ne 5, 3) := by decide +kernel
theorem dX9_groupAt_34 : decode cX9_groupAt 34 = .ok (.iload_n 3, 1) := by decide +kernel
theorem dX9_groupAt_35 : decode cX9_groupAt 35 = .ok (.ireturn, 1) := by decide +kernel
theorem dX9_groupAt_36 : decode cX9_groupAt 36 = .ok (.iinc 2 1, 3) := by decide +kernel
theorem dX9_groupAt_39 : decode cX9_groupAt 39 = .ok (.iinc 3 1, 3) := by decide +kernel
theorem dX9_groupAt_42 : decode cX9_groupAt 42 = .ok (.goto (-38), 3) := by decide +kernel
theorem dX9_groupAt_45 : decode cX9_groupAt 45 = .ok (.iconst (-1), 1) := by decide +kernel
theorem dX9_groupAt_46 : decode cX9_groupAt 46 = .ok (.ireturn, 1) := by decide +kernel
theorem dX9_groups_0 : decode cX9_groups 0 = .ok (.iconst 0, 1) := by decide +kernel
theorem dX9_groups_1 : decode cX9_groups 1 = .ok (.istore_n 1, 1) := by decide +kernel
theorem dX9_groups_2 : decode cX9_groups 2 = .ok (.iconst 0, 1) := by decide +kernel
theorem dX9_groups_3 : decode cX9_groups 3 = .ok (.istore_n 2, 1) := by decide +kernel
theorem dX9_groups_4 : decode cX9_groups 4 = .ok (.iload_n 2, 1) := by decide +kernel
theorem dX9_groups_5 : decode cX9_groups 5 = .ok (.aload_n 0, 1) := by decide +kernel
theorem dX9_groups_6 : decode cX9_groups 6 = .ok (.getfield 150, 3) := by decide +kernel
theorem dX9_groups_9 : decode cX9_groups 9 = .ok (.if_icmp .ge 31, 3) := by decide +kernel
theorem dX9_groups_12 : decode cX9_groups 12 = .ok (.iload_n 1, 1) := by decide +kernel
theorem dX9_groups_13 : decode cX9_groups 13 = .ok (.aload_n 0, 1) := by decide +kernel
theorem dX9_groups_14 : decode cX9_groups 14 = .ok (.iload_n 2, 1) := by decide +kernel
theorem dX9_groups_15 : decode cX9_groups 15 = .ok (.invokevirtual 180, 3) := by decide +kernel
theorem dX9_groups_18 : decode cX9_groups 18 = .ok (.aload_n 0, 1) := by decide +kernel
theorem dX9_groups_19 : decode cX9_groups 19 = .ok (.getfield 13, 3) := by decide +kernel
theorem dX9_groups_22 : decode cX9_groups 22 = .ok (.iconst 3, 1) := by decide +kernel
theorem dX9_groups_23 : decode cX9_groups 23 = .ok (.iaload, 1) := by decide +kernel
theorem dX9_groups_24 : decode cX9_groups 24 = .ok (.if_icmp .lt 7, 3) := by decide +kernel
theorem dX9_groups_27 : decode cX9_groups 27 = .ok (.iconst 1, 1) := by decide +kernel
theorem dX9_groups_28 : decode cX9_groups 28 = .ok (.goto 4, 3) := by decide +kernel
theorem dX9_groups_31 : decode cX9_groups 31 = .ok (.iconst 0, 1) := by decide +kernel
theorem dX9_groups_32 : decode cX9_groups 32 = .ok (.iadd, 1) := by decide +kernel
theorem dX9_groups_33 : decode cX9_groups 33 = .ok (.istore_n 1, 1) := by decide +kernel
theorem dX9_groups_34 : decode cX9_groups 34 = .ok (.iinc 2 1, 3) := by decide +kernel
theorem dX9_groups_37 : decode cX9_groups 37 = .ok (.goto (-33), 3) := by decide +kernel
theorem dX9_groups_40 : decode cX9_groups 40 = .ok (.iload_n 1, 1) := by decide +kernel
theorem dX9_groups_41 : decode cX9_groups 41 = .ok (.ireturn, 1) := by decide +kernel
theorem dX9_groupOf_0 : decode cX9_groupOf 0 = .ok (.iconst (-1), 1) := by decide +kernel
theorem dX9_groupOf_1 : decode cX9_groupOf 1 = .ok (.istore_n 2, 1) := by decide +kernel
theorem dX9_groupOf_2 : decode cX9_groupOf 2 = .ok (.iconst 0, 1) := by decide +kernel
theorem dX9_groupOf_3 : decode cX9_groupOf 3 = .ok (.istore_n 3, 1) := by decide +kernel
theorem dX9_groupOf_4 : decode cX9_groupOf 4 = .ok (.iload_n 3, 1) := by decide +kernel
theorem dX9_groupOf_5 : decode cX9_groupOf 5 = .ok (.iload_n 1, 1) := by decide +kernel
theorem dX9_groupOf_6 : decode cX9_groupOf 6 = .ok (.if_icmp .gt 42, 3) := by decide +kernel
theorem dX9_groupOf_9 : decode cX9_groupOf 9 = .ok (.aload_n 0, 1) := by decide +kernel
theorem dX9_groupOf_10 : decode cX9_groupOf 10 = .ok (.iload_n 3, 1) := by decide +kernel
theorem dX9_groupOf_11 : decode cX9_groupOf 11 = .ok (.invokevirtual 180, 3) := by decide +kernel
theorem dX9_groupOf_14 : decode cX9_groupOf 14 = .ok (.aload_n 0, 1) := by decide +kernel
theorem dX9_groupOf_15 : decode cX9_groupOf 15 = .ok (.getfield 13, 3) := by decide +kernel
theorem dX9_groupOf_18 : decode cX9_groupOf 18 = .ok (.iconst 3, 1) := by decide +kernel
theorem dX9_groupOf_19 : decode cX9_groupOf 19 = .ok (.iaload, 1) := by decide +kernel
theorem dX9_groupOf_20 : decode cX9_groupOf 20 = .ok (.if_icmp .ge 6, 3) := by decide +kernel
theorem dX9_groupOf_23 : decode cX9_groupOf 23 = .ok (.goto 19, 3) := by decide +kernel
theorem dX9_groupOf_26 : decode cX9_groupOf 26 = .ok (.iinc 2 1, 3) := by decide +kernel
theorem dX9_groupOf_29 : decode cX9_groupOf 29 = .ok (.iload_n 1, 1) := by decide +kernel
theorem dX9_groupOf_30 : decode cX9_groupOf 30 = .ok (.iload_n 3, 1) := by decide +kernel
theorem dX9_groupOf_31 : decode cX9_groupOf 31 = .ok (.aload_n 0, 1) := by decide +kernel
theorem dX9_groupOf_32 : decode cX9_groupOf 32 = .ok (.iload_n 3, 1) := by decide +kernel
theorem dX9_groupOf_33 : decode cX9_groupOf 33 = .ok (.invokevirtual 180, 3) := by decide +kernel
theorem dX9_groupOf_36 : decode cX9_groupOf 36 = .ok (.iadd, 1) := by decide +kernel
theorem dX9_groupOf_37 : decode cX9_groupOf 37 = .ok (.if_icmp .ge 5, 3) := by decide +kernel
theorem dX9_groupOf_40 : decode cX9_groupOf 40 = .ok (.iload_n 2, 1) := by decide +kernel
theorem dX9_groupOf_41 : decode cX9_groupOf 41 = .ok (.ireturn, 1) := by decide +kernel
theorem dX9_groupOf_42 : decode cX9_groupOf 42 = .ok (.iinc 3 1, 3) := by decide +kernel
theorem dX9_groupOf_45 : decode cX9_groupOf 45 = .ok (.goto (-41), 3) := by decide +kernel
theorem dX9_groupOf_48 : decode cX9_groupOf 48 = .ok (.iconst (-1), 1) := by decide +kernel
theorem dX9_groupOf_49 : decode cX9_groupOf 49 = .ok (.ireturn, 1) := by decide +kernel
theorem dX9_names_0 : decode cX9_names 0 = .ok (.iconst 0, 1) := by decide +kernel
theorem dX9_names_1 : decode cX9_names 1 = .ok (.istore_n 1, 1) := by decide +kernel
theorem dX9_names_2 : decode cX9_names 2 = .ok (.iconst 0, 1) := by decide +kernel
theorem dX9_names_3 : decode cX9_names 3 = .ok (.istore_n 2, 1) := by decide +kernel
theorem dX9_names_4 : decode cX9_names 4 = .ok (.iload_n 2, 1) := by decide +kernel
theorem dX9_names_5 : decode cX9_names 5 = .ok (.aload_n 0, 1) := by decide +kernel
theorem dX9_names_6 : decode cX9_names 6 = .ok (.getfield 88, 3) := by decide +kernel
theorem dX9_names_9 : decode cX9_names 9 = .ok (.if_icmp .ge 27, 3) := by decide +kernel
theorem dX9_names_12 : decode cX9_names 12 = .ok (.iload_n 1, 1) := by decide +kernel
theorem dX9_names_13 : decode cX9_names 13 = .ok (.aload_n 0, 1) := by decide +kernel
theorem dX9_names_14 : decode cX9_names 14 = .ok (.getfield 22, 3) := by decide +kernel
theorem dX9_names_17 : decode cX9_names 17 = .ok (.iload_n 2, 1) := by decide +kernel
theorem dX9_names_18 : decode cX9_names 18 = .ok (.iaload, 1) := by decide +kernel
theorem dX9_names_19 : decode cX9_names 19 = .ok (.iconst (-1), 1) := by decide +kernel
theorem dX9_names_20 : decode cX9_names 20 = .ok (.if_icmp .ne 7, 3) := by decide +kernel
theorem dX9_names_23 : decode cX9_names 23 = .ok (.iconst 0, 1) := by decide +kernel
theorem dX9_names_24 : decode cX9_names 24 = .ok (.goto 4, 3) := by decide +kernel
theorem dX9_names_27 : decode cX9_names 27 = .ok (.iconst 1, 1) := by decide +kernel
theorem dX9_names_28 : decode cX9_names 28 = .ok (.iadd, 1) := by decide +kernel
theorem dX9_names_29 : decode cX9_names 29 = .ok (.istore_n 1, 1) := by decide +kernel
theorem dX9_names_30 : decode cX9_names 30 = .ok (.iinc 2 1, 3) := by decide +kernel
theorem dX9_names_33 : decode cX9_names 33 = .ok (.goto (-29), 3) := by decide +kernel
theorem dX9_names_36 : decode cX9_names 36 = .ok (.iload_n 1, 1) := by decide +kernel
theorem dX9_names_37 : decode cX9_names 37 = .ok (.ireturn, 1) := by decide +kernel
theorem dX9_gaps_0 : decode cX9_gaps 0 = .ok (.iconst 0, 1) := by decide +kernel
theorem dX9_gaps_1 : decode cX9_gaps 1 = .ok (.istore_n 1, 1) := by decide +kernel
theorem dX9_gaps_2 : decode cX9_gaps 2 = .ok (.iconst 0, 1) := by decide +kernel
theorem dX9_gaps_3 : decode cX9_gaps 3 = .ok (.istore_n 2, 1) := by decide +kernel
theorem dX9_gaps_4 : decode cX9_gaps 4 = .ok (.iload_n 2, 1) := by decide +kernel
theorem dX9_gaps_5 : decode cX9_gaps 5 = .ok (.aload_n 0, 1) := by decide +kernel
theorem dX9_gaps_6 : decode cX9_gaps 6 = .ok (.getfield 88, 3) := by decide +kernel
theorem dX9_gaps_9 : decode cX9_gaps 9 = .ok (.if_icmp .ge 29, 3) := by decide +kernel
theorem dX9_gaps_12 : decode cX9_gaps 12 = .ok (.iload_n 1, 1) := by decide +kernel
theorem dX9_gaps_13 : decode cX9_gaps 13 = .ok (.aload_n 0, 1) := by decide +kernel
theorem dX9_gaps_14 : decode cX9_gaps 14 = .ok (.getfield 7, 3) := by decide +kernel
theorem dX9_gaps_17 : decode cX9_gaps 17 = .ok (.iload_n 2, 1) := by decide +kernel
theorem dX9_gaps_18 : decode cX9_gaps 18 = .ok (.iaload, 1) := by decide +kernel
theorem dX9_gaps_19 : decode cX9_gaps 19 = .ok (.sipush (-32768), 3) := by decide +kernel
theorem dX9_gaps_22 : decode cX9_gaps 22 = .ok (.if_icmp .ne 7, 3) := by decide +kernel
theorem dX9_gaps_25 : decode cX9_gaps 25 = .ok (.iconst 1, 1) := by decide +kernel
theorem dX9_gaps_26 : decode cX9_gaps 26 = .ok (.goto 4, 3) := by decide +kernel
theorem dX9_gaps_29 : decode cX9_gaps 29 = .ok (.iconst 0, 1) := by decide +kernel
theorem dX9_gaps_30 : decode cX9_gaps 30 = .ok (.iadd, 1) := by decide +kernel
theorem dX9_gaps_31 : decode cX9_gaps 31 = .ok (.istore_n 1, 1) := by decide +kernel
theorem dX9_gaps_32 : decode cX9_gaps 32 = .ok (.iinc 2 1, 3) := by decide +kernel
theorem dX9_gaps_35 : decode cX9_gaps 35 = .ok (.goto (-31), 3) := by decide +kernel
theorem dX9_gaps_38 : decode cX9_gaps 38 = .ok (.iload_n 1, 1) := by decide +kernel
theorem dX9_gaps_39 : decode cX9_gaps 39 = .ok (.ireturn, 1) := by decide +kernel
theorem dX9_waved_0 : decode cX9_waved 0 = .ok (.iconst 0, 1) := by decide +kernel
theorem dX9_waved_1 : decode cX9_waved 1 = .ok (.istore_n 1, 1) := by decide +kernel
theorem dX9_waved_2 : decode cX9_waved 2 = .ok (.iconst 0, 1) := by decide +kernel
theorem dX9_waved_3 : decode cX9_waved 3 = .ok (.istore_n 2, 1) := by decide +kernel
theorem dX9_waved_4 : decode cX9_waved 4 = .ok (.iload_n 2, 1) := by decide +kernel
theorem dX9_waved_5 : decode cX9_waved 5 = .ok (.aload_n 0, 1) := by decide +kernel
theorem dX9_waved_6 : decode cX9_waved 6 = .ok (.getfield 150, 3) := by decide +kernel
theorem dX9_waved_9 : decode cX9_waved 9 = .ok (.if_icmp .ge 18, 3) := by decide +kernel
theorem dX9_waved_12 : decode cX9_waved 12 = .ok (.iload_n 1, 1) := by decide +kernel
theorem dX9_waved_13 : decode cX9_waved 13 = .ok (.aload_n 0, 1) := by decide +kernel
theorem dX9_waved_14 : decode cX9_waved 14 = .ok (.getfield 58, 3) := by decide +kernel
theorem dX9_waved_17 : decode cX9_waved 17 = .ok (.iload_n 2, 1) := by decide +kernel
theorem dX9_waved_18 : decode cX9_waved 18 = .ok (.iaload, 1) := by decide +kernel
theorem dX9_waved_19 : decode cX9_waved 19 = .ok (.iadd, 1) := by decide +kernel
theorem dX9_waved_20 : decode cX9_waved 20 = .ok (.istore_n 1, 1) := by decide +kernel
theorem dX9_waved_21 : decode cX9_waved 21 = .ok (.iinc 2 1, 3) := by decide +kernel
theorem dX9_waved_24 : decode cX9_waved 24 = .ok (.goto (-20), 3) := by decide +kernel
theorem dX9_waved_27 : decode cX9_waved 27 = .ok (.iload_n 1, 1) := by decide +kernel
theorem dX9_waved_28 : decode cX9_waved 28 = .ok (.ireturn, 1) := by decide +kernel
theorem dX9_count_0 : decode cX9_count 0 = .ok (.aload_n 0, 1) := by decide +kernel
theorem dX9_count_1 : decode cX9_count 1 = .ok (.invokevirtual 183, 3) := by decide +kernel
theorem dX9_count_4 : decode cX9_count 4 = .ok (.iload_n 1, 1) := by decide +kernel
theorem dX9_count_5 : decode cX9_count 5 = .ok (.tableswitch 172 0 15 #[79, 84, 89, 94, 99, 104, 109, 114, 121, 128, 135, 142, 149, 157, 162, 167], 79) := by decide +kernel
theorem dX9_count_84 : decode cX9_count 84 = .ok (.aload_n 0, 1) := by decide +kernel
theorem dX9_count_85 : decode cX9_count 85 = .ok (.getfield 88, 3) := by decide +kernel
theorem dX9_count_88 : decode cX9_count 88 = .ok (.ireturn, 1) := by decide +kernel
theorem dX9_count_89 : decode cX9_count 89 = .ok (.aload_n 0, 1) := by decide +kernel
theorem dX9_count_90 : decode cX9_count 90 = .ok (.getfield 114, 3) := by decide +kernel
theorem dX9_count_93 : decode cX9_count 93 = .ok (.ireturn, 1) := by decide +kernel
theorem dX9_count_94 : decode cX9_count 94 = .ok (.aload_n 0, 1) := by decide +kernel
theorem dX9_count_95 : decode cX9_count 95 = .ok (.getfield 150, 3) := by decide +kernel
theorem dX9_count_98 : decode cX9_count 98 = .ok (.ireturn, 1) := by decide +kernel
theorem dX9_count_99 : decode cX9_count 99 = .ok (.aload_n 0, 1) := by decide +kernel
theorem dX9_count_100 : decode cX9_count 100 = .ok (.invokevirtual 186, 3) := by decide +kernel
theorem dX9_count_103 : decode cX9_count 103 = .ok (.ireturn, 1) := by decide +kernel
theorem dX9_count_104 : decode cX9_count 104 = .ok (.aload_n 0, 1) := by decide +kernel
theorem dX9_count_105 : decode cX9_count 105 = .ok (.invokevirtual 189, 3) := by decide +kernel
theorem dX9_count_108 : decode cX9_count 108 = .ok (.ireturn, 1) := by decide +kernel
theorem dX9_count_109 : decode cX9_count 109 = .ok (.aload_n 0, 1) := by decide +kernel
theorem dX9_count_110 : decode cX9_count 110 = .ok (.getfield 104, 3) := by decide +kernel
theorem dX9_count_113 : decode cX9_count 113 = .ok (.ireturn, 1) := by decide +kernel
theorem dX9_count_114 : decode cX9_count 114 = .ok (.aload_n 0, 1) := by decide +kernel
theorem dX9_count_115 : decode cX9_count 115 = .ok (.invokevirtual 192, 3) := by decide +kernel
theorem dX9_count_118 : decode cX9_count 118 = .ok (.ireturn, 1) := by decide +kernel
theorem dX9_count_119 : decode cX9_count 119 = .ok (.aload_n 0, 1) := by decide +kernel
theorem dX9_count_120 : decode cX9_count 120 = .ok (.getfield 13, 3) := by decide +kernel
theorem dX9_count_123 : decode cX9_count 123 = .ok (.iconst 0, 1) := by decide +kernel
theorem dX9_count_124 : decode cX9_count 124 = .ok (.iaload, 1) := by decide +kernel
theorem dX9_count_125 : decode cX9_count 125 = .ok (.ireturn, 1) := by decide +kernel
theorem dX9_count_126 : decode cX9_count 126 = .ok (.aload_n 0, 1) := by decide +kernel
theorem dX9_count_127 : decode cX9_count 127 = .ok (.getfield 13, 3) := by decide +kernel
theorem dX9_count_130 : decode cX9_count 130 = .ok (.iconst 1, 1) := by decide +kernel
theorem dX9_count_131 : decode cX9_count 131 = .ok (.iaload, 1) := by decide +kernel
theorem dX9_count_132 : decode cX9_count 132 = .ok (.ireturn, 1) := by decide +kernel
theorem dX9_count_133 : decode cX9_count 133 = .ok (.aload_n 0, 1) := by decide +kernel
theorem dX9_count_134 : decode cX9_count 134 = .ok (.getfield 13, 3) := by decide +kernel
theorem dX9_count_137 : decode cX9_count 137 = .ok (.iconst 2, 1) := by decide +kernel
theorem dX9_count_138 : decode cX9_count 138 = .ok (.iaload, 1) := by decide +kernel
theorem dX9_count_139 : decode cX9_count 139 = .ok (.ireturn, 1) := by decide +kernel
theorem dX9_count_140 : decode cX9_count 140 = .ok (.aload_n 0, 1) := by decide +kernel
theorem dX9_count_141 : decode cX9_count 141 = .ok (.getfield 13, 3) := by decide +kernel
theorem dX9_count_144 : decode cX9_count 144 = .ok (.iconst 3, 1) := by decide +kernel
theorem dX9_count_145 : decode cX9_count 145 = .ok (.iaload, 1) := by decide +kernel
theorem dX9_count_146 : decode cX9_count 146 = .ok (.ireturn, 1) := by decide +kernel
theorem dX9_count_147 : decode cX9_count 147 = .ok (.aload_n 0, 1) := by decide +kernel
theorem dX9_count_148 : decode cX9_count 148 = .ok (.getfield 13, 3) := by decide +kernel
theorem dX9_count_151 : decode cX9_count 151 = .ok (.iconst 4, 1) := by decide +kernel
theorem dX9_count_152 : decode cX9_count 152 = .ok (.iaload, 1) := by decide +kernel
theorem dX9_count_153 : decode cX9_count 153 = .ok (.ireturn, 1) := by decide +kernel
theorem dX9_count_154 : decode cX9_count 154 = .ok (.aload_n 0, 1) := by decide +kernel
theorem dX9_count_155 : decode cX9_count 155 = .ok (.getfield 13, 3) := by decide +kernel
theorem dX9_count_158 : decode cX9_count 158 = .ok (.bipush 6, 2) := by decide +kernel
theorem dX9_count_160 : decode cX9_count 160 = .ok (.iaload, 1) := by decide +kernel
theorem dX9_count_161 : decode cX9_count 161 = .ok (.ireturn, 1) := by decide +kernel
theorem dX9_count_162 : decode cX9_count 162 = .ok (.aload_n 0, 1) := by decide +kernel
theorem dX9_count_163 : decode cX9_count 163 = .ok (.invokevirtual 195, 3) := by decide +kernel
theorem dX9_count_166 : decode cX9_count 166 = .ok (.ireturn, 1) := by decide +kernel
theorem dX9_count_167 : decode cX9_count 167 = .ok (.aload_n 0, 1) := by decide +kernel
theorem dX9_count_168 : decode cX9_count 168 = .ok (.getfield 107, 3) := by decide +kernel
theorem dX9_count_171 : decode cX9_count 171 = .ok (.ireturn, 1) := by decide +kernel
theorem dX9_count_172 : decode cX9_count 172 = .ok (.aload_n 0, 1) := by decide +kernel
theorem dX9_count_173 : decode cX9_count 173 = .ok (.invokevirtual 198, 3) := by decide +kernel
theorem dX9_count_176 : decode cX9_count 176 = .ok (.ireturn, 1) := by decide +kernel
theorem dX9_count_177 : decode cX9_count 177 = .ok (.iconst (-1), 1) := by decide +kernel
theorem dX9_count_178 : decode cX9_count 178 = .ok (.ireturn, 1) := by decide +kernel
theorem dX9_isSample_0 : decode cX9_isSample 0 = .ok (.iload_n 1, 1) := by decide +kernel
theorem dX9_isSample_1 : decode cX9_isSample 1 = .ok (.iconst 0, 1) := by decide +kernel
theorem dX9_isSample_2 : decode cX9_isSample 2 = .ok (.aload_n 0, 1) := by decide +kernel
theorem dX9_isSample_3 : decode cX9_isSample 3 = .ok (.getfield 88, 3) := by decide +kernel
theorem dX9_isSample_6 : decode cX9_isSample 6 = .ok (.iconst 1, 1) := by decide +kernel
theorem dX9_isSample_7 : decode cX9_isSample 7 = .ok (.isub, 1) := by decide +kernel
theorem dX9_isSample_8 : decode cX9_isSample 8 = .ok (.invokestatic 80, 3) := by decide +kernel
theorem dX9_isSample_11 : decode cX9_isSample 11 = .ok (.ireturn, 1) := by decide +kernel
theorem dX9_sample_0 : decode cX9_sample 0 = .ok (.aload_n 0, 1) := by decide +kernel
theorem dX9_sample_1 : decode cX9_sample 1 = .ok (.iload_n 1, 1) := by decide +kernel
theorem dX9_sample_2 : decode cX9_sample 2 = .ok (.invokevirtual 201, 3) := by decide +kernel
theorem dX9_sample_5 : decode cX9_sample 5 = .ok (.ifCond .ne 5, 3) := by decide +kernel
theorem dX9_sample_8 : decode cX9_sample 8 = .ok (.iconst (-1), 1) := by decide +kernel
theorem dX9_sample_9 : decode cX9_sample 9 = .ok (.ireturn, 1) := by decide +kernel
theorem dX9_sample_10 : decode cX9_sample 10 = .ok (.aload_n 0, 1) := by decide +kernel
theorem dX9_sample_11 : decode cX9_sample 11 = .ok (.invokevirtual 183, 3) := by decide +kernel
theorem dX9_sample_14 : decode cX9_sample 14 = .ok (.iload_n 2, 1) := by decide +kernel
theorem dX9_sample_15 : decode cX9_sample 15 = .ok (.tableswitch 79 0 5 #[37, 44, 51, 58, 65, 72], 37) := by decide +kernel
theorem dX9_sample_52 : decode cX9_sample 52 = .ok (.aload_n 0, 1) := by decide +kernel
theorem dX9_sample_53 : decode cX9_sample 53 = .ok (.getfield 7, 3) := by decide +kernel
theorem dX9_sample_56 : decode cX9_sample 56 = .ok (.iload_n 1, 1) := by decide +kernel
theorem dX9_sample_57 : decode cX9_sample 57 = .ok (.iaload, 1) := by decide +kernel
theorem dX9_sample_58 : decode cX9_sample 58 = .ok (.ireturn, 1) := by decide +kernel
theorem dX9_sample_59 : decode cX9_sample 59 = .ok (.aload_n 0, 1) := by decide +kernel
theorem dX9_sample_60 : decode cX9_sample 60 = .ok (.getfield 25, 3) := by decide +kernel
theorem dX9_sample_63 : decode cX9_sample 63 = .ok (.iload_n 1, 1) := by decide +kernel
theorem dX9_sample_64 : decode cX9_sample 64 = .ok (.iaload, 1) := by decide +kernel
theorem dX9_sample_65 : decode cX9_sample 65 = .ok (.ireturn, 1) := by decide +kernel
theorem dX9_sample_66 : decode cX9_sample 66 = .ok (.aload_n 0, 1) := by decide +kernel
theorem dX9_sample_67 : decode cX9_sample 67 = .ok (.getfield 34, 3) := by decide +kernel
theorem dX9_sample_70 : decode cX9_sample 70 = .ok (.iload_n 1, 1) := by decide +kernel
theorem dX9_sample_71 : decode cX9_sample 71 = .ok (.iaload, 1) := by decide +kernel
theorem dX9_sample_72 : decode cX9_sample 72 = .ok (.ireturn, 1) := by decide +kernel
theorem dX9_sample_73 : decode cX9_sample 73 = .ok (.aload_n 0, 1) := by decide +kernel
theorem dX9_sample_74 : decode cX9_sample 74 = .ok (.getfield 28, 3) := by decide +kernel
theorem dX9_sample_77 : decode cX9_sample 77 = .ok (.iload_n 1, 1) := by decide +kernel
theorem dX9_sample_78 : decode cX9_sample 78 = .ok (.iaload, 1) := by decide +kernel
theorem dX9_sample_79 : decode cX9_sample 79 = .ok (.ireturn, 1) := by decide +kernel
theorem dX9_sample_80 : decode cX9_sample 80 = .ok (.aload_n 0, 1) := by decide +kernel
theorem dX9_sample_81 : decode cX9_sample 81 = .ok (.getfield 52, 3) := by decide +kernel
theorem dX9_sample_84 : decode cX9_sample 84 = .ok (.iload_n 1, 1) := by decide +kernel
theorem dX9_sample_85 : decode cX9_sample 85 = .ok (.iaload, 1) := by decide +kernel
theorem dX9_sample_86 : decode cX9_sample 86 = .ok (.ireturn, 1) := by decide +kernel
theorem dX9_sample_87 : decode cX9_sample 87 = .ok (.aload_n 0, 1) := by decide +kernel
theorem dX9_sample_88 : decode cX9_sample 88 = .ok (.getfield 22, 3) := by decide +kernel
theorem dX9_sample_91 : decode cX9_sample 91 = .ok (.iload_n 1, 1) := by decide +kernel
theorem dX9_sample_92 : decode cX9_sample 92 = .ok (.iaload, 1) := by decide +kernel
theorem dX9_sample_93 : decode cX9_sample 93 = .ok (.ireturn, 1) := by decide +kernel
theorem dX9_sample_94 : decode cX9_sample 94 = .ok (.iconst (-1), 1) := by decide +kernel
theorem dX9_sample_95 : decode cX9_sample 95 = .ok (.ireturn, 1) := by decide +kernel
theorem dX9_through_0 : decode cX9_through 0 = .ok (.aload_n 0, 1) := by decide +kernel
theorem dX9_through_1 : decode cX9_through 1 = .ok (.iload_n 1, 1) := by decide +kernel
theorem dX9_through_2 : decode cX9_through 2 = .ok (.invokevirtual 201, 3) := by decide +kernel
theorem dX9_through_5 : decode cX9_through 5 = .ok (.ifCond .eq 15, 3) := by decide +kernel
theorem dX9_through_8 : decode cX9_through 8 = .ok (.iload_n 2, 1) := by decide +kernel
theorem dX9_through_9 : decode cX9_through 9 = .ok (.iconst 0, 1) := by decide +kernel
theorem dX9_through_10 : decode cX9_through 10 = .ok (.aload_n 0, 1) := by decide +kernel
theorem dX9_through_11 : decode cX9_through 11 = .ok (.getfield 104, 3) := by decide +kernel
theorem dX9_through_14 : decode cX9_through 14 = .ok (.invokestatic 80, 3) := by decide +kernel
theorem dX9_through_17 : decode cX9_through 17 = .ok (.ifCond .ne 7, 3) := by decide +kernel
theorem dX9_through_20 : decode cX9_through 20 = .ok (.sipush (-32768), 3) := by decide +kernel
theorem dX9_through_23 : decode cX9_through 23 = .ok (.ireturn, 1) := by decide +kernel
theorem dX9_through_24 : decode cX9_through 24 = .ok (.aload_n 0, 1) := by decide +kernel
theorem dX9_through_25 : decode cX9_through 25 = .ok (.iload_n 2, 1) := by decide +kernel
theorem dX9_through_26 : decode cX9_through 26 = .ok (.invokevirtual 146, 3) := by decide +kernel
theorem dX9_through_29 : decode cX9_through 29 = .ok (.aload_n 0, 1) := by decide +kernel
theorem dX9_through_30 : decode cX9_through 30 = .ok (.getfield 34, 3) := by decide +kernel
theorem dX9_through_33 : decode cX9_through 33 = .ok (.iload_n 1, 1) := by decide +kernel
theorem dX9_through_34 : decode cX9_through 34 = .ok (.iaload, 1) := by decide +kernel
theorem dX9_through_35 : decode cX9_through 35 = .ok (.ireturn, 1) := by decide +kernel
theorem dX9_extreme_0 : decode cX9_extreme 0 = .ok (.aload_n 0, 1) := by decide +kernel
theorem dX9_extreme_1 : decode cX9_extreme 1 = .ok (.getfield 34, 3) := by decide +kernel
theorem dX9_extreme_4 : decode cX9_extreme 4 = .ok (.aload_n 0, 1) := by decide +kernel
theorem dX9_extreme_5 : decode cX9_extreme 5 = .ok (.getfield 31, 3) := by decide +kernel
theorem dX9_extreme_8 : decode cX9_extreme 8 = .ok (.iload_n 1, 1) := by decide +kernel
theorem dX9_extreme_9 : decode cX9_extreme 9 = .ok (.iaload, 1) := by decide +kernel
theorem dX9_extreme_10 : decode cX9_extreme 10 = .ok (.iaload, 1) := by decide +kernel
theorem dX9_extreme_11 : decode cX9_extreme 11 = .ok (.istore_n 3, 1) := by decide +kernel
theorem dX9_extreme_12 : decode cX9_extreme 12 = .ok (.aload_n 0, 1) := by decide +kernel
theorem dX9_extreme_13 : decode cX9_extreme 13 = .ok (.getfield 31, 3) := by decide +kernel
theorem dX9_extreme_16 : decode cX9_extreme 16 = .ok (.iload_n 1, 1) := by decide +kernel
theorem dX9_extreme_17 : decode cX9_extreme 17 = .ok (.iaload, 1) := by decide +kernel
theorem dX9_extreme_18 : decode cX9_extreme 18 = .ok (.istore 4, 2) := by decide +kernel
theorem dX9_extreme_20 : decode cX9_extreme 20 = .ok (.iload 4, 2) := by decide +kernel
theorem dX9_extreme_22 : decode cX9_extreme 22 = .ok (.aload_n 0, 1) := by decide +kernel
theorem dX9_extreme_23 : decode cX9_extreme 23 = .ok (.getfield 88, 3) := by decide +kernel
theorem dX9_extreme_26 : decode cX9_extreme 26 = .ok (.if_icmp .ge 57, 3) := by decide +kernel
theorem dX9_extreme_29 : decode cX9_extreme 29 = .ok (.aload_n 0, 1) := by decide +kernel
theorem dX9_extreme_30 : decode cX9_extreme 30 = .ok (.getfield 28, 3) := by decide +kernel
theorem dX9_extreme_33 : decode cX9_extreme 33 = .ok (.iload 4, 2) := by decide +kernel
theorem dX9_extreme_35 : decode cX9_extreme 35 = .ok (.iaload, 1) := by decide +kernel
theorem dX9_extreme_36 : decode cX9_extreme 36 = .ok (.iload_n 1, 1) := by decide +kernel
theorem dX9_extreme_37 : decode cX9_extreme 37 = .ok (.if_icmp .ne 46, 3) := by decide +kernel
theorem dX9_extreme_40 : decode cX9_extreme 40 = .ok (.iload_n 2, 1) := by decide +kernel
theorem dX9_extreme_41 : decode cX9_extreme 41 = .ok (.ifCond .eq 17, 3) := by decide +kernel
theorem dX9_extreme_44 : decode cX9_extreme 44 = .ok (.aload_n 0, 1) := by decide +kernel
theorem dX9_extreme_45 : decode cX9_extreme 45 = .ok (.getfield 34, 3) := by decide +kernel
theorem dX9_extreme_48 : decode cX9_extreme 48 = .ok (.iload 4, 2) := by decide +kernel
theorem dX9_extreme_50 : decode cX9_extreme 50 = .ok (.iaload, 1) := by decide +kernel
theorem dX9_extreme_51 : decode cX9_extreme 51 = .ok (.iload_n 3, 1) := by decide +kernel
theorem dX9_extreme_52 : decode cX9_extreme 52 = .ok (.if_icmp .le 25, 3) := by decide +kernel
theorem dX9_extreme_55 : decode cX9_extreme 55 = .ok (.goto 14, 3) := by decide +kernel
theorem dX9_extreme_58 : decode cX9_extreme 58 = .ok (.aload_n 0, 1) := by decide +kernel
theorem dX9_extreme_59 : decode cX9_extreme 59 = .ok (.getfield 34, 3) := by decide +kernel
theorem dX9_extreme_62 : decode cX9_extreme 62 = .ok (.iload 4, 2) := by decide +kernel
theorem dX9_extreme_64 : decode cX9_extreme 64 = .ok (.iaload, 1) := by decide +kernel
theorem dX9_extreme_65 : decode cX9_extreme 65 = .ok (.iload_n 3, 1) := by decide +kernel
theorem dX9_extreme_66 : decode cX9_extreme 66 = .ok (.if_icmp .ge 11, 3) := by decide +kernel
theorem dX9_extreme_69 : decode cX9_extreme 69 = .ok (.aload_n 0, 1) := by decide +kernel
theorem dX9_extreme_70 : decode cX9_extreme 70 = .ok (.getfield 34, 3) := by decide +kernel
theorem dX9_extreme_73 : decode cX9_extreme 73 = .ok (.iload 4, 2) := by decide +kernel
theorem dX9_extreme_75 : decode cX9_extreme 75 = .ok (.iaload, 1) := by decide +kernel
theorem dX9_extreme_76 : decode cX9_extreme 76 = .ok (.istore_n 3, 1) := by decide +kernel
theorem dX9_extreme_77 : decode cX9_extreme 77 = .ok (.iinc 4 1, 3) := by decide +kernel
theorem dX9_extreme_80 : decode cX9_extreme 80 = .ok (.goto (-60), 3) := by decide +kernel
theorem dX9_extreme_83 : decode cX9_extreme 83 = .ok (.iload_n 3, 1) := by decide +kernel
theorem dX9_extreme_84 : decode cX9_extreme 84 = .ok (.ireturn, 1) := by decide +kernel
theorem dX9_stretch_0 : decode cX9_stretch 0 = .ok (.aload_n 0, 1) := by decide +kernel
theorem dX9_stretch_1 : decode cX9_stretch 1 = .ok (.invokevirtual 183, 3) := by decide +kernel
theorem dX9_stretch_4 : decode cX9_stretch 4 = .ok (.iload_n 1, 1) := by decide +kernel
theorem dX9_stretch_5 : decode cX9_stretch 5 = .ok (.iconst 0, 1) := by decide +kernel
theorem dX9_stretch_6 : decode cX9_stretch 6 = .ok (.aload_n 0, 1) := by decide +kernel
theorem dX9_stretch_7 : decode cX9_stretch 7 = .ok (.getfield 114, 3) := by decide +kernel
theorem dX9_stretch_10 : decode cX9_stretch 10 = .ok (.iconst 1, 1) := by decide +kernel
theorem dX9_stretch_11 : decode cX9_stretch 11 = .ok (.isub, 1) := by decide +kernel
theorem dX9_stretch_12 : decode cX9_stretch 12 = .ok (.invokestatic 80, 3) := by decide +kernel
theorem dX9_stretch_15 : decode cX9_stretch 15 = .ok (.ifCond .ne 5, 3) := by decide +kernel
theorem dX9_stretch_18 : decode cX9_stretch 18 = .ok (.iconst (-1), 1) := by decide +kernel
theorem dX9_stretch_19 : decode cX9_stretch 19 = .ok (.ireturn, 1) := by decide +kernel
theorem dX9_stretch_20 : decode cX9_stretch 20 = .ok (.aload_n 0, 1) := by decide +kernel
theorem dX9_stretch_21 : decode cX9_stretch 21 = .ok (.getfield 31, 3) := by decide +kernel
theorem dX9_stretch_24 : decode cX9_stretch 24 = .ok (.iload_n 1, 1) := by decide +kernel
theorem dX9_stretch_25 : decode cX9_stretch 25 = .ok (.iaload, 1) := by decide +kernel
theorem dX9_stretch_26 : decode cX9_stretch 26 = .ok (.istore_n 3, 1) := by decide +kernel
theorem dX9_stretch_27 : decode cX9_stretch 27 = .ok (.aload_n 0, 1) := by decide +kernel
theorem dX9_stretch_28 : decode cX9_stretch 28 = .ok (.iload_n 1, 1) := by decide +kernel
theorem dX9_stretch_29 : decode cX9_stretch 29 = .ok (.invokevirtual 132, 3) := by decide +kernel
theorem dX9_stretch_32 : decode cX9_stretch 32 = .ok (.istore 4, 2) := by decide +kernel
theorem dX9_stretch_34 : decode cX9_stretch 34 = .ok (.iload_n 2, 1) := by decide +kernel
theorem dX9_stretch_35 : decode cX9_stretch 35 = .ok (.tableswitch 144 0 7 #[45, 47, 52, 59, 82, 107, 130, 137], 45) := by decide +kernel
theorem dX9_stretch_80 : decode cX9_stretch 80 = .ok (.iload_n 3, 1) := by decide +kernel
theorem dX9_stretch_81 : decode cX9_stretch 81 = .ok (.ireturn, 1) := by decide +kernel
theorem dX9_stretch_82 : decode cX9_stretch 82 = .ok (.iload 4, 2) := by decide +kernel
theorem dX9_stretch_84 : decode cX9_stretch 84 = .ok (.iload_n 3, 1) := by decide +kernel
theorem dX9_stretch_85 : decode cX9_stretch 85 = .ok (.isub, 1) := by decide +kernel
theorem dX9_stretch_86 : decode cX9_stretch 86 = .ok (.ireturn, 1) := by decide +kernel
theorem dX9_stretch_87 : decode cX9_stretch 87 = .ok (.aload_n 0, 1) := by decide +kernel
theorem dX9_stretch_88 : decode cX9_stretch 88 = .ok (.getfield 40, 3) := by decide +kernel
theorem dX9_stretch_91 : decode cX9_stretch 91 = .ok (.iload_n 1, 1) := by decide +kernel
theorem dX9_stretch_92 : decode cX9_stretch 92 = .ok (.iaload, 1) := by decide +kernel
theorem dX9_stretch_93 : decode cX9_stretch 93 = .ok (.ireturn, 1) := by decide +kernel
theorem dX9_stretch_94 : decode cX9_stretch 94 = .ok (.aload_n 0, 1) := by decide +kernel
theorem dX9_stretch_95 : decode cX9_stretch 95 = .ok (.getfield 43, 3) := by decide +kernel
theorem dX9_stretch_98 : decode cX9_stretch 98 = .ok (.iload_n 1, 1) := by decide +kernel
theorem dX9_stretch_99 : decode cX9_stretch 99 = .ok (.iaload, 1) := by decide +kernel
theorem dX9_stretch_100 : decode cX9_stretch 100 = .ok (.iconst 1, 1) := by decide +kernel
theorem dX9_stretch_101 : decode cX9_stretch 101 = .ok (.if_icmp .le 14, 3) := by decide +kernel
theorem dX9_stretch_104 : decode cX9_stretch 104 = .ok (.aload_n 0, 1) := by decide +kernel
theorem dX9_stretch_105 : decode cX9_stretch 105 = .ok (.getfield 43, 3) := by decide +kernel
theorem dX9_stretch_108 : decode cX9_stretch 108 = .ok (.iload_n 1, 1) := by decide +kernel
theorem dX9_stretch_109 : decode cX9_stretch 109 = .ok (.iaload, 1) := by decide +kernel
theorem dX9_stretch_110 : decode cX9_stretch 110 = .ok (.iconst 1, 1) := by decide +kernel
theorem dX9_stretch_111 : decode cX9_stretch 111 = .ok (.isub, 1) := by decide +kernel
theorem dX9_stretch_112 : decode cX9_stretch 112 = .ok (.goto 4, 3) := by decide +kernel
theorem dX9_stretch_115 : decode cX9_stretch 115 = .ok (.iconst 0, 1) := by decide +kernel
theorem dX9_stretch_116 : decode cX9_stretch 116 = .ok (.ireturn, 1) := by decide +kernel
theorem dX9_stretch_117 : decode cX9_stretch 117 = .ok (.aload_n 0, 1) := by decide +kernel
theorem dX9_stretch_118 : decode cX9_stretch 118 = .ok (.getfield 43, 3) := by decide +kernel
theorem dX9_stretch_121 : decode cX9_stretch 121 = .ok (.iload_n 1, 1) := by decide +kernel
theorem dX9_stretch_122 : decode cX9_stretch 122 = .ok (.iaload, 1) := by decide +kernel
theorem dX9_stretch_123 : decode cX9_stretch 123 = .ok (.ifCond .ne 10, 3) := by decide +kernel
theorem dX9_stretch_126 : decode cX9_stretch 126 = .ok (.iload 4, 2) := by decide +kernel
theorem dX9_stretch_128 : decode cX9_stretch 128 = .ok (.iload_n 3, 1) := by decide +kernel
theorem dX9_stretch_129 : decode cX9_stretch 129 = .ok (.isub, 1) := by decide +kernel
theorem dX9_stretch_130 : decode cX9_stretch 130 = .ok (.goto 11, 3) := by decide +kernel
theorem dX9_stretch_133 : decode cX9_stretch 133 = .ok (.aload_n 0, 1) := by decide +kernel
theorem dX9_stretch_134 : decode cX9_stretch 134 = .ok (.getfield 46, 3) := by decide +kernel
theorem dX9_stretch_137 : decode cX9_stretch 137 = .ok (.iload_n 1, 1) := by decide +kernel
theorem dX9_stretch_138 : decode cX9_stretch 138 = .ok (.iaload, 1) := by decide +kernel
theorem dX9_stretch_139 : decode cX9_stretch 139 = .ok (.iload_n 3, 1) := by decide +kernel
theorem dX9_stretch_140 : decode cX9_stretch 140 = .ok (.isub, 1) := by decide +kernel
theorem dX9_stretch_141 : decode cX9_stretch 141 = .ok (.ireturn, 1) := by decide +kernel
theorem dX9_stretch_142 : decode cX9_stretch 142 = .ok (.aload_n 0, 1) := by decide +kernel
theorem dX9_stretch_143 : decode cX9_stretch 143 = .ok (.getfield 43, 3) := by decide +kernel
theorem dX9_stretch_146 : decode cX9_stretch 146 = .ok (.iload_n 1, 1) := by decide +kernel
theorem dX9_stretch_147 : decode cX9_stretch 147 = .ok (.iaload, 1) := by decide +kernel
theorem dX9_stretch_148 : decode cX9_stretch 148 = .ok (.ifCond .ne 7, 3) := by decide +kernel
theorem dX9_stretch_151 : decode cX9_stretch 151 = .ok (.iconst 0, 1) := by decide +kernel
theorem dX9_stretch_152 : decode cX9_stretch 152 = .ok (.goto 12, 3) := by decide +kernel
theorem dX9_stretch_155 : decode cX9_stretch 155 = .ok (.iload 4, 2) := by decide +kernel
theorem dX9_stretch_157 : decode cX9_stretch 157 = .ok (.aload_n 0, 1) := by decide +kernel
theorem dX9_stretch_158 : decode cX9_stretch 158 = .ok (.getfield 49, 3) := by decide +kernel
theorem dX9_stretch_161 : decode cX9_stretch 161 = .ok (.iload_n 1, 1) := by decide +kernel
theorem dX9_stretch_162 : decode cX9_stretch 162 = .ok (.iaload, 1) := by decide +kernel
theorem dX9_stretch_163 : decode cX9_stretch 163 = .ok (.isub, 1) := by decide +kernel
theorem dX9_stretch_164 : decode cX9_stretch 164 = .ok (.ireturn, 1) := by decide +kernel
theorem dX9_stretch_165 : decode cX9_stretch 165 = .ok (.aload_n 0, 1) := by decide +kernel
theorem dX9_stretch_166 : decode cX9_stretch 166 = .ok (.iload_n 1, 1) := by decide +kernel
theorem dX9_stretch_167 : decode cX9_stretch 167 = .ok (.iconst 1, 1) := by decide +kernel
theorem dX9_stretch_168 : decode cX9_stretch 168 = .ok (.invokevirtual 204, 3) := by decide +kernel
theorem dX9_stretch_171 : decode cX9_stretch 171 = .ok (.ireturn, 1) := by decide +kernel
theorem dX9_stretch_172 : decode cX9_stretch 172 = .ok (.aload_n 0, 1) := by decide +kernel
theorem dX9_stretch_173 : decode cX9_stretch 173 = .ok (.iload_n 1, 1) := by decide +kernel
theorem dX9_stretch_174 : decode cX9_stretch 174 = .ok (.iconst 0, 1) := by decide +kernel
theorem dX9_stretch_175 : decode cX9_stretch 175 = .ok (.invokevirtual 204, 3) := by decide +kernel
theorem dX9_stretch_178 : decode cX9_stretch 178 = .ok (.ireturn, 1) := by decide +kernel
theorem dX9_stretch_179 : decode cX9_stretch 179 = .ok (.iconst (-1), 1) := by decide +kernel
theorem dX9_stretch_180 : decode cX9_stretch 180 = .ok (.ireturn, 1) := by decide +kernel
theorem dX9_isWave_0 : decode cX9_isWave 0 = .ok (.iload_n 1, 1) := by decide +kernel
theorem dX9_isWave_1 : decode cX9_isWave 1 = .ok (.iconst 0, 1) := by decide +kernel
theorem dX9_isWave_2 : decode cX9_isWave 2 = .ok (.aload_n 0, 1) := by decide +kernel
theorem dX9_isWave_3 : decode cX9_isWave 3 = .ok (.getfield 150, 3) := by decide +kernel
theorem dX9_isWave_6 : decode cX9_isWave 6 = .ok (.iconst 1, 1) := by decide +kernel
theorem dX9_isWave_7 : decode cX9_isWave 7 = .ok (.isub, 1) := by decide +kernel
theorem dX9_isWave_8 : decode cX9_isWave 8 = .ok (.invokestatic 80, 3) := by decide +kernel
theorem dX9_isWave_11 : decode cX9_isWave 11 = .ok (.ireturn, 1) := by decide +kernel
theorem dX9_borne_0 : decode cX9_borne 0 = .ok (.iconst (-1), 1) := by decide +kernel
theorem dX9_borne_1 : decode cX9_borne 1 = .ok (.istore_n 2, 1) := by decide +kernel
theorem dX9_borne_2 : decode cX9_borne 2 = .ok (.aload_n 0, 1) := by decide +kernel
theorem dX9_borne_3 : decode cX9_borne 3 = .ok (.getfield 55, 3) := by decide +kernel
theorem dX9_borne_6 : decode cX9_borne 6 = .ok (.iload_n 1, 1) := by decide +kernel
theorem dX9_borne_7 : decode cX9_borne 7 = .ok (.iaload, 1) := by decide +kernel
theorem dX9_borne_8 : decode cX9_borne 8 = .ok (.istore_n 3, 1) := by decide +kernel
theorem dX9_borne_9 : decode cX9_borne 9 = .ok (.iload_n 3, 1) := by decide +kernel
theorem dX9_borne_10 : decode cX9_borne 10 = .ok (.aload_n 0, 1) := by decide +kernel
theorem dX9_borne_11 : decode cX9_borne 11 = .ok (.getfield 55, 3) := by decide +kernel
theorem dX9_borne_14 : decode cX9_borne 14 = .ok (.iload_n 1, 1) := by decide +kernel
theorem dX9_borne_15 : decode cX9_borne 15 = .ok (.iaload, 1) := by decide +kernel
theorem dX9_borne_16 : decode cX9_borne 16 = .ok (.aload_n 0, 1) := by decide +kernel
theorem dX9_borne_17 : decode cX9_borne 17 = .ok (.getfield 58, 3) := by decide +kernel
theorem dX9_borne_20 : decode cX9_borne 20 = .ok (.iload_n 1, 1) := by decide +kernel
theorem dX9_borne_21 : decode cX9_borne 21 = .ok (.iaload, 1) := by decide +kernel
theorem dX9_borne_22 : decode cX9_borne 22 = .ok (.iadd, 1) := by decide +kernel
theorem dX9_borne_23 : decode cX9_borne 23 = .ok (.if_icmp .ge 41, 3) := by decide +kernel
theorem dX9_borne_26 : decode cX9_borne 26 = .ok (.aload_n 0, 1) := by decide +kernel
theorem dX9_borne_27 : decode cX9_borne 27 = .ok (.getfield 22, 3) := by decide +kernel
theorem dX9_borne_30 : decode cX9_borne 30 = .ok (.iload_n 3, 1) := by decide +kernel
theorem dX9_borne_31 : decode cX9_borne 31 = .ok (.iaload, 1) := by decide +kernel
theorem dX9_borne_32 : decode cX9_borne 32 = .ok (.iconst (-1), 1) := by decide +kernel
theorem dX9_borne_33 : decode cX9_borne 33 = .ok (.if_icmp .eq 25, 3) := by decide +kernel
theorem dX9_borne_36 : decode cX9_borne 36 = .ok (.iload_n 2, 1) := by decide +kernel
theorem dX9_borne_37 : decode cX9_borne 37 = .ok (.iconst (-1), 1) := by decide +kernel
theorem dX9_borne_38 : decode cX9_borne 38 = .ok (.if_icmp .eq 13, 3) := by decide +kernel
theorem dX9_borne_41 : decode cX9_borne 41 = .ok (.aload_n 0, 1) := by decide +kernel
theorem dX9_borne_42 : decode cX9_borne 42 = .ok (.getfield 22, 3) := by decide +kernel
theorem dX9_borne_45 : decode cX9_borne 45 = .ok (.iload_n 3, 1) := by decide +kernel
theorem dX9_borne_46 : decode cX9_borne 46 = .ok (.iaload, 1) := by decide +kernel
theorem dX9_borne_47 : decode cX9_borne 47 = .ok (.iload_n 2, 1) := by decide +kernel
theorem dX9_borne_48 : decode cX9_borne 48 = .ok (.if_icmp .ge 10, 3) := by decide +kernel
theorem dX9_borne_51 : decode cX9_borne 51 = .ok (.aload_n 0, 1) := by decide +kernel
theorem dX9_borne_52 : decode cX9_borne 52 = .ok (.getfield 22, 3) := by decide +kernel
theorem dX9_borne_55 : decode cX9_borne 55 = .ok (.iload_n 3, 1) := by decide +kernel
theorem dX9_borne_56 : decode cX9_borne 56 = .ok (.iaload, 1) := by decide +kernel
theorem dX9_borne_57 : decode cX9_borne 57 = .ok (.istore_n 2, 1) := by decide +kernel
theorem dX9_borne_58 : decode cX9_borne 58 = .ok (.iinc 3 1, 3) := by decide +kernel
theorem dX9_borne_61 : decode cX9_borne 61 = .ok (.goto (-52), 3) := by decide +kernel
theorem dX9_borne_64 : decode cX9_borne 64 = .ok (.iload_n 2, 1) := by decide +kernel
theorem dX9_borne_65 : decode cX9_borne 65 = .ok (.ireturn, 1) := by decide +kernel
theorem dX9_wave__0 : decode cX9_wave_ 0 = .ok (.aload_n 0, 1) := by decide +kernel
theorem dX9_wave__1 : decode cX9_wave_ 1 = .ok (.invokevirtual 183, 3) := by decide +kernel
theorem dX9_wave__4 : decode cX9_wave_ 4 = .ok (.aload_n 0, 1) := by decide +kernel
theorem dX9_wave__5 : decode cX9_wave_ 5 = .ok (.iload_n 1, 1) := by decide +kernel
theorem dX9_wave__6 : decode cX9_wave_ 6 = .ok (.invokevirtual 208, 3) := by decide +kernel
theorem dX9_wave__9 : decode cX9_wave_ 9 = .ok (.ifCond .ne 5, 3) := by decide +kernel
theorem dX9_wave__12 : decode cX9_wave_ 12 = .ok (.iconst (-1), 1) := by decide +kernel
theorem dX9_wave__13 : decode cX9_wave_ 13 = .ok (.ireturn, 1) := by decide +kernel
theorem dX9_wave__14 : decode cX9_wave_ 14 = .ok (.iload_n 2, 1) := by decide +kernel
theorem dX9_wave__15 : decode cX9_wave_ 15 = .ok (.tableswitch 181 0 11 #[61, 68, 75, 81, 100, 119, 126, 133, 140, 154, 169, 175], 61) := by decide +kernel
theorem dX9_wave__76 : decode cX9_wave_ 76 = .ok (.aload_n 0, 1) := by decide +kernel
theorem dX9_wave__77 : decode cX9_wave_ 77 = .ok (.getfield 55, 3) := by decide +kernel
theorem dX9_wave__80 : decode cX9_wave_ 80 = .ok (.iload_n 1, 1) := by decide +kernel
theorem dX9_wave__81 : decode cX9_wave_ 81 = .ok (.iaload, 1) := by decide +kernel
theorem dX9_wave__82 : decode cX9_wave_ 82 = .ok (.ireturn, 1) := by decide +kernel
theorem dX9_wave__83 : decode cX9_wave_ 83 = .ok (.aload_n 0, 1) := by decide +kernel
theorem dX9_wave__84 : decode cX9_wave_ 84 = .ok (.getfield 58, 3) := by decide +kernel
theorem dX9_wave__87 : decode cX9_wave_ 87 = .ok (.iload_n 1, 1) := by decide +kernel
theorem dX9_wave__88 : decode cX9_wave_ 88 = .ok (.iaload, 1) := by decide +kernel
theorem dX9_wave__89 : decode cX9_wave_ 89 = .ok (.ireturn, 1) := by decide +kernel
theorem dX9_wave__90 : decode cX9_wave_ 90 = .ok (.aload_n 0, 1) := by decide +kernel
theorem dX9_wave__91 : decode cX9_wave_ 91 = .ok (.iload_n 1, 1) := by decide +kernel
theorem dX9_wave__92 : decode cX9_wave_ 92 = .ok (.invokevirtual 160, 3) := by decide +kernel
theorem dX9_wave__95 : decode cX9_wave_ 95 = .ok (.ireturn, 1) := by decide +kernel
theorem dX9_wave__96 : decode cX9_wave_ 96 = .ok (.aload_n 0, 1) := by decide +kernel
theorem dX9_wave__97 : decode cX9_wave_ 97 = .ok (.getfield 61, 3) := by decide +kernel
theorem dX9_wave__100 : decode cX9_wave_ 100 = .ok (.iload_n 1, 1) := by decide +kernel
theorem dX9_wave__101 : decode cX9_wave_ 101 = .ok (.iaload, 1) := by decide +kernel
theorem dX9_wave__102 : decode cX9_wave_ 102 = .ok (.aload_n 0, 1) := by decide +kernel
theorem dX9_wave__103 : decode cX9_wave_ 103 = .ok (.getfield 40, 3) := by decide +kernel
theorem dX9_wave__106 : decode cX9_wave_ 106 = .ok (.aload_n 0, 1) := by decide +kernel
theorem dX9_wave__107 : decode cX9_wave_ 107 = .ok (.getfield 70, 3) := by decide +kernel
theorem dX9_wave__110 : decode cX9_wave_ 110 = .ok (.iload_n 1, 1) := by decide +kernel
theorem dX9_wave__111 : decode cX9_wave_ 111 = .ok (.iaload, 1) := by decide +kernel
theorem dX9_wave__112 : decode cX9_wave_ 112 = .ok (.iaload, 1) := by decide +kernel
theorem dX9_wave__113 : decode cX9_wave_ 113 = .ok (.isub, 1) := by decide +kernel
theorem dX9_wave__114 : decode cX9_wave_ 114 = .ok (.ireturn, 1) := by decide +kernel
theorem dX9_wave__115 : decode cX9_wave_ 115 = .ok (.aload_n 0, 1) := by decide +kernel
theorem dX9_wave__116 : decode cX9_wave_ 116 = .ok (.getfield 40, 3) := by decide +kernel
theorem dX9_wave__119 : decode cX9_wave_ 119 = .ok (.aload_n 0, 1) := by decide +kernel
theorem dX9_wave__120 : decode cX9_wave_ 120 = .ok (.getfield 70, 3) := by decide +kernel
theorem dX9_wave__123 : decode cX9_wave_ 123 = .ok (.iload_n 1, 1) := by decide +kernel
theorem dX9_wave__124 : decode cX9_wave_ 124 = .ok (.iaload, 1) := by decide +kernel
theorem dX9_wave__125 : decode cX9_wave_ 125 = .ok (.iaload, 1) := by decide +kernel
theorem dX9_wave__126 : decode cX9_wave_ 126 = .ok (.aload_n 0, 1) := by decide +kernel
theorem dX9_wave__127 : decode cX9_wave_ 127 = .ok (.getfield 64, 3) := by decide +kernel
theorem dX9_wave__130 : decode cX9_wave_ 130 = .ok (.iload_n 1, 1) := by decide +kernel
theorem dX9_wave__131 : decode cX9_wave_ 131 = .ok (.iaload, 1) := by decide +kernel
theorem dX9_wave__132 : decode cX9_wave_ 132 = .ok (.isub, 1) := by decide +kernel
theorem dX9_wave__133 : decode cX9_wave_ 133 = .ok (.ireturn, 1) := by decide +kernel
theorem dX9_wave__134 : decode cX9_wave_ 134 = .ok (.aload_n 0, 1) := by decide +kernel
theorem dX9_wave__135 : decode cX9_wave_ 135 = .ok (.getfield 67, 3) := by decide +kernel
theorem dX9_wave__138 : decode cX9_wave_ 138 = .ok (.iload_n 1, 1) := by decide +kernel
theorem dX9_wave__139 : decode cX9_wave_ 139 = .ok (.iaload, 1) := by decide +kernel
theorem dX9_wave__140 : decode cX9_wave_ 140 = .ok (.ireturn, 1) := by decide +kernel
theorem dX9_wave__141 : decode cX9_wave_ 141 = .ok (.aload_n 0, 1) := by decide +kernel
theorem dX9_wave__142 : decode cX9_wave_ 142 = .ok (.getfield 70, 3) := by decide +kernel
theorem dX9_wave__145 : decode cX9_wave_ 145 = .ok (.iload_n 1, 1) := by decide +kernel
theorem dX9_wave__146 : decode cX9_wave_ 146 = .ok (.iaload, 1) := by decide +kernel
theorem dX9_wave__147 : decode cX9_wave_ 147 = .ok (.ireturn, 1) := by decide +kernel
theorem dX9_wave__148 : decode cX9_wave_ 148 = .ok (.aload_n 0, 1) := by decide +kernel
theorem dX9_wave__149 : decode cX9_wave_ 149 = .ok (.getfield 73, 3) := by decide +kernel
theorem dX9_wave__152 : decode cX9_wave_ 152 = .ok (.iload_n 1, 1) := by decide +kernel
theorem dX9_wave__153 : decode cX9_wave_ 153 = .ok (.iaload, 1) := by decide +kernel
theorem dX9_wave__154 : decode cX9_wave_ 154 = .ok (.ireturn, 1) := by decide +kernel
theorem dX9_wave__155 : decode cX9_wave_ 155 = .ok (.aload_n 0, 1) := by decide +kernel
theorem dX9_wave__156 : decode cX9_wave_ 156 = .ok (.iload_n 1, 1) := by decide +kernel
theorem dX9_wave__157 : decode cX9_wave_ 157 = .ok (.invokevirtual 177, 3) := by decide +kernel
theorem dX9_wave__160 : decode cX9_wave_ 160 = .ok (.ifCond .eq 7, 3) := by decide +kernel
theorem dX9_wave__163 : decode cX9_wave_ 163 = .ok (.iconst 1, 1) := by decide +kernel
theorem dX9_wave__164 : decode cX9_wave_ 164 = .ok (.goto 4, 3) := by decide +kernel
theorem dX9_wave__167 : decode cX9_wave_ 167 = .ok (.iconst 0, 1) := by decide +kernel
theorem dX9_wave__168 : decode cX9_wave_ 168 = .ok (.ireturn, 1) := by decide +kernel
theorem dX9_wave__169 : decode cX9_wave_ 169 = .ok (.aload_n 0, 1) := by decide +kernel
theorem dX9_wave__170 : decode cX9_wave_ 170 = .ok (.getfield 76, 3) := by decide +kernel
theorem dX9_wave__173 : decode cX9_wave_ 173 = .ok (.iload_n 1, 1) := by decide +kernel
theorem dX9_wave__174 : decode cX9_wave_ 174 = .ok (.baload, 1) := by decide +kernel
theorem dX9_wave__175 : decode cX9_wave_ 175 = .ok (.ifCond .eq 7, 3) := by decide +kernel
theorem dX9_wave__178 : decode cX9_wave_ 178 = .ok (.iconst 1, 1) := by decide +kernel
theorem dX9_wave__179 : decode cX9_wave_ 179 = .ok (.goto 4, 3) := by decide +kernel
theorem dX9_wave__182 : decode cX9_wave_ 182 = .ok (.iconst 0, 1) := by decide +kernel
theorem dX9_wave__183 : decode cX9_wave_ 183 = .ok (.ireturn, 1) := by decide +kernel
theorem dX9_wave__184 : decode cX9_wave_ 184 = .ok (.aload_n 0, 1) := by decide +kernel
theorem dX9_wave__185 : decode cX9_wave_ 185 = .ok (.iload_n 1, 1) := by decide +kernel
theorem dX9_wave__186 : decode cX9_wave_ 186 = .ok (.invokevirtual 211, 3) := by decide +kernel
theorem dX9_wave__189 : decode cX9_wave_ 189 = .ok (.ireturn, 1) := by decide +kernel
theorem dX9_wave__190 : decode cX9_wave_ 190 = .ok (.aload_n 0, 1) := by decide +kernel
theorem dX9_wave__191 : decode cX9_wave_ 191 = .ok (.iload_n 1, 1) := by decide +kernel
theorem dX9_wave__192 : decode cX9_wave_ 192 = .ok (.invokevirtual 214, 3) := by decide +kernel
theorem dX9_wave__195 : decode cX9_wave_ 195 = .ok (.ireturn, 1) := by decide +kernel
theorem dX9_wave__196 : decode cX9_wave_ 196 = .ok (.iconst (-1), 1) := by decide +kernel
theorem dX9_wave__197 : decode cX9_wave_ 197 = .ok (.ireturn, 1) := by decide +kernel
theorem dX9_ranked_0 : decode cX9_ranked 0 = .ok (.aload_n 0, 1) := by decide +kernel
theorem dX9_ranked_1 : decode cX9_ranked 1 = .ok (.invokevirtual 183, 3) := by decide +kernel
theorem dX9_ranked_4 : decode cX9_ranked 4 = .ok (.iconst 0, 1) := by decide +kernel
theorem dX9_ranked_5 : decode cX9_ranked 5 = .ok (.istore_n 2, 1) := by decide +kernel
theorem dX9_ranked_6 : decode cX9_ranked 6 = .ok (.iload_n 2, 1) := by decide +kernel
theorem dX9_ranked_7 : decode cX9_ranked 7 = .ok (.aload_n 0, 1) := by decide +kernel
theorem dX9_ranked_8 : decode cX9_ranked 8 = .ok (.getfield 150, 3) := by decide +kernel
theorem dX9_ranked_11 : decode cX9_ranked 11 = .ok (.if_icmp .ge 21, 3) := by decide +kernel
theorem dX9_ranked_14 : decode cX9_ranked 14 = .ok (.aload_n 0, 1) := by decide +kernel
theorem dX9_ranked_15 : decode cX9_ranked 15 = .ok (.getfield 73, 3) := by decide +kernel
theorem dX9_ranked_18 : decode cX9_ranked 18 = .ok (.iload_n 2, 1) := by decide +kernel
theorem dX9_ranked_19 : decode cX9_ranked 19 = .ok (.iaload, 1) := by decide +kernel
theorem dX9_ranked_20 : decode cX9_ranked 20 = .ok (.iload_n 1, 1) := by decide +kernel
theorem dX9_ranked_21 : decode cX9_ranked 21 = .ok (.if_icmp .ne 5, 3) := by decide +kernel
theorem dX9_ranked_24 : decode cX9_ranked 24 = .ok (.iload_n 2, 1) := by decide +kernel
theorem dX9_ranked_25 : decode cX9_ranked 25 = .ok (.ireturn, 1) := by decide +kernel
theorem dX9_ranked_26 : decode cX9_ranked 26 = .ok (.iinc 2 1, 3) := by decide +kernel
theorem dX9_ranked_29 : decode cX9_ranked 29 = .ok (.goto (-23), 3) := by decide +kernel
theorem dX9_ranked_32 : decode cX9_ranked 32 = .ok (.iconst (-1), 1) := by decide +kernel
theorem dX9_ranked_33 : decode cX9_ranked 33 = .ok (.ireturn, 1) := by decide +kernel
theorem dX9_common_0 : decode cX9_common 0 = .ok (.lload_n 0, 1) := by decide +kernel
theorem dX9_common_1 : decode cX9_common 1 = .ok (.lstore 4, 2) := by decide +kernel
theorem dX9_common_3 : decode cX9_common 3 = .ok (.lload_n 2, 1) := by decide +kernel
theorem dX9_common_4 : decode cX9_common 4 = .ok (.lstore 6, 2) := by decide +kernel
theorem dX9_common_6 : decode cX9_common 6 = .ok (.lload 6, 2) := by decide +kernel
theorem dX9_common_8 : decode cX9_common 8 = .ok (.lconst 0, 1) := by decide +kernel
theorem dX9_common_9 : decode cX9_common 9 = .ok (.lcmp, 1) := by decide +kernel
theorem dX9_common_10 : decode cX9_common 10 = .ok (.ifCond .eq 21, 3) := by decide +kernel
theorem dX9_common_13 : decode cX9_common 13 = .ok (.lload 4, 2) := by decide +kernel
theorem dX9_common_15 : decode cX9_common 15 = .ok (.lload 6, 2) := by decide +kernel
theorem dX9_common_17 : decode cX9_common 17 = .ok (.lrem, 1) := by decide +kernel
theorem dX9_common_18 : decode cX9_common 18 = .ok (.lstore 8, 2) := by decide +kernel
theorem dX9_common_20 : decode cX9_common 20 = .ok (.lload 6, 2) := by decide +kernel
theorem dX9_common_22 : decode cX9_common 22 = .ok (.lstore 4, 2) := by decide +kernel
theorem dX9_common_24 : decode cX9_common 24 = .ok (.lload 8, 2) := by decide +kernel
theorem dX9_common_26 : decode cX9_common 26 = .ok (.lstore 6, 2) := by decide +kernel
theorem dX9_common_28 : decode cX9_common 28 = .ok (.goto (-22), 3) := by decide +kernel
theorem dX9_common_31 : decode cX9_common 31 = .ok (.lload 4, 2) := by decide +kernel
theorem dX9_common_33 : decode cX9_common 33 = .ok (.lreturn, 1) := by decide +kernel
theorem dX9_highest_0 : decode cX9_highest 0 = .ok (.iload_n 1, 1) := by decide +kernel
theorem dX9_highest_1 : decode cX9_highest 1 = .ok (.iconst 1, 1) := by decide +kernel
theorem dX9_highest_2 : decode cX9_highest 2 = .ok (.bipush 10, 2) := by decide +kernel
theorem dX9_highest_4 : decode cX9_highest 4 = .ok (.invokestatic 80, 3) := by decide +kernel
theorem dX9_highest_7 : decode cX9_highest 7 = .ok (.ifCond .eq 12, 3) := by decide +kernel
theorem dX9_highest_10 : decode cX9_highest 10 = .ok (.iload_n 2, 1) := by decide +kernel
theorem dX9_highest_11 : decode cX9_highest 11 = .ok (.iconst 0, 1) := by decide +kernel
theorem dX9_highest_12 : decode cX9_highest 12 = .ok (.iconst 4, 1) := by decide +kernel
theorem dX9_highest_13 : decode cX9_highest 13 = .ok (.invokestatic 80, 3) := by decide +kernel
theorem dX9_highest_16 : decode cX9_highest 16 = .ok (.ifCond .ne 5, 3) := by decide +kernel
theorem dX9_highest_19 : decode cX9_highest 19 = .ok (.iconst (-1), 1) := by decide +kernel
theorem dX9_highest_20 : decode cX9_highest 20 = .ok (.ireturn, 1) := by decide +kernel
theorem dX9_highest_21 : decode cX9_highest 21 = .ok (.aload_n 0, 1) := by decide +kernel
theorem dX9_highest_22 : decode cX9_highest 22 = .ok (.invokevirtual 183, 3) := by decide +kernel
theorem dX9_highest_25 : decode cX9_highest 25 = .ok (.aload_n 0, 1) := by decide +kernel
theorem dX9_highest_26 : decode cX9_highest 26 = .ok (.iload_n 1, 1) := by decide +kernel
theorem dX9_highest_27 : decode cX9_highest 27 = .ok (.invokevirtual 166, 3) := by decide +kernel
theorem dX9_highest_30 : decode cX9_highest 30 = .ok (.istore_n 3, 1) := by decide +kernel
theorem dX9_highest_31 : decode cX9_highest 31 = .ok (.iload_n 2, 1) := by decide +kernel
theorem dX9_highest_32 : decode cX9_highest 32 = .ok (.iconst 4, 1) := by decide +kernel
theorem dX9_highest_33 : decode cX9_highest 33 = .ok (.if_icmp .ne 5, 3) := by decide +kernel
theorem dX9_highest_36 : decode cX9_highest 36 = .ok (.iload_n 3, 1) := by decide +kernel
theorem dX9_highest_37 : decode cX9_highest 37 = .ok (.ireturn, 1) := by decide +kernel
theorem dX9_highest_38 : decode cX9_highest 38 = .ok (.iload_n 3, 1) := by decide +kernel
theorem dX9_highest_39 : decode cX9_highest 39 = .ok (.ifCond .ne 7, 3) := by decide +kernel
theorem dX9_highest_42 : decode cX9_highest 42 = .ok (.iload_n 2, 1) := by decide +kernel
theorem dX9_highest_43 : decode cX9_highest 43 = .ok (.iconst 2, 1) := by decide +kernel
theorem dX9_highest_44 : decode cX9_highest 44 = .ok (.irem, 1) := by decide +kernel
theorem dX9_highest_45 : decode cX9_highest 45 = .ok (.ireturn, 1) := by decide +kernel
theorem dX9_highest_46 : decode cX9_highest 46 = .ok (.aload_n 0, 1) := by decide +kernel
theorem dX9_highest_47 : decode cX9_highest 47 = .ok (.iload_n 1, 1) := by decide +kernel
theorem dX9_highest_48 : decode cX9_highest 48 = .ok (.iload_n 2, 1) := by decide +kernel
theorem dX9_highest_49 : decode cX9_highest 49 = .ok (.iconst 2, 1) := by decide +kernel
theorem dX9_highest_50 : decode cX9_highest 50 = .ok (.if_icmp .ge 7, 3) := by decide +kernel
theorem dX9_highest_53 : decode cX9_highest 53 = .ok (.iconst 1, 1) := by decide +kernel
theorem dX9_highest_54 : decode cX9_highest 54 = .ok (.goto 4, 3) := by decide +kernel
theorem dX9_highest_57 : decode cX9_highest 57 = .ok (.iconst 0, 1) := by decide +kernel
theorem dX9_highest_58 : decode cX9_highest 58 = .ok (.invokevirtual 169, 3) := by decide +kernel
theorem dX9_highest_61 : decode cX9_highest 61 = .ok (.lstore 4, 2) := by decide +kernel
theorem dX9_highest_63 : decode cX9_highest 63 = .ok (.iload_n 2, 1) := by decide +kernel
theorem dX9_highest_64 : decode cX9_highest 64 = .ok (.iconst 2, 1) := by decide +kernel
theorem dX9_highest_65 : decode cX9_highest 65 = .ok (.irem, 1) := by decide +kernel
theorem dX9_highest_66 : decode cX9_highest 66 = .ok (.ifCond .ne 8, 3) := by decide +kernel
theorem dX9_highest_69 : decode cX9_highest 69 = .ok (.lload 4, 2) := by decide +kernel
theorem dX9_highest_71 : decode cX9_highest 71 = .ok (.goto 5, 3) := by decide +kernel
theorem dX9_highest_74 : decode cX9_highest 74 = .ok (.iload_n 3, 1) := by decide +kernel
theorem dX9_highest_75 : decode cX9_highest 75 = .ok (.i2l, 1) := by decide +kernel
theorem dX9_highest_76 : decode cX9_highest 76 = .ok (.lload 4, 2) := by decide +kernel
theorem dX9_highest_78 : decode cX9_highest 78 = .ok (.iload_n 3, 1) := by decide +kernel
theorem dX9_highest_79 : decode cX9_highest 79 = .ok (.i2l, 1) := by decide +kernel
theorem dX9_highest_80 : decode cX9_highest 80 = .ok (.invokestatic 217, 3) := by decide +kernel
theorem dX9_highest_83 : decode cX9_highest 83 = .ok (.ldiv, 1) := by decide +kernel
theorem dX9_highest_84 : decode cX9_highest 84 = .ok (.l2i, 1) := by decide +kernel
theorem dX9_highest_85 : decode cX9_highest 85 = .ok (.ireturn, 1) := by decide +kernel
theorem dX9_freak_0 : decode cX9_freak 0 = .ok (.aload_n 0, 1) := by decide +kernel
theorem dX9_freak_1 : decode cX9_freak 1 = .ok (.invokevirtual 183, 3) := by decide +kernel
theorem dX9_freak_4 : decode cX9_freak 4 = .ok (.iconst 0, 1) := by decide +kernel
theorem dX9_freak_5 : decode cX9_freak 5 = .ok (.istore_n 2, 1) := by decide +kernel
theorem dX9_freak_6 : decode cX9_freak 6 = .ok (.iconst 0, 1) := by decide +kernel
theorem dX9_freak_7 : decode cX9_freak 7 = .ok (.istore_n 3, 1) := by decide +kernel
theorem dX9_freak_8 : decode cX9_freak 8 = .ok (.iload_n 3, 1) := by decide +kernel
theorem dX9_freak_9 : decode cX9_freak 9 = .ok (.aload_n 0, 1) := by decide +kernel
theorem dX9_freak_10 : decode cX9_freak 10 = .ok (.getfield 150, 3) := by decide +kernel
theorem dX9_freak_13 : decode cX9_freak 13 = .ok (.if_icmp .ge 51, 3) := by decide +kernel
theorem dX9_freak_16 : decode cX9_freak 16 = .ok (.iconst 0, 1) := by decide +kernel
theorem dX9_freak_17 : decode cX9_freak 17 = .ok (.istore 4, 2) := by decide +kernel
theorem dX9_freak_19 : decode cX9_freak 19 = .ok (.aload_n 0, 1) := by decide +kernel
theorem dX9_freak_20 : decode cX9_freak 20 = .ok (.getfield 73, 3) := by decide +kernel
theorem dX9_freak_23 : decode cX9_freak 23 = .ok (.iload 4, 2) := by decide +kernel
theorem dX9_freak_25 : decode cX9_freak 25 = .ok (.iaload, 1) := by decide +kernel
theorem dX9_freak_26 : decode cX9_freak 26 = .ok (.iload_n 3, 1) := by decide +kernel
theorem dX9_freak_27 : decode cX9_freak 27 = .ok (.if_icmp .eq 9, 3) := by decide +kernel
theorem dX9_freak_30 : decode cX9_freak 30 = .ok (.iinc 4 1, 3) := by decide +kernel
theorem dX9_freak_33 : decode cX9_freak 33 = .ok (.goto (-14), 3) := by decide +kernel
theorem dX9_freak_36 : decode cX9_freak 36 = .ok (.aload_n 0, 1) := by decide +kernel
theorem dX9_freak_37 : decode cX9_freak 37 = .ok (.iload 4, 2) := by decide +kernel
theorem dX9_freak_39 : decode cX9_freak 39 = .ok (.invokevirtual 177, 3) := by decide +kernel
theorem dX9_freak_42 : decode cX9_freak 42 = .ok (.ifCond .ne 5, 3) := by decide +kernel
theorem dX9_freak_45 : decode cX9_freak 45 = .ok (.iconst (-1), 1) := by decide +kernel
theorem dX9_freak_46 : decode cX9_freak 46 = .ok (.ireturn, 1) := by decide +kernel
theorem dX9_freak_47 : decode cX9_freak 47 = .ok (.iload_n 2, 1) := by decide +kernel
theorem dX9_freak_48 : decode cX9_freak 48 = .ok (.iload_n 1, 1) := by decide +kernel
theorem dX9_freak_49 : decode cX9_freak 49 = .ok (.if_icmp .ne 6, 3) := by decide +kernel
theorem dX9_freak_52 : decode cX9_freak 52 = .ok (.iload 4, 2) := by decide +kernel
theorem dX9_freak_54 : decode cX9_freak 54 = .ok (.ireturn, 1) := by decide +kernel
theorem dX9_freak_55 : decode cX9_freak 55 = .ok (.iinc 2 1, 3) := by decide +kernel
theorem dX9_freak_58 : decode cX9_freak 58 = .ok (.iinc 3 1, 3) := by decide +kernel
theorem dX9_freak_61 : decode cX9_freak 61 = .ok (.goto (-53), 3) := by decide +kernel
theorem dX9_freak_64 : decode cX9_freak 64 = .ok (.iconst (-1), 1) := by decide +kernel
theorem dX9_freak_65 : decode cX9_freak 65 = .ok (.ireturn, 1) := by decide +kernel
theorem dX9_group_0 : decode cX9_group 0 = .ok (.aload_n 0, 1) := by decide +kernel
theorem dX9_group_1 : decode cX9_group 1 = .ok (.invokevirtual 183, 3) := by decide +kernel
theorem dX9_group_4 : decode cX9_group 4 = .ok (.aload_n 0, 1) := by decide +kernel
theorem dX9_group_5 : decode cX9_group 5 = .ok (.iload_n 1, 1) := by decide +kernel
theorem dX9_group_6 : decode cX9_group 6 = .ok (.invokevirtual 220, 3) := by decide +kernel
theorem dX9_group_9 : decode cX9_group 9 = .ok (.istore_n 3, 1) := by decide +kernel
theorem dX9_group_10 : decode cX9_group 10 = .ok (.iload_n 3, 1) := by decide +kernel
theorem dX9_group_11 : decode cX9_group 11 = .ok (.iconst (-1), 1) := by decide +kernel
theorem dX9_group_12 : decode cX9_group 12 = .ok (.if_icmp .eq 12, 3) := by decide +kernel
theorem dX9_group_15 : decode cX9_group 15 = .ok (.iload_n 2, 1) := by decide +kernel
theorem dX9_group_16 : decode cX9_group 16 = .ok (.iconst 0, 1) := by decide +kernel
theorem dX9_group_17 : decode cX9_group 17 = .ok (.iconst 4, 1) := by decide +kernel
theorem dX9_group_18 : decode cX9_group 18 = .ok (.invokestatic 80, 3) := by decide +kernel
theorem dX9_group_21 : decode cX9_group 21 = .ok (.ifCond .ne 5, 3) := by decide +kernel
theorem dX9_group_24 : decode cX9_group 24 = .ok (.iconst (-1), 1) := by decide +kernel
theorem dX9_group_25 : decode cX9_group 25 = .ok (.ireturn, 1) := by decide +kernel
theorem dX9_group_26 : decode cX9_group 26 = .ok (.aload_n 0, 1) := by decide +kernel
theorem dX9_group_27 : decode cX9_group 27 = .ok (.iload_n 3, 1) := by decide +kernel
theorem dX9_group_28 : decode cX9_group 28 = .ok (.invokevirtual 180, 3) := by decide +kernel
theorem dX9_group_31 : decode cX9_group 31 = .ok (.istore 4, 2) := by decide +kernel
theorem dX9_group_33 : decode cX9_group 33 = .ok (.iload_n 3, 1) := by decide +kernel
theorem dX9_group_34 : decode cX9_group 34 = .ok (.istore 5, 2) := by decide +kernel
theorem dX9_group_36 : decode cX9_group 36 = .ok (.iconst 0, 1) := by decide +kernel
theorem dX9_group_37 : decode cX9_group 37 = .ok (.istore 6, 2) := by decide +kernel
theorem dX9_group_39 : decode cX9_group 39 = .ok (.iload_n 3, 1) := by decide +kernel
theorem dX9_group_40 : decode cX9_group 40 = .ok (.istore 7, 2) := by decide +kernel
theorem dX9_group_42 : decode cX9_group 42 = .ok (.iload 7, 2) := by decide +kernel
theorem dX9_group_44 : decode cX9_group 44 = .ok (.iload_n 3, 1) := by decide +kernel
theorem dX9_group_45 : decode cX9_group 45 = .ok (.iload 4, 2) := by decide +kernel
theorem dX9_group_47 : decode cX9_group 47 = .ok (.iadd, 1) := by decide +kernel
theorem dX9_group_48 : decode cX9_group 48 = .ok (.if_icmp .ge 42, 3) := by decide +kernel
theorem dX9_group_51 : decode cX9_group 51 = .ok (.aload_n 0, 1) := by decide +kernel
theorem dX9_group_52 : decode cX9_group 52 = .ok (.getfield 73, 3) := by decide +kernel
theorem dX9_group_55 : decode cX9_group 55 = .ok (.iload 7, 2) := by decide +kernel
theorem dX9_group_57 : decode cX9_group 57 = .ok (.iaload, 1) := by decide +kernel
theorem dX9_group_58 : decode cX9_group 58 = .ok (.aload_n 0, 1) := by decide +kernel
theorem dX9_group_59 : decode cX9_group 59 = .ok (.getfield 73, 3) := by decide +kernel
theorem dX9_group_62 : decode cX9_group 62 = .ok (.iload 5, 2) := by decide +kernel
theorem dX9_group_64 : decode cX9_group 64 = .ok (.iaload, 1) := by decide +kernel
theorem dX9_group_65 : decode cX9_group 65 = .ok (.if_icmp .ge 7, 3) := by decide +kernel
theorem dX9_group_68 : decode cX9_group 68 = .ok (.iload 7, 2) := by decide +kernel
theorem dX9_group_70 : decode cX9_group 70 = .ok (.istore 5, 2) := by decide +kernel
theorem dX9_group_72 : decode cX9_group 72 = .ok (.iload 6, 2) := by decide +kernel
theorem dX9_group_74 : decode cX9_group 74 = .ok (.aload_n 0, 1) := by decide +kernel
theorem dX9_group_75 : decode cX9_group 75 = .ok (.getfield 58, 3) := by decide +kernel
theorem dX9_group_78 : decode cX9_group 78 = .ok (.iload 7, 2) := by decide +kernel
theorem dX9_group_80 : decode cX9_group 80 = .ok (.iaload, 1) := by decide +kernel
theorem dX9_group_81 : decode cX9_group 81 = .ok (.iadd, 1) := by decide +kernel
theorem dX9_group_82 : decode cX9_group 82 = .ok (.istore 6, 2) := by decide +kernel
theorem dX9_group_84 : decode cX9_group 84 = .ok (.iinc 7 1, 3) := by decide +kernel
theorem dX9_group_87 : decode cX9_group 87 = .ok (.goto (-45), 3) := by decide +kernel
theorem dX9_group_90 : decode cX9_group 90 = .ok (.aload_n 0, 1) := by decide +kernel
theorem dX9_group_91 : decode cX9_group 91 = .ok (.iload_n 1, 1) := by decide +kernel
theorem dX9_group_92 : decode cX9_group 92 = .ok (.iconst 1, 1) := by decide +kernel
theorem dX9_group_93 : decode cX9_group 93 = .ok (.iadd, 1) := by decide +kernel
theorem dX9_group_94 : decode cX9_group 94 = .ok (.invokevirtual 220, 3) := by decide +kernel
theorem dX9_group_97 : decode cX9_group 97 = .ok (.istore 7, 2) := by decide +kernel
theorem dX9_group_99 : decode cX9_group 99 = .ok (.iload_n 2, 1) := by decide +kernel
theorem dX9_group_100 : decode cX9_group 100 = .ok (.ifCond .ne 7, 3) := by decide +kernel
theorem dX9_group_103 : decode cX9_group 103 = .ok (.iload_n 3, 1) := by decide +kernel
theorem dX9_group_104 : decode cX9_group 104 = .ok (.goto 47, 3) := by decide +kernel
theorem dX9_group_107 : decode cX9_group 107 = .ok (.iload_n 2, 1) := by decide +kernel
theorem dX9_group_108 : decode cX9_group 108 = .ok (.iconst 1, 1) := by decide +kernel
theorem dX9_group_109 : decode cX9_group 109 = .ok (.if_icmp .ne 8, 3) := by decide +kernel
theorem dX9_group_112 : decode cX9_group 112 = .ok (.iload 4, 2) := by decide +kernel
theorem dX9_group_114 : decode cX9_group 114 = .ok (.goto 37, 3) := by decide +kernel
theorem dX9_group_117 : decode cX9_group 117 = .ok (.iload_n 2, 1) := by decide +kernel
theorem dX9_group_118 : decode cX9_group 118 = .ok (.iconst 2, 1) := by decide +kernel
theorem dX9_group_119 : decode cX9_group 119 = .ok (.if_icmp .ne 8, 3) := by decide +kernel
theorem dX9_group_122 : decode cX9_group 122 = .ok (.iload 5, 2) := by decide +kernel
theorem dX9_group_124 : decode cX9_group 124 = .ok (.goto 27, 3) := by decide +kernel
theorem dX9_group_127 : decode cX9_group 127 = .ok (.iload_n 2, 1) := by decide +kernel
theorem dX9_group_128 : decode cX9_group 128 = .ok (.iconst 4, 1) := by decide +kernel
theorem dX9_group_129 : decode cX9_group 129 = .ok (.if_icmp .ne 8, 3) := by decide +kernel
theorem dX9_group_132 : decode cX9_group 132 = .ok (.iload 6, 2) := by decide +kernel
theorem dX9_group_134 : decode cX9_group 134 = .ok (.goto 17, 3) := by decide +kernel
theorem dX9_group_137 : decode cX9_group 137 = .ok (.iload 7, 2) := by decide +kernel
theorem dX9_group_139 : decode cX9_group 139 = .ok (.iconst (-1), 1) := by decide +kernel
theorem dX9_group_140 : decode cX9_group 140 = .ok (.if_icmp .ne 7, 3) := by decide +kernel
theorem dX9_group_143 : decode cX9_group 143 = .ok (.iconst (-1), 1) := by decide +kernel
theorem dX9_group_144 : decode cX9_group 144 = .ok (.goto 7, 3) := by decide +kernel
theorem dX9_group_147 : decode cX9_group 147 = .ok (.iload 7, 2) := by decide +kernel
theorem dX9_group_149 : decode cX9_group 149 = .ok (.iload_n 3, 1) := by decide +kernel
theorem dX9_group_150 : decode cX9_group 150 = .ok (.isub, 1) := by decide +kernel
theorem dX9_group_151 : decode cX9_group 151 = .ok (.ireturn, 1) := by decide +kernel
theorem dX9_energy_0 : decode cX9_energy 0 = .ok (.aload_n 0, 1) := by decide +kernel
theorem dX9_energy_1 : decode cX9_energy 1 = .ok (.invokevirtual 183, 3) := by decide +kernel
theorem dX9_energy_4 : decode cX9_energy 4 = .ok (.iload_n 1, 1) := by decide +kernel
theorem dX9_energy_5 : decode cX9_energy 5 = .ok (.iconst (-1), 1) := by decide +kernel
theorem dX9_energy_6 : decode cX9_energy 6 = .ok (.if_icmp .ne 7, 3) := by decide +kernel
theorem dX9_energy_9 : decode cX9_energy 9 = .ok (.iconst 0, 1) := by decide +kernel
theorem dX9_energy_10 : decode cX9_energy 10 = .ok (.goto 8, 3) := by decide +kernel
theorem dX9_energy_13 : decode cX9_energy 13 = .ok (.aload_n 0, 1) := by decide +kernel
theorem dX9_energy_14 : decode cX9_energy 14 = .ok (.iload_n 1, 1) := by decide +kernel
theorem dX9_energy_15 : decode cX9_energy 15 = .ok (.invokevirtual 220, 3) := by decide +kernel
theorem dX9_energy_18 : decode cX9_energy 18 = .ok (.istore_n 2, 1) := by decide +kernel
theorem dX9_energy_19 : decode cX9_energy 19 = .ok (.iload_n 2, 1) := by decide +kernel
theorem dX9_energy_20 : decode cX9_energy 20 = .ok (.iconst (-1), 1) := by decide +kernel
theorem dX9_energy_21 : decode cX9_energy 21 = .ok (.if_icmp .ne 7, 3) := by decide +kernel
theorem dX9_energy_24 : decode cX9_energy 24 = .ok (.ldc2_w 223, 3) := by decide +kernel
theorem dX9_energy_27 : decode cX9_energy 27 = .ok (.lreturn, 1) := by decide +kernel
theorem dX9_energy_28 : decode cX9_energy 28 = .ok (.iload_n 1, 1) := by decide +kernel
theorem dX9_energy_29 : decode cX9_energy 29 = .ok (.iconst (-1), 1) := by decide +kernel
theorem dX9_energy_30 : decode cX9_energy 30 = .ok (.if_icmp .ne 10, 3) := by decide +kernel
theorem dX9_energy_33 : decode cX9_energy 33 = .ok (.aload_n 0, 1) := by decide +kernel
theorem dX9_energy_34 : decode cX9_energy 34 = .ok (.getfield 150, 3) := by decide +kernel
theorem dX9_energy_37 : decode cX9_energy 37 = .ok (.goto 8, 3) := by decide +kernel
theorem dX9_energy_40 : decode cX9_energy 40 = .ok (.aload_n 0, 1) := by decide +kernel
theorem dX9_energy_41 : decode cX9_energy 41 = .ok (.iload_n 2, 1) := by decide +kernel
theorem dX9_energy_42 : decode cX9_energy 42 = .ok (.invokevirtual 180, 3) := by decide +kernel
theorem dX9_energy_45 : decode cX9_energy 45 = .ok (.istore_n 3, 1) := by decide +kernel
theorem dX9_energy_46 : decode cX9_energy 46 = .ok (.lconst 0, 1) := by decide +kernel
theorem dX9_energy_47 : decode cX9_energy 47 = .ok (.lstore 4, 2) := by decide +kernel
theorem dX9_energy_49 : decode cX9_energy 49 = .ok (.iload_n 2, 1) := by decide +kernel
theorem dX9_energy_50 : decode cX9_energy 50 = .ok (.istore 6, 2) := by decide +kernel
theorem dX9_energy_52 : decode cX9_energy 52 = .ok (.iload 6, 2) := by decide +kernel
theorem dX9_energy_54 : decode cX9_energy 54 = .ok (.iload_n 2, 1) := by decide +kernel
theorem dX9_energy_55 : decode cX9_energy 55 = .ok (.iload_n 3, 1) := by decide +kernel
theorem dX9_energy_56 : decode cX9_energy 56 = .ok (.iadd, 1) := by decide +kernel
theorem dX9_energy_57 : decode cX9_energy 57 = .ok (.if_icmp .ge 29, 3) := by decide +kernel
theorem dX9_energy_60 : decode cX9_energy 60 = .ok (.lload 4, 2) := by decide +kernel
theorem dX9_energy_62 : decode cX9_energy 62 = .ok (.aload_n 0, 1) := by decide +kernel
theorem dX9_energy_63 : decode cX9_energy 63 = .ok (.iload 6, 2) := by decide +kernel
theorem dX9_energy_65 : decode cX9_energy 65 = .ok (.invokevirtual 160, 3) := by decide +kernel
theorem dX9_energy_68 : decode cX9_energy 68 = .ok (.i2l, 1) := by decide +kernel
theorem dX9_energy_69 : decode cX9_energy 69 = .ok (.aload_n 0, 1) := by decide +kernel
theorem dX9_energy_70 : decode cX9_energy 70 = .ok (.iload 6, 2) := by decide +kernel
theorem dX9_energy_72 : decode cX9_energy 72 = .ok (.invokevirtual 160, 3) := by decide +kernel
theorem dX9_energy_75 : decode cX9_energy 75 = .ok (.i2l, 1) := by decide +kernel
theorem dX9_energy_76 : decode cX9_energy 76 = .ok (.lmul, 1) := by decide +kernel
theorem dX9_energy_77 : decode cX9_energy 77 = .ok (.ladd, 1) := by decide +kernel
theorem dX9_energy_78 : decode cX9_energy 78 = .ok (.lstore 4, 2) := by decide +kernel
theorem dX9_energy_80 : decode cX9_energy 80 = .ok (.iinc 6 1, 3) := by decide +kernel
theorem dX9_energy_83 : decode cX9_energy 83 = .ok (.goto (-31), 3) := by decide +kernel
theorem dX9_energy_86 : decode cX9_energy 86 = .ok (.lload 4, 2) := by decide +kernel
theorem dX9_energy_88 : decode cX9_energy 88 = .ok (.lreturn, 1) := by decide +kernel
theorem dX9_sampleOf_0 : decode cX9_sampleOf 0 = .ok (.iconst 0, 1) := by decide +kernel
theorem dX9_sampleOf_1 : decode cX9_sampleOf 1 = .ok (.istore_n 2, 1) := by decide +kernel
theorem dX9_sampleOf_2 : decode cX9_sampleOf 2 = .ok (.iload_n 2, 1) := by decide +kernel
theorem dX9_sampleOf_3 : decode cX9_sampleOf 3 = .ok (.aload_n 0, 1) := by decide +kernel
theorem dX9_sampleOf_4 : decode cX9_sampleOf 4 = .ok (.getfield 88, 3) := by decide +kernel
theorem dX9_sampleOf_7 : decode cX9_sampleOf 7 = .ok (.if_icmp .ge 21, 3) := by decide +kernel
theorem dX9_sampleOf_10 : decode cX9_sampleOf 10 = .ok (.aload_n 0, 1) := by decide +kernel
theorem dX9_sampleOf_11 : decode cX9_sampleOf 11 = .ok (.getfield 22, 3) := by decide +kernel
theorem dX9_sampleOf_14 : decode cX9_sampleOf 14 = .ok (.iload_n 2, 1) := by decide +kernel
theorem dX9_sampleOf_15 : decode cX9_sampleOf 15 = .ok (.iaload, 1) := by decide +kernel
theorem dX9_sampleOf_16 : decode cX9_sampleOf 16 = .ok (.iload_n 1, 1) := by decide +kernel
theorem dX9_sampleOf_17 : decode cX9_sampleOf 17 = .ok (.if_icmp .ne 5, 3) := by decide +kernel
theorem dX9_sampleOf_20 : decode cX9_sampleOf 20 = .ok (.iload_n 2, 1) := by decide +kernel
theorem dX9_sampleOf_21 : decode cX9_sampleOf 21 = .ok (.ireturn, 1) := by decide +kernel
theorem dX9_sampleOf_22 : decode cX9_sampleOf 22 = .ok (.iinc 2 1, 3) := by decide +kernel
theorem dX9_sampleOf_25 : decode cX9_sampleOf 25 = .ok (.goto (-23), 3) := by decide +kernel
theorem dX9_sampleOf_28 : decode cX9_sampleOf 28 = .ok (.iconst (-1), 1) := by decide +kernel
theorem dX9_sampleOf_29 : decode cX9_sampleOf 29 = .ok (.ireturn, 1) := by decide +kernel
theorem dX9_name_0 : decode cX9_name 0 = .ok (.aload_n 0, 1) := by decide +kernel
theorem dX9_name_1 : decode cX9_name 1 = .ok (.invokevirtual 183, 3) := by decide +kernel
theorem dX9_name_4 : decode cX9_name 4 = .ok (.aload_n 0, 1) := by decide +kernel
theorem dX9_name_5 : decode cX9_name 5 = .ok (.iload_n 1, 1) := by decide +kernel
theorem dX9_name_6 : decode cX9_name 6 = .ok (.invokevirtual 208, 3) := by decide +kernel
theorem dX9_name_9 : decode cX9_name 9 = .ok (.ifCond .eq 47, 3) := by decide +kernel
theorem dX9_name_12 : decode cX9_name 12 = .ok (.iload_n 2, 1) := by decide +kernel
theorem dX9_name_13 : decode cX9_name 13 = .ok (.iconst 1, 1) := by decide +kernel
theorem dX9_name_14 : decode cX9_name 14 = .ok (.sipush 999, 3) := by decide +kernel
theorem dX9_name_17 : decode cX9_name 17 = .ok (.invokestatic 80, 3) := by decide +kernel
theorem dX9_name_20 : decode cX9_name 20 = .ok (.ifCond .eq 36, 3) := by decide +kernel
theorem dX9_name_23 : decode cX9_name 23 = .ok (.aload_n 0, 1) := by decide +kernel
theorem dX9_name_24 : decode cX9_name 24 = .ok (.getfield 22, 3) := by decide +kernel
theorem dX9_name_27 : decode cX9_name 27 = .ok (.aload_n 0, 1) := by decide +kernel
theorem dX9_name_28 : decode cX9_name 28 = .ok (.getfield 67, 3) := by decide +kernel
theorem dX9_name_31 : decode cX9_name 31 = .ok (.iload_n 1, 1) := by decide +kernel
theorem dX9_name_32 : decode cX9_name 32 = .ok (.iaload, 1) := by decide +kernel
theorem dX9_name_33 : decode cX9_name 33 = .ok (.iaload, 1) := by decide +kernel
theorem dX9_name_34 : decode cX9_name 34 = .ok (.iconst (-1), 1) := by decide +kernel
theorem dX9_name_35 : decode cX9_name 35 = .ok (.if_icmp .ne 21, 3) := by decide +kernel
theorem dX9_name_38 : decode cX9_name 38 = .ok (.aload_n 0, 1) := by decide +kernel
theorem dX9_name_39 : decode cX9_name 39 = .ok (.iload_n 2, 1) := by decide +kernel
theorem dX9_name_40 : decode cX9_name 40 = .ok (.invokevirtual 225, 3) := by decide +kernel
theorem dX9_name_43 : decode cX9_name 43 = .ok (.iconst (-1), 1) := by decide +kernel
theorem dX9_name_44 : decode cX9_name 44 = .ok (.if_icmp .ne 12, 3) := by decide +kernel
theorem dX9_name_47 : decode cX9_name 47 = .ok (.aload_n 0, 1) := by decide +kernel
theorem dX9_name_48 : decode cX9_name 48 = .ok (.invokevirtual 192, 3) := by decide +kernel
theorem dX9_name_51 : decode cX9_name 51 = .ok (.bipush 20, 2) := by decide +kernel
theorem dX9_name_53 : decode cX9_name 53 = .ok (.if_icmp .ne 5, 3) := by decide +kernel
theorem dX9_name_56 : decode cX9_name 56 = .ok (.iconst 0, 1) := by decide +kernel
theorem dX9_name_57 : decode cX9_name 57 = .ok (.ireturn, 1) := by decide +kernel
theorem dX9_name_58 : decode cX9_name 58 = .ok (.aload_n 0, 1) := by decide +kernel
theorem dX9_name_59 : decode cX9_name 59 = .ok (.getfield 22, 3) := by decide +kernel
theorem dX9_name_62 : decode cX9_name 62 = .ok (.aload_n 0, 1) := by decide +kernel
theorem dX9_name_63 : decode cX9_name 63 = .ok (.getfield 67, 3) := by decide +kernel
theorem dX9_name_66 : decode cX9_name 66 = .ok (.iload_n 1, 1) := by decide +kernel
theorem dX9_name_67 : decode cX9_name 67 = .ok (.iaload, 1) := by decide +kernel
theorem dX9_name_68 : decode cX9_name 68 = .ok (.iload_n 2, 1) := by decide +kernel
theorem dX9_name_69 : decode cX9_name 69 = .ok (.iastore, 1) := by decide +kernel
theorem dX9_name_70 : decode cX9_name 70 = .ok (.iconst 1, 1) := by decide +kernel
theorem dX9_name_71 : decode cX9_name 71 = .ok (.ireturn, 1) := by decide +kernel
theorem dX9_unname_0 : decode cX9_unname 0 = .ok (.iload_n 1, 1) := by decide +kernel
theorem dX9_unname_1 : decode cX9_unname 1 = .ok (.iconst 1, 1) := by decide +kernel
theorem dX9_unname_2 : decode cX9_unname 2 = .ok (.sipush 999, 3) := by decide +kernel
theorem dX9_unname_5 : decode cX9_unname 5 = .ok (.invokestatic 80, 3) := by decide +kernel
theorem dX9_unname_8 : decode cX9_unname 8 = .ok (.ifCond .ne 5, 3) := by decide +kernel
theorem dX9_unname_11 : decode cX9_unname 11 = .ok (.iconst (-1), 1) := by decide +kernel
theorem dX9_unname_12 : decode cX9_unname 12 = .ok (.ireturn, 1) := by decide +kernel
theorem dX9_unname_13 : decode cX9_unname 13 = .ok (.aload_n 0, 1) := by decide +kernel
theorem dX9_unname_14 : decode cX9_unname 14 = .ok (.iload_n 1, 1) := by decide +kernel
theorem dX9_unname_15 : decode cX9_unname 15 = .ok (.invokevirtual 225, 3) := by decide +kernel
theorem dX9_unname_18 : decode cX9_unname 18 = .ok (.istore_n 2, 1) := by decide +kernel
theorem dX9_unname_19 : decode cX9_unname 19 = .ok (.iload_n 2, 1) := by decide +kernel
theorem dX9_unname_20 : decode cX9_unname 20 = .ok (.iconst (-1), 1) := by decide +kernel
theorem dX9_unname_21 : decode cX9_unname 21 = .ok (.if_icmp .eq 10, 3) := by decide +kernel
theorem dX9_unname_24 : decode cX9_unname 24 = .ok (.aload_n 0, 1) := by decide +kernel
theorem dX9_unname_25 : decode cX9_unname 25 = .ok (.getfield 22, 3) := by decide +kernel
theorem dX9_unname_28 : decode cX9_unname 28 = .ok (.iload_n 2, 1) := by decide +kernel
theorem dX9_unname_29 : decode cX9_unname 29 = .ok (.iconst (-1), 1) := by decide +kernel
theorem dX9_unname_30 : decode cX9_unname 30 = .ok (.iastore, 1) := by decide +kernel
theorem dX9_unname_31 : decode cX9_unname 31 = .ok (.iload_n 2, 1) := by decide +kernel
theorem dX9_unname_32 : decode cX9_unname 32 = .ok (.ireturn, 1) := by decide +kernel
theorem dX9_named_0 : decode cX9_named 0 = .ok (.iload_n 1, 1) := by decide +kernel
theorem dX9_named_1 : decode cX9_named 1 = .ok (.iconst 1, 1) := by decide +kernel
theorem dX9_named_2 : decode cX9_named 2 = .ok (.sipush 999, 3) := by decide +kernel
theorem dX9_named_5 : decode cX9_named 5 = .ok (.invokestatic 80, 3) := by decide +kernel
theorem dX9_named_8 : decode cX9_named 8 = .ok (.ifCond .eq 12, 3) := by decide +kernel
theorem dX9_named_11 : decode cX9_named 11 = .ok (.aload_n 0, 1) := by decide +kernel
theorem dX9_named_12 : decode cX9_named 12 = .ok (.iload_n 1, 1) := by decide +kernel
theorem dX9_named_13 : decode cX9_named 13 = .ok (.invokevirtual 225, 3) := by decide +kernel
theorem dX9_named_16 : decode cX9_named 16 = .ok (.iconst (-1), 1) := by decide +kernel
theorem dX9_named_17 : decode cX9_named 17 = .ok (.if_icmp .ne 5, 3) := by decide +kernel
theorem dX9_named_20 : decode cX9_named 20 = .ok (.iconst (-1), 1) := by decide +kernel
theorem dX9_named_21 : decode cX9_named 21 = .ok (.ireturn, 1) := by decide +kernel
theorem dX9_named_22 : decode cX9_named 22 = .ok (.aload_n 0, 1) := by decide +kernel
theorem dX9_named_23 : decode cX9_named 23 = .ok (.invokevirtual 183, 3) := by decide +kernel
theorem dX9_named_26 : decode cX9_named 26 = .ok (.aload_n 0, 1) := by decide +kernel
theorem dX9_named_27 : decode cX9_named 27 = .ok (.getfield 52, 3) := by decide +kernel
theorem dX9_named_30 : decode cX9_named 30 = .ok (.aload_n 0, 1) := by decide +kernel
theorem dX9_named_31 : decode cX9_named 31 = .ok (.iload_n 1, 1) := by decide +kernel
theorem dX9_named_32 : decode cX9_named 32 = .ok (.invokevirtual 225, 3) := by decide +kernel
theorem dX9_named_35 : decode cX9_named 35 = .ok (.iaload, 1) := by decide +kernel
theorem dX9_named_36 : decode cX9_named 36 = .ok (.ireturn, 1) := by decide +kernel
theorem dX9_would_0 : decode cX9_would 0 = .ok (.iload_n 1, 1) := by decide +kernel
theorem dX9_would_1 : decode cX9_would 1 = .ok (.iconst 0, 1) := by decide +kernel
theorem dX9_would_2 : decode cX9_would 2 = .ok (.sipush 500, 3) := by decide +kernel
theorem dX9_would_5 : decode cX9_would 5 = .ok (.invokestatic 80, 3) := by decide +kernel
theorem dX9_would_8 : decode cX9_would 8 = .ok (.ifCond .ne 5, 3) := by decide +kernel
theorem dX9_would_11 : decode cX9_would 11 = .ok (.iconst (-1), 1) := by decide +kernel
theorem dX9_would_12 : decode cX9_would 12 = .ok (.ireturn, 1) := by decide +kernel
theorem dX9_would_13 : decode cX9_would 13 = .ok (.aload_n 0, 1) := by decide +kernel
theorem dX9_would_14 : decode cX9_would 14 = .ok (.invokevirtual 183, 3) := by decide +kernel
theorem dX9_would_17 : decode cX9_would 17 = .ok (.aload_n 0, 1) := by decide +kernel
theorem dX9_would_18 : decode cX9_would 18 = .ok (.iload_n 1, 1) := by decide +kernel
theorem dX9_would_19 : decode cX9_would 19 = .ok (.invokevirtual 228, 3) := by decide +kernel
theorem dX9_would_22 : decode cX9_would 22 = .ok (.ireturn, 1) := by decide +kernel
theorem dX9_quiet_0 : decode cX9_quiet 0 = .ok (.iload_n 1, 1) := by decide +kernel
theorem dX9_quiet_1 : decode cX9_quiet 1 = .ok (.ifCond .ge 5, 3) := by decide +kernel
theorem dX9_quiet_4 : decode cX9_quiet 4 = .ok (.iconst (-1), 1) := by decide +kernel
theorem dX9_quiet_5 : decode cX9_quiet 5 = .ok (.ireturn, 1) := by decide +kernel
theorem dX9_quiet_6 : decode cX9_quiet 6 = .ok (.aload_n 0, 1) := by decide +kernel
theorem dX9_quiet_7 : decode cX9_quiet 7 = .ok (.invokevirtual 183, 3) := by decide +kernel
theorem dX9_quiet_10 : decode cX9_quiet 10 = .ok (.iconst 0, 1) := by decide +kernel
theorem dX9_quiet_11 : decode cX9_quiet 11 = .ok (.istore_n 2, 1) := by decide +kernel
theorem dX9_quiet_12 : decode cX9_quiet 12 = .ok (.iload_n 2, 1) := by decide +kernel
theorem dX9_quiet_13 : decode cX9_quiet 13 = .ok (.sipush 500, 3) := by decide +kernel
theorem dX9_quiet_16 : decode cX9_quiet 16 = .ok (.if_icmp .gt 20, 3) := by decide +kernel
theorem dX9_quiet_19 : decode cX9_quiet 19 = .ok (.aload_n 0, 1) := by decide +kernel
theorem dX9_quiet_20 : decode cX9_quiet 20 = .ok (.iload_n 2, 1) := by decide +kernel
theorem dX9_quiet_21 : decode cX9_quiet 21 = .ok (.invokevirtual 228, 3) := by decide +kernel
theorem dX9_quiet_24 : decode cX9_quiet 24 = .ok (.iload_n 1, 1) := by decide +kernel
theorem dX9_quiet_25 : decode cX9_quiet 25 = .ok (.if_icmp .gt 5, 3) := by decide +kernel
theorem dX9_quiet_28 : decode cX9_quiet 28 = .ok (.iload_n 2, 1) := by decide +kernel
theorem dX9_quiet_29 : decode cX9_quiet 29 = .ok (.ireturn, 1) := by decide +kernel
theorem dX9_quiet_30 : decode cX9_quiet 30 = .ok (.iinc 2 1, 3) := by decide +kernel
theorem dX9_quiet_33 : decode cX9_quiet 33 = .ok (.goto (-21), 3) := by decide +kernel
theorem dX9_quiet_36 : decode cX9_quiet 36 = .ok (.iconst (-1), 1) := by decide +kernel
theorem dX9_quiet_37 : decode cX9_quiet 37 = .ok (.ireturn, 1) := by decide +kernel
theorem dX9_hasCrossing_0 : decode cX9_hasCrossing 0 = .ok (.aload_n 0, 1) := by decide +kernel
theorem dX9_hasCrossing_1 : decode cX9_hasCrossing 1 = .ok (.getfield 70, 3) := by decide +kernel
theorem dX9_hasCrossing_4 : decode cX9_hasCrossing 4 = .ok (.iload_n 1, 1) := by decide +kernel
theorem dX9_hasCrossing_5 : decode cX9_hasCrossing 5 = .ok (.iaload, 1) := by decide +kernel
theorem dX9_hasCrossing_6 : decode cX9_hasCrossing 6 = .ok (.istore_n 3, 1) := by decide +kernel
theorem dX9_hasCrossing_7 : decode cX9_hasCrossing 7 = .ok (.iconst 0, 1) := by decide +kernel
theorem dX9_hasCrossing_8 : decode cX9_hasCrossing 8 = .ok (.istore 4, 2) := by decide +kernel
theorem dX9_hasCrossing_10 : decode cX9_hasCrossing 10 = .ok (.aload_n 0, 1) := by decide +kernel
theorem dX9_hasCrossing_11 : decode cX9_hasCrossing 11 = .ok (.iconst 0, 1) := by decide +kernel
theorem dX9_hasCrossing_12 : decode cX9_hasCrossing 12 = .ok (.putfield 139, 3) := by decide +kernel
theorem dX9_hasCrossing_15 : decode cX9_hasCrossing 15 = .ok (.aload_n 0, 1) := by decide +kernel
theorem dX9_hasCrossing_16 : decode cX9_hasCrossing 16 = .ok (.getfield 31, 3) := by decide +kernel
theorem dX9_hasCrossing_19 : decode cX9_hasCrossing 19 = .ok (.iload_n 3, 1) := by decide +kernel
theorem dX9_hasCrossing_20 : decode cX9_hasCrossing 20 = .ok (.iaload, 1) := by decide +kernel
theorem dX9_hasCrossing_21 : decode cX9_hasCrossing 21 = .ok (.istore 5, 2) := by decide +kernel
theorem dX9_hasCrossing_23 : decode cX9_hasCrossing 23 = .ok (.iload 5, 2) := by decide +kernel
theorem dX9_hasCrossing_25 : decode cX9_hasCrossing 25 = .ok (.aload_n 0, 1) := by decide +kernel
theorem dX9_hasCrossing_26 : decode cX9_hasCrossing 26 = .ok (.getfield 88, 3) := by decide +kernel
theorem dX9_hasCrossing_29 : decode cX9_hasCrossing 29 = .ok (.if_icmp .ge 59, 3) := by decide +kernel
theorem dX9_hasCrossing_32 : decode cX9_hasCrossing 32 = .ok (.aload_n 0, 1) := by decide +kernel
theorem dX9_hasCrossing_33 : decode cX9_hasCrossing 33 = .ok (.getfield 28, 3) := by decide +kernel
theorem dX9_hasCrossing_36 : decode cX9_hasCrossing 36 = .ok (.iload 5, 2) := by decide +kernel
theorem dX9_hasCrossing_38 : decode cX9_hasCrossing 38 = .ok (.iaload, 1) := by decide +kernel
theorem dX9_hasCrossing_39 : decode cX9_hasCrossing 39 = .ok (.iload_n 3, 1) := by decide +kernel
theorem dX9_hasCrossing_40 : decode cX9_hasCrossing 40 = .ok (.if_icmp .ne 48, 3) := by decide +kernel
theorem dX9_hasCrossing_43 : decode cX9_hasCrossing 43 = .ok (.aload_n 0, 1) := by decide +kernel
theorem dX9_hasCrossing_44 : decode cX9_hasCrossing 44 = .ok (.iload 5, 2) := by decide +kernel
theorem dX9_hasCrossing_46 : decode cX9_hasCrossing 46 = .ok (.aload_n 0, 1) := by decide +kernel
theorem dX9_hasCrossing_47 : decode cX9_hasCrossing 47 = .ok (.getfield 40, 3) := by decide +kernel
theorem dX9_hasCrossing_50 : decode cX9_hasCrossing 50 = .ok (.iload_n 3, 1) := by decide +kernel
theorem dX9_hasCrossing_51 : decode cX9_hasCrossing 51 = .ok (.iaload, 1) := by decide +kernel
theorem dX9_hasCrossing_52 : decode cX9_hasCrossing 52 = .ok (.iload_n 2, 1) := by decide +kernel
theorem dX9_hasCrossing_53 : decode cX9_hasCrossing 53 = .ok (.invokevirtual 143, 3) := by decide +kernel
theorem dX9_hasCrossing_56 : decode cX9_hasCrossing 56 = .ok (.ifCond .eq 14, 3) := by decide +kernel
theorem dX9_hasCrossing_59 : decode cX9_hasCrossing 59 = .ok (.aload_n 0, 1) := by decide +kernel
theorem dX9_hasCrossing_60 : decode cX9_hasCrossing 60 = .ok (.getfield 52, 3) := by decide +kernel
theorem dX9_hasCrossing_63 : decode cX9_hasCrossing 63 = .ok (.iload 5, 2) := by decide +kernel
theorem dX9_hasCrossing_65 : decode cX9_hasCrossing 65 = .ok (.iaload, 1) := by decide +kernel
theorem dX9_hasCrossing_66 : decode cX9_hasCrossing 66 = .ok (.iload_n 1, 1) := by decide +kernel
theorem dX9_hasCrossing_67 : decode cX9_hasCrossing 67 = .ok (.if_icmp .eq 8, 3) := by decide +kernel
theorem dX9_hasCrossing_70 : decode cX9_hasCrossing 70 = .ok (.iload 4, 2) := by decide +kernel
theorem dX9_hasCrossing_72 : decode cX9_hasCrossing 72 = .ok (.ifCond .eq 7, 3) := by decide +kernel
theorem dX9_hasCrossing_75 : decode cX9_hasCrossing 75 = .ok (.iconst 1, 1) := by decide +kernel
theorem dX9_hasCrossing_76 : decode cX9_hasCrossing 76 = .ok (.goto 4, 3) := by decide +kernel
theorem dX9_hasCrossing_79 : decode cX9_hasCrossing 79 = .ok (.iconst 0, 1) := by decide +kernel
theorem dX9_hasCrossing_80 : decode cX9_hasCrossing 80 = .ok (.istore 4, 2) := by decide +kernel
theorem dX9_hasCrossing_82 : decode cX9_hasCrossing 82 = .ok (.iinc 5 1, 3) := by decide +kernel
theorem dX9_hasCrossing_85 : decode cX9_hasCrossing 85 = .ok (.goto (-62), 3) := by decide +kernel
theorem dX9_hasCrossing_88 : decode cX9_hasCrossing 88 = .ok (.iload 4, 2) := by decide +kernel
theorem dX9_hasCrossing_90 : decode cX9_hasCrossing 90 = .ok (.ireturn, 1) := by decide +kernel
theorem dX9_gone_0 : decode cX9_gone 0 = .ok (.aload_n 0, 1) := by decide +kernel
theorem dX9_gone_1 : decode cX9_gone 1 = .ok (.invokevirtual 183, 3) := by decide +kernel
theorem dX9_gone_4 : decode cX9_gone 4 = .ok (.aload_n 0, 1) := by decide +kernel
theorem dX9_gone_5 : decode cX9_gone 5 = .ok (.iload_n 1, 1) := by decide +kernel
theorem dX9_gone_6 : decode cX9_gone 6 = .ok (.invokevirtual 208, 3) := by decide +kernel
theorem dX9_gone_9 : decode cX9_gone 9 = .ok (.ifCond .ne 5, 3) := by decide +kernel
theorem dX9_gone_12 : decode cX9_gone 12 = .ok (.iconst (-1), 1) := by decide +kernel
theorem dX9_gone_13 : decode cX9_gone 13 = .ok (.ireturn, 1) := by decide +kernel
theorem dX9_gone_14 : decode cX9_gone 14 = .ok (.iconst 0, 1) := by decide +kernel
theorem dX9_gone_15 : decode cX9_gone 15 = .ok (.istore_n 2, 1) := by decide +kernel
theorem dX9_gone_16 : decode cX9_gone 16 = .ok (.iload_n 2, 1) := by decide +kernel
theorem dX9_gone_17 : decode cX9_gone 17 = .ok (.sipush 500, 3) := by decide +kernel
theorem dX9_gone_20 : decode cX9_gone 20 = .ok (.if_icmp .gt 20, 3) := by decide +kernel
theorem dX9_gone_23 : decode cX9_gone 23 = .ok (.aload_n 0, 1) := by decide +kernel
theorem dX9_gone_24 : decode cX9_gone 24 = .ok (.iload_n 1, 1) := by decide +kernel
theorem dX9_gone_25 : decode cX9_gone 25 = .ok (.iload_n 2, 1) := by decide +kernel
theorem dX9_gone_26 : decode cX9_gone 26 = .ok (.invokevirtual 231, 3) := by decide +kernel
theorem dX9_gone_29 : decode cX9_gone 29 = .ok (.ifCond .ne 5, 3) := by decide +kernel
theorem dX9_gone_32 : decode cX9_gone 32 = .ok (.iload_n 2, 1) := by decide +kernel
theorem dX9_gone_33 : decode cX9_gone 33 = .ok (.ireturn, 1) := by decide +kernel
theorem dX9_gone_34 : decode cX9_gone 34 = .ok (.iinc 2 1, 3) := by decide +kernel
theorem dX9_gone_37 : decode cX9_gone 37 = .ok (.goto (-21), 3) := by decide +kernel
theorem dX9_gone_40 : decode cX9_gone 40 = .ok (.iconst (-1), 1) := by decide +kernel
theorem dX9_gone_41 : decode cX9_gone 41 = .ok (.ireturn, 1) := by decide +kernel
theorem dJ9_floorDiv_7cf53_0 : decode cJ9_floorDiv_7cf53 0 = .ok (.iload_n 0, 1) := by decide +kernel
theorem dJ9_floorDiv_7cf53_1 : decode cJ9_floorDiv_7cf53 1 = .ok (.iload_n 1, 1) := by decide +kernel
theorem dJ9_floorDiv_7cf53_2 : decode cJ9_floorDiv_7cf53 2 = .ok (.idiv, 1) := by decide +kernel
theorem dJ9_floorDiv_7cf53_3 : decode cJ9_floorDiv_7cf53 3 = .ok (.istore_n 2, 1) := by decide +kernel
theorem dJ9_floorDiv_7cf53_4 : decode cJ9_floorDiv_7cf53 4 = .ok (.iload_n 0, 1) := by decide +kernel
theorem dJ9_floorDiv_7cf53_5 : decode cJ9_floorDiv_7cf53 5 = .ok (.iload_n 1, 1) := by decide +kernel
theorem dJ9_floorDiv_7cf53_6 : decode cJ9_floorDiv_7cf53 6 = .ok (.ixor, 1) := by decide +kernel
theorem dJ9_floorDiv_7cf53_7 : decode cJ9_floorDiv_7cf53 7 = .ok (.ifCond .ge 14, 3) := by decide +kernel
theorem dJ9_floorDiv_7cf53_10 : decode cJ9_floorDiv_7cf53 10 = .ok (.iload_n 2, 1) := by decide +kernel
theorem dJ9_floorDiv_7cf53_11 : decode cJ9_floorDiv_7cf53 11 = .ok (.iload_n 1, 1) := by decide +kernel
theorem dJ9_floorDiv_7cf53_12 : decode cJ9_floorDiv_7cf53 12 = .ok (.imul, 1) := by decide +kernel
theorem dJ9_floorDiv_7cf53_13 : decode cJ9_floorDiv_7cf53 13 = .ok (.iload_n 0, 1) := by decide +kernel
theorem dJ9_floorDiv_7cf53_14 : decode cJ9_floorDiv_7cf53 14 = .ok (.if_icmp .eq 7, 3) := by decide +kernel
theorem dJ9_floorDiv_7cf53_17 : decode cJ9_floorDiv_7cf53 17 = .ok (.iload_n 2, 1) := by decide +kernel
theorem dJ9_floorDiv_7cf53_18 : decode cJ9_floorDiv_7cf53 18 = .ok (.iconst 1, 1) := by decide +kernel
theorem dJ9_floorDiv_7cf53_19 : decode cJ9_floorDiv_7cf53 19 = .ok (.isub, 1) := by decide +kernel
theorem dJ9_floorDiv_7cf53_20 : decode cJ9_floorDiv_7cf53 20 = .ok (.ireturn, 1) := by decide +kernel
theorem dJ9_floorDiv_7cf53_21 : decode cJ9_floorDiv_7cf53 21 = .ok (.iload_n 2, 1) := by decide +kernel
theorem dJ9_floorDiv_7cf53_22 : decode cJ9_floorDiv_7cf53 22 = .ok (.ireturn, 1) := by decide +kernel
theorem dJ9_floorDiv_f86c9_0 : decode cJ9_floorDiv_f86c9 0 = .ok (.lload_n 0, 1) := by decide +kernel
theorem dJ9_floorDiv_f86c9_1 : decode cJ9_floorDiv_f86c9 1 = .ok (.lload_n 2, 1) := by decide +kernel
theorem dJ9_floorDiv_f86c9_2 : decode cJ9_floorDiv_f86c9 2 = .ok (.ldiv, 1) := by decide +kernel
theorem dJ9_floorDiv_f86c9_3 : decode cJ9_floorDiv_f86c9 3 = .ok (.lstore 4, 2) := by decide +kernel
theorem dJ9_floorDiv_f86c9_5 : decode cJ9_floorDiv_f86c9 5 = .ok (.lload_n 0, 1) := by decide +kernel
theorem dJ9_floorDiv_f86c9_6 : decode cJ9_floorDiv_f86c9 6 = .ok (.lload_n 2, 1) := by decide +kernel
theorem dJ9_floorDiv_f86c9_7 : decode cJ9_floorDiv_f86c9 7 = .ok (.lxor, 1) := by decide +kernel
theorem dJ9_floorDiv_f86c9_8 : decode cJ9_floorDiv_f86c9 8 = .ok (.lconst 0, 1) := by decide +kernel
theorem dJ9_floorDiv_f86c9_9 : decode cJ9_floorDiv_f86c9 9 = .ok (.lcmp, 1) := by decide +kernel
theorem dJ9_floorDiv_f86c9_10 : decode cJ9_floorDiv_f86c9 10 = .ok (.ifCond .ge 17, 3) := by decide +kernel
theorem dJ9_floorDiv_f86c9_13 : decode cJ9_floorDiv_f86c9 13 = .ok (.lload 4, 2) := by decide +kernel
theorem dJ9_floorDiv_f86c9_15 : decode cJ9_floorDiv_f86c9 15 = .ok (.lload_n 2, 1) := by decide +kernel
theorem dJ9_floorDiv_f86c9_16 : decode cJ9_floorDiv_f86c9 16 = .ok (.lmul, 1) := by decide +kernel
theorem dJ9_floorDiv_f86c9_17 : decode cJ9_floorDiv_f86c9 17 = .ok (.lload_n 0, 1) := by decide +kernel
theorem dJ9_floorDiv_f86c9_18 : decode cJ9_floorDiv_f86c9 18 = .ok (.lcmp, 1) := by decide +kernel
theorem dJ9_floorDiv_f86c9_19 : decode cJ9_floorDiv_f86c9 19 = .ok (.ifCond .eq 8, 3) := by decide +kernel
theorem dJ9_floorDiv_f86c9_22 : decode cJ9_floorDiv_f86c9 22 = .ok (.lload 4, 2) := by decide +kernel
theorem dJ9_floorDiv_f86c9_24 : decode cJ9_floorDiv_f86c9 24 = .ok (.lconst 1, 1) := by decide +kernel
theorem dJ9_floorDiv_f86c9_25 : decode cJ9_floorDiv_f86c9 25 = .ok (.lsub, 1) := by decide +kernel
theorem dJ9_floorDiv_f86c9_26 : decode cJ9_floorDiv_f86c9 26 = .ok (.lreturn, 1) := by decide +kernel
theorem dJ9_floorDiv_f86c9_27 : decode cJ9_floorDiv_f86c9 27 = .ok (.lload 4, 2) := by decide +kernel
theorem dJ9_floorDiv_f86c9_29 : decode cJ9_floorDiv_f86c9 29 = .ok (.lreturn, 1) := by decide +kernel
theorem dJ9_floorMod_f86c9_0 : decode cJ9_floorMod_f86c9 0 = .ok (.lload_n 0, 1) := by decide +kernel
theorem dJ9_floorMod_f86c9_1 : decode cJ9_floorMod_f86c9 1 = .ok (.lload_n 2, 1) := by decide +kernel
theorem dJ9_floorMod_f86c9_2 : decode cJ9_floorMod_f86c9 2 = .ok (.lrem, 1) := by decide +kernel
theorem dJ9_floorMod_f86c9_3 : decode cJ9_floorMod_f86c9 3 = .ok (.lstore 4, 2) := by decide +kernel
theorem dJ9_floorMod_f86c9_5 : decode cJ9_floorMod_f86c9 5 = .ok (.lload_n 0, 1) := by decide +kernel
theorem dJ9_floorMod_f86c9_6 : decode cJ9_floorMod_f86c9 6 = .ok (.lload_n 2, 1) := by decide +kernel
theorem dJ9_floorMod_f86c9_7 : decode cJ9_floorMod_f86c9 7 = .ok (.lxor, 1) := by decide +kernel
theorem dJ9_floorMod_f86c9_8 : decode cJ9_floorMod_f86c9 8 = .ok (.lconst 0, 1) := by decide +kernel
theorem dJ9_floorMod_f86c9_9 : decode cJ9_floorMod_f86c9 9 = .ok (.lcmp, 1) := by decide +kernel
theorem dJ9_floorMod_f86c9_10 : decode cJ9_floorMod_f86c9 10 = .ok (.ifCond .ge 15, 3) := by decide +kernel
theorem dJ9_floorMod_f86c9_13 : decode cJ9_floorMod_f86c9 13 = .ok (.lload 4, 2) := by decide +kernel
theorem dJ9_floorMod_f86c9_15 : decode cJ9_floorMod_f86c9 15 = .ok (.lconst 0, 1) := by decide +kernel
theorem dJ9_floorMod_f86c9_16 : decode cJ9_floorMod_f86c9 16 = .ok (.lcmp, 1) := by decide +kernel
theorem dJ9_floorMod_f86c9_17 : decode cJ9_floorMod_f86c9 17 = .ok (.ifCond .eq 8, 3) := by decide +kernel
theorem dJ9_floorMod_f86c9_20 : decode cJ9_floorMod_f86c9 20 = .ok (.lload 4, 2) := by decide +kernel
theorem dJ9_floorMod_f86c9_22 : decode cJ9_floorMod_f86c9 22 = .ok (.lload_n 2, 1) := by decide +kernel
theorem dJ9_floorMod_f86c9_23 : decode cJ9_floorMod_f86c9 23 = .ok (.ladd, 1) := by decide +kernel
theorem dJ9_floorMod_f86c9_24 : decode cJ9_floorMod_f86c9 24 = .ok (.lreturn, 1) := by decide +kernel
theorem dJ9_floorMod_f86c9_25 : decode cJ9_floorMod_f86c9 25 = .ok (.lload 4, 2) := by decide +kernel
theorem dJ9_floorMod_f86c9_27 : decode cJ9_floorMod_f86c9 27 = .ok (.lreturn, 1) := by decide +kernel
theorem dJ9_max_7cf53_0 : decode cJ9_max_7cf53 0 = .ok (.iload_n 0, 1) := by decide +kernel
theorem dJ9_max_7cf53_1 : decode cJ9_max_7cf53 1 = .ok (.iload_n 1, 1) := by decide +kernel
theorem dJ9_max_7cf53_2 : decode cJ9_max_7cf53 2 = .ok (.if_icmp .lt 7, 3) := by decide +kernel
theorem dJ9_max_7cf53_5 : decode cJ9_max_7cf53 5 = .ok (.iload_n 0, 1) := by decide +kernel
theorem dJ9_max_7cf53_6 : decode cJ9_max_7cf53 6 = .ok (.goto 4, 3) := by decide +kernel
theorem dJ9_max_7cf53_9 : decode cJ9_max_7cf53 9 = .ok (.iload_n 1, 1) := by decide +kernel
theorem dJ9_max_7cf53_10 : decode cJ9_max_7cf53 10 = .ok (.ireturn, 1) := by decide +kernel
theorem dJ9_min_7cf53_0 : decode cJ9_min_7cf53 0 = .ok (.iload_n 0, 1) := by decide +kernel
theorem dJ9_min_7cf53_1 : decode cJ9_min_7cf53 1 = .ok (.iload_n 1, 1) := by decide +kernel
theorem dJ9_min_7cf53_2 : decode cJ9_min_7cf53 2 = .ok (.if_icmp .gt 7, 3) := by decide +kernel
theorem dJ9_min_7cf53_5 : decode cJ9_min_7cf53 5 = .ok (.iload_n 0, 1) := by decide +kernel
theorem dJ9_min_7cf53_6 : decode cJ9_min_7cf53 6 = .ok (.goto 4, 3) := by decide +kernel
theorem dJ9_min_7cf53_9 : decode cJ9_min_7cf53 9 = .ok (.iload_n 1, 1) := by decide +kernel
theorem dJ9_min_7cf53_10 : decode cJ9_min_7cf53 10 = .ok (.ireturn, 1) := by decide +kernel
theorem dL_law_0 : decode cL_law 0 = .ok (.new 7, 3) := by decide +kernel
theorem dL_law_3 : decode cL_law 3 = .ok (.dup, 1) := by decide +kernel
theorem dL_law_4 : decode cL_law 4 = .ok (.invokespecial 9, 3) := by decide +kernel
theorem dL_law_7 : decode cL_law 7 = .ok (.astore_n 1, 1) := by decide +kernel
theorem dL_law_8 : decode cL_law 8 = .ok (.new 10, 3) := by decide +kernel
theorem dL_law_11 : decode cL_law 11 = .ok (.dup, 1) := by decide +kernel
theorem dL_law_12 : decode cL_law 12 = .ok (.invokespecial 12, 3) := by decide +kernel
theorem dL_law_15 : decode cL_law 15 = .ok (.astore_n 2, 1) := by decide +kernel
theorem dL_law_16 : decode cL_law 16 = .ok (.iconst 0, 1) := by decide +kernel
theorem dL_law_17 : decode cL_law 17 = .ok (.istore_n 3, 1) := by decide +kernel
theorem dL_law_18 : decode cL_law 18 = .ok (.iload_n 3, 1) := by decide +kernel
theorem dL_law_19 : decode cL_law 19 = .ok (.aload_n 0, 1) := by decide +kernel
theorem dL_law_20 : decode cL_law 20 = .ok (.arraylength, 1) := by decide +kernel
theorem dL_law_21 : decode cL_law 21 = .ok (.iconst 3, 1) := by decide +kernel
theorem dL_law_22 : decode cL_law 22 = .ok (.isub, 1) := by decide +kernel
theorem dL_law_23 : decode cL_law 23 = .ok (.if_icmp .gt 810, 3) := by decide +kernel
theorem dL_law_26 : decode cL_law 26 = .ok (.aload_n 0, 1) := by decide +kernel
theorem dL_law_27 : decode cL_law 27 = .ok (.iload_n 3, 1) := by decide +kernel
theorem dL_law_28 : decode cL_law 28 = .ok (.iaload, 1) := by decide +kernel
theorem dL_law_29 : decode cL_law 29 = .ok (.bipush 31, 2) := by decide +kernel
theorem dL_law_31 : decode cL_law 31 = .ok (.iand, 1) := by decide +kernel
theorem dL_law_32 : decode cL_law 32 = .ok (.tableswitch 795 0 23 #[112, 135, 188, 211, 244, 277, 310, 343, 356, 379, 412, 445, 478, 511, 534, 567, 590, 623, 647, 680, 703, 726, 749, 772], 112) := by decide +kernel
theorem dL_law_144 : decode cL_law 144 = .ok (.aload_n 1, 1) := by decide +kernel
theorem dL_law_145 : decode cL_law 145 = .ok (.aload_n 0, 1) := by decide +kernel
theorem dL_law_146 : decode cL_law 146 = .ok (.iload_n 3, 1) := by decide +kernel
theorem dL_law_147 : decode cL_law 147 = .ok (.iconst 1, 1) := by decide +kernel
theorem dL_law_148 : decode cL_law 148 = .ok (.iadd, 1) := by decide +kernel
theorem dL_law_149 : decode cL_law 149 = .ok (.iaload, 1) := by decide +kernel
theorem dL_law_150 : decode cL_law 150 = .ok (.invokevirtual 13, 3) := by decide +kernel
theorem dL_law_153 : decode cL_law 153 = .ok (.aload_n 2, 1) := by decide +kernel
theorem dL_law_154 : decode cL_law 154 = .ok (.aload_n 0, 1) := by decide +kernel
theorem dL_law_155 : decode cL_law 155 = .ok (.iload_n 3, 1) := by decide +kernel
theorem dL_law_156 : decode cL_law 156 = .ok (.iconst 1, 1) := by decide +kernel
theorem dL_law_157 : decode cL_law 157 = .ok (.iadd, 1) := by decide +kernel
theorem dL_law_158 : decode cL_law 158 = .ok (.iaload, 1) := by decide +kernel
theorem dL_law_159 : decode cL_law 159 = .ok (.invokevirtual 17, 3) := by decide +kernel
theorem dL_law_162 : decode cL_law 162 = .ok (.if_icmp .eq 665, 3) := by decide +kernel
theorem dL_law_165 : decode cL_law 165 = .ok (.iconst 0, 1) := by decide +kernel
theorem dL_law_166 : decode cL_law 166 = .ok (.ireturn, 1) := by decide +kernel
theorem dL_law_167 : decode cL_law 167 = .ok (.aload_n 1, 1) := by decide +kernel
theorem dL_law_168 : decode cL_law 168 = .ok (.aload_n 0, 1) := by decide +kernel
theorem dL_law_169 : decode cL_law 169 = .ok (.iload_n 3, 1) := by decide +kernel
theorem dL_law_170 : decode cL_law 170 = .ok (.iconst 1, 1) := by decide +kernel
theorem dL_law_171 : decode cL_law 171 = .ok (.iadd, 1) := by decide +kernel
theorem dL_law_172 : decode cL_law 172 = .ok (.iaload, 1) := by decide +kernel
theorem dL_law_173 : decode cL_law 173 = .ok (.i2l, 1) := by decide +kernel
theorem dL_law_174 : decode cL_law 174 = .ok (.bipush 32, 2) := by decide +kernel
theorem dL_law_176 : decode cL_law 176 = .ok (.lshl, 1) := by decide +kernel
theorem dL_law_177 : decode cL_law 177 = .ok (.aload_n 0, 1) := by decide +kernel
theorem dL_law_178 : decode cL_law 178 = .ok (.iload_n 3, 1) := by decide +kernel
theorem dL_law_179 : decode cL_law 179 = .ok (.iconst 2, 1) := by decide +kernel
theorem dL_law_180 : decode cL_law 180 = .ok (.iadd, 1) := by decide +kernel
theorem dL_law_181 : decode cL_law 181 = .ok (.iaload, 1) := by decide +kernel
theorem dL_law_182 : decode cL_law 182 = .ok (.i2l, 1) := by decide +kernel
theorem dL_law_183 : decode cL_law 183 = .ok (.ldc2_w 18, 3) := by decide +kernel
theorem dL_law_186 : decode cL_law 186 = .ok (.land, 1) := by decide +kernel
theorem dL_law_187 : decode cL_law 187 = .ok (.lor, 1) := by decide +kernel
theorem dL_law_188 : decode cL_law 188 = .ok (.invokevirtual 20, 3) := by decide +kernel
theorem dL_law_191 : decode cL_law 191 = .ok (.aload_n 2, 1) := by decide +kernel
theorem dL_law_192 : decode cL_law 192 = .ok (.aload_n 0, 1) := by decide +kernel
theorem dL_law_193 : decode cL_law 193 = .ok (.iload_n 3, 1) := by decide +kernel
theorem dL_law_194 : decode cL_law 194 = .ok (.iconst 1, 1) := by decide +kernel
theorem dL_law_195 : decode cL_law 195 = .ok (.iadd, 1) := by decide +kernel
theorem dL_law_196 : decode cL_law 196 = .ok (.iaload, 1) := by decide +kernel
theorem dL_law_197 : decode cL_law 197 = .ok (.i2l, 1) := by decide +kernel
theorem dL_law_198 : decode cL_law 198 = .ok (.bipush 32, 2) := by decide +kernel
theorem dL_law_200 : decode cL_law 200 = .ok (.lshl, 1) := by decide +kernel
theorem dL_law_201 : decode cL_law 201 = .ok (.aload_n 0, 1) := by decide +kernel
theorem dL_law_202 : decode cL_law 202 = .ok (.iload_n 3, 1) := by decide +kernel
theorem dL_law_203 : decode cL_law 203 = .ok (.iconst 2, 1) := by decide +kernel
theorem dL_law_204 : decode cL_law 204 = .ok (.iadd, 1) := by decide +kernel
theorem dL_law_205 : decode cL_law 205 = .ok (.iaload, 1) := by decide +kernel
theorem dL_law_206 : decode cL_law 206 = .ok (.i2l, 1) := by decide +kernel
theorem dL_law_207 : decode cL_law 207 = .ok (.ldc2_w 18, 3) := by decide +kernel
theorem dL_law_210 : decode cL_law 210 = .ok (.land, 1) := by decide +kernel
theorem dL_law_211 : decode cL_law 211 = .ok (.lor, 1) := by decide +kernel
theorem dL_law_212 : decode cL_law 212 = .ok (.invokevirtual 24, 3) := by decide +kernel
theorem dL_law_215 : decode cL_law 215 = .ok (.if_icmp .eq 612, 3) := by decide +kernel
theorem dL_law_218 : decode cL_law 218 = .ok (.iconst 0, 1) := by decide +kernel
theorem dL_law_219 : decode cL_law 219 = .ok (.ireturn, 1) := by decide +kernel
theorem dL_law_220 : decode cL_law 220 = .ok (.aload_n 1, 1) := by decide +kernel
theorem dL_law_221 : decode cL_law 221 = .ok (.aload_n 0, 1) := by decide +kernel
theorem dL_law_222 : decode cL_law 222 = .ok (.iload_n 3, 1) := by decide +kernel
theorem dL_law_223 : decode cL_law 223 = .ok (.iconst 1, 1) := by decide +kernel
theorem dL_law_224 : decode cL_law 224 = .ok (.iadd, 1) := by decide +kernel
theorem dL_law_225 : decode cL_law 225 = .ok (.iaload, 1) := by decide +kernel
theorem dL_law_226 : decode cL_law 226 = .ok (.invokevirtual 25, 3) := by decide +kernel
theorem dL_law_229 : decode cL_law 229 = .ok (.aload_n 2, 1) := by decide +kernel
theorem dL_law_230 : decode cL_law 230 = .ok (.aload_n 0, 1) := by decide +kernel
theorem dL_law_231 : decode cL_law 231 = .ok (.iload_n 3, 1) := by decide +kernel
theorem dL_law_232 : decode cL_law 232 = .ok (.iconst 1, 1) := by decide +kernel
theorem dL_law_233 : decode cL_law 233 = .ok (.iadd, 1) := by decide +kernel
theorem dL_law_234 : decode cL_law 234 = .ok (.iaload, 1) := by decide +kernel
theorem dL_law_235 : decode cL_law 235 = .ok (.invokevirtual 28, 3) := by decide +kernel
theorem dL_law_238 : decode cL_law 238 = .ok (.if_icmp .eq 589, 3) := by decide +kernel
theorem dL_law_241 : decode cL_law 241 = .ok (.iconst 0, 1) := by decide +kernel
theorem dL_law_242 : decode cL_law 242 = .ok (.ireturn, 1) := by decide +kernel
theorem dL_law_243 : decode cL_law 243 = .ok (.aload_n 1, 1) := by decide +kernel
theorem dL_law_244 : decode cL_law 244 = .ok (.aload_n 0, 1) := by decide +kernel
theorem dL_law_245 : decode cL_law 245 = .ok (.iload_n 3, 1) := by decide +kernel
theorem dL_law_246 : decode cL_law 246 = .ok (.iconst 1, 1) := by decide +kernel
theorem dL_law_247 : decode cL_law 247 = .ok (.iadd, 1) := by decide +kernel
theorem dL_law_248 : decode cL_law 248 = .ok (.iaload, 1) := by decide +kernel
theorem dL_law_249 : decode cL_law 249 = .ok (.aload_n 0, 1) := by decide +kernel
theorem dL_law_250 : decode cL_law 250 = .ok (.iload_n 3, 1) := by decide +kernel
theorem dL_law_251 : decode cL_law 251 = .ok (.iconst 2, 1) := by decide +kernel
theorem dL_law_252 : decode cL_law 252 = .ok (.iadd, 1) := by decide +kernel
theorem dL_law_253 : decode cL_law 253 = .ok (.iaload, 1) := by decide +kernel
theorem dL_law_254 : decode cL_law 254 = .ok (.invokevirtual 29, 3) := by decide +kernel
theorem dL_law_257 : decode cL_law 257 = .ok (.aload_n 2, 1) := by decide +kernel
theorem dL_law_258 : decode cL_law 258 = .ok (.aload_n 0, 1) := by decide +kernel
theorem dL_law_259 : decode cL_law 259 = .ok (.iload_n 3, 1) := by decide +kernel
theorem dL_law_260 : decode cL_law 260 = .ok (.iconst 1, 1) := by decide +kernel
theorem dL_law_261 : decode cL_law 261 = .ok (.iadd, 1) := by decide +kernel
theorem dL_law_262 : decode cL_law 262 = .ok (.iaload, 1) := by decide +kernel
theorem dL_law_263 : decode cL_law 263 = .ok (.aload_n 0, 1) := by decide +kernel
theorem dL_law_264 : decode cL_law 264 = .ok (.iload_n 3, 1) := by decide +kernel
theorem dL_law_265 : decode cL_law 265 = .ok (.iconst 2, 1) := by decide +kernel
theorem dL_law_266 : decode cL_law 266 = .ok (.iadd, 1) := by decide +kernel
theorem dL_law_267 : decode cL_law 267 = .ok (.iaload, 1) := by decide +kernel
theorem dL_law_268 : decode cL_law 268 = .ok (.invokevirtual 33, 3) := by decide +kernel
theorem dL_law_271 : decode cL_law 271 = .ok (.if_icmp .eq 556, 3) := by decide +kernel
theorem dL_law_274 : decode cL_law 274 = .ok (.iconst 0, 1) := by decide +kernel
theorem dL_law_275 : decode cL_law 275 = .ok (.ireturn, 1) := by decide +kernel
theorem dL_law_276 : decode cL_law 276 = .ok (.aload_n 1, 1) := by decide +kernel
theorem dL_law_277 : decode cL_law 277 = .ok (.aload_n 0, 1) := by decide +kernel
theorem dL_law_278 : decode cL_law 278 = .ok (.iload_n 3, 1) := by decide +kernel
theorem dL_law_279 : decode cL_law 279 = .ok (.iconst 1, 1) := by decide +kernel
theorem dL_law_280 : decode cL_law 280 = .ok (.iadd, 1) := by decide +kernel
theorem dL_law_281 : decode cL_law 281 = .ok (.iaload, 1) := by decide +kernel
theorem dL_law_282 : decode cL_law 282 = .ok (.aload_n 0, 1) := by decide +kernel
theorem dL_law_283 : decode cL_law 283 = .ok (.iload_n 3, 1) := by decide +kernel
theorem dL_law_284 : decode cL_law 284 = .ok (.iconst 2, 1) := by decide +kernel
theorem dL_law_285 : decode cL_law 285 = .ok (.iadd, 1) := by decide +kernel
theorem dL_law_286 : decode cL_law 286 = .ok (.iaload, 1) := by decide +kernel
theorem dL_law_287 : decode cL_law 287 = .ok (.invokevirtual 34, 3) := by decide +kernel
theorem dL_law_290 : decode cL_law 290 = .ok (.aload_n 2, 1) := by decide +kernel
theorem dL_law_291 : decode cL_law 291 = .ok (.aload_n 0, 1) := by decide +kernel
theorem dL_law_292 : decode cL_law 292 = .ok (.iload_n 3, 1) := by decide +kernel
theorem dL_law_293 : decode cL_law 293 = .ok (.iconst 1, 1) := by decide +kernel
theorem dL_law_294 : decode cL_law 294 = .ok (.iadd, 1) := by decide +kernel
theorem dL_law_295 : decode cL_law 295 = .ok (.iaload, 1) := by decide +kernel
theorem dL_law_296 : decode cL_law 296 = .ok (.aload_n 0, 1) := by decide +kernel
theorem dL_law_297 : decode cL_law 297 = .ok (.iload_n 3, 1) := by decide +kernel
theorem dL_law_298 : decode cL_law 298 = .ok (.iconst 2, 1) := by decide +kernel
theorem dL_law_299 : decode cL_law 299 = .ok (.iadd, 1) := by decide +kernel
theorem dL_law_300 : decode cL_law 300 = .ok (.iaload, 1) := by decide +kernel
theorem dL_law_301 : decode cL_law 301 = .ok (.invokevirtual 37, 3) := by decide +kernel
theorem dL_law_304 : decode cL_law 304 = .ok (.if_icmp .eq 523, 3) := by decide +kernel
theorem dL_law_307 : decode cL_law 307 = .ok (.iconst 0, 1) := by decide +kernel
theorem dL_law_308 : decode cL_law 308 = .ok (.ireturn, 1) := by decide +kernel
theorem dL_law_309 : decode cL_law 309 = .ok (.aload_n 1, 1) := by decide +kernel
theorem dL_law_310 : decode cL_law 310 = .ok (.aload_n 0, 1) := by decide +kernel
theorem dL_law_311 : decode cL_law 311 = .ok (.iload_n 3, 1) := by decide +kernel
theorem dL_law_312 : decode cL_law 312 = .ok (.iconst 1, 1) := by decide +kernel
theorem dL_law_313 : decode cL_law 313 = .ok (.iadd, 1) := by decide +kernel
theorem dL_law_314 : decode cL_law 314 = .ok (.iaload, 1) := by decide +kernel
theorem dL_law_315 : decode cL_law 315 = .ok (.aload_n 0, 1) := by decide +kernel
theorem dL_law_316 : decode cL_law 316 = .ok (.iload_n 3, 1) := by decide +kernel
theorem dL_law_317 : decode cL_law 317 = .ok (.iconst 2, 1) := by decide +kernel
theorem dL_law_318 : decode cL_law 318 = .ok (.iadd, 1) := by decide +kernel
theorem dL_law_319 : decode cL_law 319 = .ok (.iaload, 1) := by decide +kernel
theorem dL_law_320 : decode cL_law 320 = .ok (.invokevirtual 38, 3) := by decide +kernel
theorem dL_law_323 : decode cL_law 323 = .ok (.aload_n 2, 1) := by decide +kernel
theorem dL_law_324 : decode cL_law 324 = .ok (.aload_n 0, 1) := by decide +kernel
theorem dL_law_325 : decode cL_law 325 = .ok (.iload_n 3, 1) := by decide +kernel
theorem dL_law_326 : decode cL_law 326 = .ok (.iconst 1, 1) := by decide +kernel
theorem dL_law_327 : decode cL_law 327 = .ok (.iadd, 1) := by decide +kernel
theorem dL_law_328 : decode cL_law 328 = .ok (.iaload, 1) := by decide +kernel
theorem dL_law_329 : decode cL_law 329 = .ok (.aload_n 0, 1) := by decide +kernel
theorem dL_law_330 : decode cL_law 330 = .ok (.iload_n 3, 1) := by decide +kernel
theorem dL_law_331 : decode cL_law 331 = .ok (.iconst 2, 1) := by decide +kernel
theorem dL_law_332 : decode cL_law 332 = .ok (.iadd, 1) := by decide +kernel
theorem dL_law_333 : decode cL_law 333 = .ok (.iaload, 1) := by decide +kernel
theorem dL_law_334 : decode cL_law 334 = .ok (.invokevirtual 41, 3) := by decide +kernel
theorem dL_law_337 : decode cL_law 337 = .ok (.if_icmp .eq 490, 3) := by decide +kernel
theorem dL_law_340 : decode cL_law 340 = .ok (.iconst 0, 1) := by decide +kernel
theorem dL_law_341 : decode cL_law 341 = .ok (.ireturn, 1) := by decide +kernel
theorem dL_law_342 : decode cL_law 342 = .ok (.aload_n 1, 1) := by decide +kernel
theorem dL_law_343 : decode cL_law 343 = .ok (.aload_n 0, 1) := by decide +kernel
theorem dL_law_344 : decode cL_law 344 = .ok (.iload_n 3, 1) := by decide +kernel
theorem dL_law_345 : decode cL_law 345 = .ok (.iconst 1, 1) := by decide +kernel
theorem dL_law_346 : decode cL_law 346 = .ok (.iadd, 1) := by decide +kernel
theorem dL_law_347 : decode cL_law 347 = .ok (.iaload, 1) := by decide +kernel
theorem dL_law_348 : decode cL_law 348 = .ok (.aload_n 0, 1) := by decide +kernel
theorem dL_law_349 : decode cL_law 349 = .ok (.iload_n 3, 1) := by decide +kernel
theorem dL_law_350 : decode cL_law 350 = .ok (.iconst 2, 1) := by decide +kernel
theorem dL_law_351 : decode cL_law 351 = .ok (.iadd, 1) := by decide +kernel
theorem dL_law_352 : decode cL_law 352 = .ok (.iaload, 1) := by decide +kernel
theorem dL_law_353 : decode cL_law 353 = .ok (.invokevirtual 42, 3) := by decide +kernel
theorem dL_law_356 : decode cL_law 356 = .ok (.aload_n 2, 1) := by decide +kernel
theorem dL_law_357 : decode cL_law 357 = .ok (.aload_n 0, 1) := by decide +kernel
theorem dL_law_358 : decode cL_law 358 = .ok (.iload_n 3, 1) := by decide +kernel
theorem dL_law_359 : decode cL_law 359 = .ok (.iconst 1, 1) := by decide +kernel
theorem dL_law_360 : decode cL_law 360 = .ok (.iadd, 1) := by decide +kernel
theorem dL_law_361 : decode cL_law 361 = .ok (.iaload, 1) := by decide +kernel
theorem dL_law_362 : decode cL_law 362 = .ok (.aload_n 0, 1) := by decide +kernel
theorem dL_law_363 : decode cL_law 363 = .ok (.iload_n 3, 1) := by decide +kernel
theorem dL_law_364 : decode cL_law 364 = .ok (.iconst 2, 1) := by decide +kernel
theorem dL_law_365 : decode cL_law 365 = .ok (.iadd, 1) := by decide +kernel
theorem dL_law_366 : decode cL_law 366 = .ok (.iaload, 1) := by decide +kernel
theorem dL_law_367 : decode cL_law 367 = .ok (.invokevirtual 46, 3) := by decide +kernel
theorem dL_law_370 : decode cL_law 370 = .ok (.if_icmp .eq 457, 3) := by decide +kernel
theorem dL_law_373 : decode cL_law 373 = .ok (.iconst 0, 1) := by decide +kernel
theorem dL_law_374 : decode cL_law 374 = .ok (.ireturn, 1) := by decide +kernel
theorem dL_law_375 : decode cL_law 375 = .ok (.aload_n 1, 1) := by decide +kernel
theorem dL_law_376 : decode cL_law 376 = .ok (.invokevirtual 47, 3) := by decide +kernel
theorem dL_law_379 : decode cL_law 379 = .ok (.aload_n 2, 1) := by decide +kernel
theorem dL_law_380 : decode cL_law 380 = .ok (.invokevirtual 51, 3) := by decide +kernel
theorem dL_law_383 : decode cL_law 383 = .ok (.if_icmp .eq 444, 3) := by decide +kernel
theorem dL_law_386 : decode cL_law 386 = .ok (.iconst 0, 1) := by decide +kernel
theorem dL_law_387 : decode cL_law 387 = .ok (.ireturn, 1) := by decide +kernel
theorem dL_law_388 : decode cL_law 388 = .ok (.aload_n 1, 1) := by decide +kernel
theorem dL_law_389 : decode cL_law 389 = .ok (.aload_n 0, 1) := by decide +kernel
theorem dL_law_390 : decode cL_law 390 = .ok (.iload_n 3, 1) := by decide +kernel
theorem dL_law_391 : decode cL_law 391 = .ok (.iconst 1, 1) := by decide +kernel
theorem dL_law_392 : decode cL_law 392 = .ok (.iadd, 1) := by decide +kernel
theorem dL_law_393 : decode cL_law 393 = .ok (.iaload, 1) := by decide +kernel
theorem dL_law_394 : decode cL_law 394 = .ok (.invokevirtual 52, 3) := by decide +kernel
theorem dL_law_397 : decode cL_law 397 = .ok (.aload_n 2, 1) := by decide +kernel
theorem dL_law_398 : decode cL_law 398 = .ok (.aload_n 0, 1) := by decide +kernel
theorem dL_law_399 : decode cL_law 399 = .ok (.iload_n 3, 1) := by decide +kernel
theorem dL_law_400 : decode cL_law 400 = .ok (.iconst 1, 1) := by decide +kernel
theorem dL_law_401 : decode cL_law 401 = .ok (.iadd, 1) := by decide +kernel
theorem dL_law_402 : decode cL_law 402 = .ok (.iaload, 1) := by decide +kernel
theorem dL_law_403 : decode cL_law 403 = .ok (.invokevirtual 55, 3) := by decide +kernel
theorem dL_law_406 : decode cL_law 406 = .ok (.if_icmp .eq 421, 3) := by decide +kernel
theorem dL_law_409 : decode cL_law 409 = .ok (.iconst 0, 1) := by decide +kernel
theorem dL_law_410 : decode cL_law 410 = .ok (.ireturn, 1) := by decide +kernel
theorem dL_law_411 : decode cL_law 411 = .ok (.aload_n 1, 1) := by decide +kernel
theorem dL_law_412 : decode cL_law 412 = .ok (.aload_n 0, 1) := by decide +kernel
theorem dL_law_413 : decode cL_law 413 = .ok (.iload_n 3, 1) := by decide +kernel
theorem dL_law_414 : decode cL_law 414 = .ok (.iconst 1, 1) := by decide +kernel
theorem dL_law_415 : decode cL_law 415 = .ok (.iadd, 1) := by decide +kernel
theorem dL_law_416 : decode cL_law 416 = .ok (.iaload, 1) := by decide +kernel
theorem dL_law_417 : decode cL_law 417 = .ok (.aload_n 0, 1) := by decide +kernel
theorem dL_law_418 : decode cL_law 418 = .ok (.iload_n 3, 1) := by decide +kernel
theorem dL_law_419 : decode cL_law 419 = .ok (.iconst 2, 1) := by decide +kernel
theorem dL_law_420 : decode cL_law 420 = .ok (.iadd, 1) := by decide +kernel
theorem dL_law_421 : decode cL_law 421 = .ok (.iaload, 1) := by decide +kernel
theorem dL_law_422 : decode cL_law 422 = .ok (.invokevirtual 56, 3) := by decide +kernel
theorem dL_law_425 : decode cL_law 425 = .ok (.aload_n 2, 1) := by decide +kernel
theorem dL_law_426 : decode cL_law 426 = .ok (.aload_n 0, 1) := by decide +kernel
theorem dL_law_427 : decode cL_law 427 = .ok (.iload_n 3, 1) := by decide +kernel
theorem dL_law_428 : decode cL_law 428 = .ok (.iconst 1, 1) := by decide +kernel
theorem dL_law_429 : decode cL_law 429 = .ok (.iadd, 1) := by decide +kernel
theorem dL_law_430 : decode cL_law 430 = .ok (.iaload, 1) := by decide +kernel
theorem dL_law_431 : decode cL_law 431 = .ok (.aload_n 0, 1) := by decide +kernel
theorem dL_law_432 : decode cL_law 432 = .ok (.iload_n 3, 1) := by decide +kernel
theorem dL_law_433 : decode cL_law 433 = .ok (.iconst 2, 1) := by decide +kernel
theorem dL_law_434 : decode cL_law 434 = .ok (.iadd, 1) := by decide +kernel
theorem dL_law_435 : decode cL_law 435 = .ok (.iaload, 1) := by decide +kernel
theorem dL_law_436 : decode cL_law 436 = .ok (.invokevirtual 59, 3) := by decide +kernel
theorem dL_law_439 : decode cL_law 439 = .ok (.if_icmp .eq 388, 3) := by decide +kernel
theorem dL_law_442 : decode cL_law 442 = .ok (.iconst 0, 1) := by decide +kernel
theorem dL_law_443 : decode cL_law 443 = .ok (.ireturn, 1) := by decide +kernel
theorem dL_law_444 : decode cL_law 444 = .ok (.aload_n 1, 1) := by decide +kernel
theorem dL_law_445 : decode cL_law 445 = .ok (.aload_n 0, 1) := by decide +kernel
theorem dL_law_446 : decode cL_law 446 = .ok (.iload_n 3, 1) := by decide +kernel
theorem dL_law_447 : decode cL_law 447 = .ok (.iconst 1, 1) := by decide +kernel
theorem dL_law_448 : decode cL_law 448 = .ok (.iadd, 1) := by decide +kernel
theorem dL_law_449 : decode cL_law 449 = .ok (.iaload, 1) := by decide +kernel
theorem dL_law_450 : decode cL_law 450 = .ok (.aload_n 0, 1) := by decide +kernel
theorem dL_law_451 : decode cL_law 451 = .ok (.iload_n 3, 1) := by decide +kernel
theorem dL_law_452 : decode cL_law 452 = .ok (.iconst 2, 1) := by decide +kernel
theorem dL_law_453 : decode cL_law 453 = .ok (.iadd, 1) := by decide +kernel
theorem dL_law_454 : decode cL_law 454 = .ok (.iaload, 1) := by decide +kernel
theorem dL_law_455 : decode cL_law 455 = .ok (.invokevirtual 60, 3) := by decide +kernel
theorem dL_law_458 : decode cL_law 458 = .ok (.aload_n 2, 1) := by decide +kernel
theorem dL_law_459 : decode cL_law 459 = .ok (.aload_n 0, 1) := by decide +kernel
theorem dL_law_460 : decode cL_law 460 = .ok (.iload_n 3, 1) := by decide +kernel
theorem dL_law_461 : decode cL_law 461 = .ok (.iconst 1, 1) := by decide +kernel
theorem dL_law_462 : decode cL_law 462 = .ok (.iadd, 1) := by decide +kernel
theorem dL_law_463 : decode cL_law 463 = .ok (.iaload, 1) := by decide +kernel
theorem dL_law_464 : decode cL_law 464 = .ok (.aload_n 0, 1) := by decide +kernel
theorem dL_law_465 : decode cL_law 465 = .ok (.iload_n 3, 1) := by decide +kernel
theorem dL_law_466 : decode cL_law 466 = .ok (.iconst 2, 1) := by decide +kernel
theorem dL_law_467 : decode cL_law 467 = .ok (.iadd, 1) := by decide +kernel
theorem dL_law_468 : decode cL_law 468 = .ok (.iaload, 1) := by decide +kernel
theorem dL_law_469 : decode cL_law 469 = .ok (.invokevirtual 63, 3) := by decide +kernel
theorem dL_law_472 : decode cL_law 472 = .ok (.if_icmp .eq 355, 3) := by decide +kernel
theorem dL_law_475 : decode cL_law 475 = .ok (.iconst 0, 1) := by decide +kernel
theorem dL_law_476 : decode cL_law 476 = .ok (.ireturn, 1) := by decide +kernel
theorem dL_law_477 : decode cL_law 477 = .ok (.aload_n 1, 1) := by decide +kernel
theorem dL_law_478 : decode cL_law 478 = .ok (.aload_n 0, 1) := by decide +kernel
theorem dL_law_479 : decode cL_law 479 = .ok (.iload_n 3, 1) := by decide +kernel
theorem dL_law_480 : decode cL_law 480 = .ok (.iconst 1, 1) := by decide +kernel
theorem dL_law_481 : decode cL_law 481 = .ok (.iadd, 1) := by decide +kernel
theorem dL_law_482 : decode cL_law 482 = .ok (.iaload, 1) := by decide +kernel
theorem dL_law_483 : decode cL_law 483 = .ok (.aload_n 0, 1) := by decide +kernel
theorem dL_law_484 : decode cL_law 484 = .ok (.iload_n 3, 1) := by decide +kernel
theorem dL_law_485 : decode cL_law 485 = .ok (.iconst 2, 1) := by decide +kernel
theorem dL_law_486 : decode cL_law 486 = .ok (.iadd, 1) := by decide +kernel
theorem dL_law_487 : decode cL_law 487 = .ok (.iaload, 1) := by decide +kernel
theorem dL_law_488 : decode cL_law 488 = .ok (.invokevirtual 64, 3) := by decide +kernel
theorem dL_law_491 : decode cL_law 491 = .ok (.aload_n 2, 1) := by decide +kernel
theorem dL_law_492 : decode cL_law 492 = .ok (.aload_n 0, 1) := by decide +kernel
theorem dL_law_493 : decode cL_law 493 = .ok (.iload_n 3, 1) := by decide +kernel
theorem dL_law_494 : decode cL_law 494 = .ok (.iconst 1, 1) := by decide +kernel
theorem dL_law_495 : decode cL_law 495 = .ok (.iadd, 1) := by decide +kernel
theorem dL_law_496 : decode cL_law 496 = .ok (.iaload, 1) := by decide +kernel
theorem dL_law_497 : decode cL_law 497 = .ok (.aload_n 0, 1) := by decide +kernel
theorem dL_law_498 : decode cL_law 498 = .ok (.iload_n 3, 1) := by decide +kernel
theorem dL_law_499 : decode cL_law 499 = .ok (.iconst 2, 1) := by decide +kernel
theorem dL_law_500 : decode cL_law 500 = .ok (.iadd, 1) := by decide +kernel
theorem dL_law_501 : decode cL_law 501 = .ok (.iaload, 1) := by decide +kernel
theorem dL_law_502 : decode cL_law 502 = .ok (.invokevirtual 67, 3) := by decide +kernel
theorem dL_law_505 : decode cL_law 505 = .ok (.if_icmp .eq 322, 3) := by decide +kernel
theorem dL_law_508 : decode cL_law 508 = .ok (.iconst 0, 1) := by decide +kernel
theorem dL_law_509 : decode cL_law 509 = .ok (.ireturn, 1) := by decide +kernel
theorem dL_law_510 : decode cL_law 510 = .ok (.aload_n 1, 1) := by decide +kernel
theorem dL_law_511 : decode cL_law 511 = .ok (.aload_n 0, 1) := by decide +kernel
theorem dL_law_512 : decode cL_law 512 = .ok (.iload_n 3, 1) := by decide +kernel
theorem dL_law_513 : decode cL_law 513 = .ok (.iconst 1, 1) := by decide +kernel
theorem dL_law_514 : decode cL_law 514 = .ok (.iadd, 1) := by decide +kernel
theorem dL_law_515 : decode cL_law 515 = .ok (.iaload, 1) := by decide +kernel
theorem dL_law_516 : decode cL_law 516 = .ok (.aload_n 0, 1) := by decide +kernel
theorem dL_law_517 : decode cL_law 517 = .ok (.iload_n 3, 1) := by decide +kernel
theorem dL_law_518 : decode cL_law 518 = .ok (.iconst 2, 1) := by decide +kernel
theorem dL_law_519 : decode cL_law 519 = .ok (.iadd, 1) := by decide +kernel
theorem dL_law_520 : decode cL_law 520 = .ok (.iaload, 1) := by decide +kernel
theorem dL_law_521 : decode cL_law 521 = .ok (.invokevirtual 68, 3) := by decide +kernel
theorem dL_law_524 : decode cL_law 524 = .ok (.aload_n 2, 1) := by decide +kernel
theorem dL_law_525 : decode cL_law 525 = .ok (.aload_n 0, 1) := by decide +kernel
theorem dL_law_526 : decode cL_law 526 = .ok (.iload_n 3, 1) := by decide +kernel
theorem dL_law_527 : decode cL_law 527 = .ok (.iconst 1, 1) := by decide +kernel
theorem dL_law_528 : decode cL_law 528 = .ok (.iadd, 1) := by decide +kernel
theorem dL_law_529 : decode cL_law 529 = .ok (.iaload, 1) := by decide +kernel
theorem dL_law_530 : decode cL_law 530 = .ok (.aload_n 0, 1) := by decide +kernel
theorem dL_law_531 : decode cL_law 531 = .ok (.iload_n 3, 1) := by decide +kernel
theorem dL_law_532 : decode cL_law 532 = .ok (.iconst 2, 1) := by decide +kernel
theorem dL_law_533 : decode cL_law 533 = .ok (.iadd, 1) := by decide +kernel
theorem dL_law_534 : decode cL_law 534 = .ok (.iaload, 1) := by decide +kernel
theorem dL_law_535 : decode cL_law 535 = .ok (.invokevirtual 71, 3) := by decide +kernel
theorem dL_law_538 : decode cL_law 538 = .ok (.if_icmp .eq 289, 3) := by decide +kernel
theorem dL_law_541 : decode cL_law 541 = .ok (.iconst 0, 1) := by decide +kernel
theorem dL_law_542 : decode cL_law 542 = .ok (.ireturn, 1) := by decide +kernel
theorem dL_law_543 : decode cL_law 543 = .ok (.aload_n 1, 1) := by decide +kernel
theorem dL_law_544 : decode cL_law 544 = .ok (.aload_n 0, 1) := by decide +kernel
theorem dL_law_545 : decode cL_law 545 = .ok (.iload_n 3, 1) := by decide +kernel
theorem dL_law_546 : decode cL_law 546 = .ok (.iconst 1, 1) := by decide +kernel
theorem dL_law_547 : decode cL_law 547 = .ok (.iadd, 1) := by decide +kernel
theorem dL_law_548 : decode cL_law 548 = .ok (.iaload, 1) := by decide +kernel
theorem dL_law_549 : decode cL_law 549 = .ok (.invokevirtual 72, 3) := by decide +kernel
theorem dL_law_552 : decode cL_law 552 = .ok (.aload_n 2, 1) := by decide +kernel
theorem dL_law_553 : decode cL_law 553 = .ok (.aload_n 0, 1) := by decide +kernel
theorem dL_law_554 : decode cL_law 554 = .ok (.iload_n 3, 1) := by decide +kernel
theorem dL_law_555 : decode cL_law 555 = .ok (.iconst 1, 1) := by decide +kernel
theorem dL_law_556 : decode cL_law 556 = .ok (.iadd, 1) := by decide +kernel
theorem dL_law_557 : decode cL_law 557 = .ok (.iaload, 1) := by decide +kernel
theorem dL_law_558 : decode cL_law 558 = .ok (.invokevirtual 75, 3) := by decide +kernel
theorem dL_law_561 : decode cL_law 561 = .ok (.if_icmp .eq 266, 3) := by decide +kernel
theorem dL_law_564 : decode cL_law 564 = .ok (.iconst 0, 1) := by decide +kernel
theorem dL_law_565 : decode cL_law 565 = .ok (.ireturn, 1) := by decide +kernel
theorem dL_law_566 : decode cL_law 566 = .ok (.aload_n 1, 1) := by decide +kernel
theorem dL_law_567 : decode cL_law 567 = .ok (.aload_n 0, 1) := by decide +kernel
theorem dL_law_568 : decode cL_law 568 = .ok (.iload_n 3, 1) := by decide +kernel
theorem dL_law_569 : decode cL_law 569 = .ok (.iconst 1, 1) := by decide +kernel
theorem dL_law_570 : decode cL_law 570 = .ok (.iadd, 1) := by decide +kernel
theorem dL_law_571 : decode cL_law 571 = .ok (.iaload, 1) := by decide +kernel
theorem dL_law_572 : decode cL_law 572 = .ok (.aload_n 0, 1) := by decide +kernel
theorem dL_law_573 : decode cL_law 573 = .ok (.iload_n 3, 1) := by decide +kernel
theorem dL_law_574 : decode cL_law 574 = .ok (.iconst 2, 1) := by decide +kernel
theorem dL_law_575 : decode cL_law 575 = .ok (.iadd, 1) := by decide +kernel
theorem dL_law_576 : decode cL_law 576 = .ok (.iaload, 1) := by decide +kernel
theorem dL_law_577 : decode cL_law 577 = .ok (.invokevirtual 76, 3) := by decide +kernel
theorem dL_law_580 : decode cL_law 580 = .ok (.aload_n 2, 1) := by decide +kernel
theorem dL_law_581 : decode cL_law 581 = .ok (.aload_n 0, 1) := by decide +kernel
theorem dL_law_582 : decode cL_law 582 = .ok (.iload_n 3, 1) := by decide +kernel
theorem dL_law_583 : decode cL_law 583 = .ok (.iconst 1, 1) := by decide +kernel
theorem dL_law_584 : decode cL_law 584 = .ok (.iadd, 1) := by decide +kernel
theorem dL_law_585 : decode cL_law 585 = .ok (.iaload, 1) := by decide +kernel
theorem dL_law_586 : decode cL_law 586 = .ok (.aload_n 0, 1) := by decide +kernel
theorem dL_law_587 : decode cL_law 587 = .ok (.iload_n 3, 1) := by decide +kernel
theorem dL_law_588 : decode cL_law 588 = .ok (.iconst 2, 1) := by decide +kernel
theorem dL_law_589 : decode cL_law 589 = .ok (.iadd, 1) := by decide +kernel
theorem dL_law_590 : decode cL_law 590 = .ok (.iaload, 1) := by decide +kernel
theorem dL_law_591 : decode cL_law 591 = .ok (.invokevirtual 79, 3) := by decide +kernel
theorem dL_law_594 : decode cL_law 594 = .ok (.if_icmp .eq 233, 3) := by decide +kernel
theorem dL_law_597 : decode cL_law 597 = .ok (.iconst 0, 1) := by decide +kernel
theorem dL_law_598 : decode cL_law 598 = .ok (.ireturn, 1) := by decide +kernel
theorem dL_law_599 : decode cL_law 599 = .ok (.aload_n 1, 1) := by decide +kernel
theorem dL_law_600 : decode cL_law 600 = .ok (.aload_n 0, 1) := by decide +kernel
theorem dL_law_601 : decode cL_law 601 = .ok (.iload_n 3, 1) := by decide +kernel
theorem dL_law_602 : decode cL_law 602 = .ok (.iconst 1, 1) := by decide +kernel
theorem dL_law_603 : decode cL_law 603 = .ok (.iadd, 1) := by decide +kernel
theorem dL_law_604 : decode cL_law 604 = .ok (.iaload, 1) := by decide +kernel
theorem dL_law_605 : decode cL_law 605 = .ok (.invokevirtual 80, 3) := by decide +kernel
theorem dL_law_608 : decode cL_law 608 = .ok (.aload_n 2, 1) := by decide +kernel
theorem dL_law_609 : decode cL_law 609 = .ok (.aload_n 0, 1) := by decide +kernel
theorem dL_law_610 : decode cL_law 610 = .ok (.iload_n 3, 1) := by decide +kernel
theorem dL_law_611 : decode cL_law 611 = .ok (.iconst 1, 1) := by decide +kernel
theorem dL_law_612 : decode cL_law 612 = .ok (.iadd, 1) := by decide +kernel
theorem dL_law_613 : decode cL_law 613 = .ok (.iaload, 1) := by decide +kernel
theorem dL_law_614 : decode cL_law 614 = .ok (.invokevirtual 83, 3) := by decide +kernel
theorem dL_law_617 : decode cL_law 617 = .ok (.if_icmp .eq 210, 3) := by decide +kernel
theorem dL_law_620 : decode cL_law 620 = .ok (.iconst 0, 1) := by decide +kernel
theorem dL_law_621 : decode cL_law 621 = .ok (.ireturn, 1) := by decide +kernel
theorem dL_law_622 : decode cL_law 622 = .ok (.aload_n 1, 1) := by decide +kernel
theorem dL_law_623 : decode cL_law 623 = .ok (.aload_n 0, 1) := by decide +kernel
theorem dL_law_624 : decode cL_law 624 = .ok (.iload_n 3, 1) := by decide +kernel
theorem dL_law_625 : decode cL_law 625 = .ok (.iconst 1, 1) := by decide +kernel
theorem dL_law_626 : decode cL_law 626 = .ok (.iadd, 1) := by decide +kernel
theorem dL_law_627 : decode cL_law 627 = .ok (.iaload, 1) := by decide +kernel
theorem dL_law_628 : decode cL_law 628 = .ok (.aload_n 0, 1) := by decide +kernel
theorem dL_law_629 : decode cL_law 629 = .ok (.iload_n 3, 1) := by decide +kernel
theorem dL_law_630 : decode cL_law 630 = .ok (.iconst 2, 1) := by decide +kernel
theorem dL_law_631 : decode cL_law 631 = .ok (.iadd, 1) := by decide +kernel
theorem dL_law_632 : decode cL_law 632 = .ok (.iaload, 1) := by decide +kernel
theorem dL_law_633 : decode cL_law 633 = .ok (.invokevirtual 84, 3) := by decide +kernel
theorem dL_law_636 : decode cL_law 636 = .ok (.aload_n 2, 1) := by decide +kernel
theorem dL_law_637 : decode cL_law 637 = .ok (.aload_n 0, 1) := by decide +kernel
theorem dL_law_638 : decode cL_law 638 = .ok (.iload_n 3, 1) := by decide +kernel
theorem dL_law_639 : decode cL_law 639 = .ok (.iconst 1, 1) := by decide +kernel
theorem dL_law_640 : decode cL_law 640 = .ok (.iadd, 1) := by decide +kernel
theorem dL_law_641 : decode cL_law 641 = .ok (.iaload, 1) := by decide +kernel
theorem dL_law_642 : decode cL_law 642 = .ok (.aload_n 0, 1) := by decide +kernel
theorem dL_law_643 : decode cL_law 643 = .ok (.iload_n 3, 1) := by decide +kernel
theorem dL_law_644 : decode cL_law 644 = .ok (.iconst 2, 1) := by decide +kernel
theorem dL_law_645 : decode cL_law 645 = .ok (.iadd, 1) := by decide +kernel
theorem dL_law_646 : decode cL_law 646 = .ok (.iaload, 1) := by decide +kernel
theorem dL_law_647 : decode cL_law 647 = .ok (.invokevirtual 87, 3) := by decide +kernel
theorem dL_law_650 : decode cL_law 650 = .ok (.if_icmp .eq 177, 3) := by decide +kernel
theorem dL_law_653 : decode cL_law 653 = .ok (.iconst 0, 1) := by decide +kernel
theorem dL_law_654 : decode cL_law 654 = .ok (.ireturn, 1) := by decide +kernel
theorem dL_law_655 : decode cL_law 655 = .ok (.aload_n 1, 1) := by decide +kernel
theorem dL_law_656 : decode cL_law 656 = .ok (.aload_n 0, 1) := by decide +kernel
theorem dL_law_657 : decode cL_law 657 = .ok (.iload_n 3, 1) := by decide +kernel
theorem dL_law_658 : decode cL_law 658 = .ok (.iconst 1, 1) := by decide +kernel
theorem dL_law_659 : decode cL_law 659 = .ok (.iadd, 1) := by decide +kernel
theorem dL_law_660 : decode cL_law 660 = .ok (.iaload, 1) := by decide +kernel
theorem dL_law_661 : decode cL_law 661 = .ok (.invokevirtual 88, 3) := by decide +kernel
theorem dL_law_664 : decode cL_law 664 = .ok (.aload_n 2, 1) := by decide +kernel
theorem dL_law_665 : decode cL_law 665 = .ok (.aload_n 0, 1) := by decide +kernel
theorem dL_law_666 : decode cL_law 666 = .ok (.iload_n 3, 1) := by decide +kernel
theorem dL_law_667 : decode cL_law 667 = .ok (.iconst 1, 1) := by decide +kernel
theorem dL_law_668 : decode cL_law 668 = .ok (.iadd, 1) := by decide +kernel
theorem dL_law_669 : decode cL_law 669 = .ok (.iaload, 1) := by decide +kernel
theorem dL_law_670 : decode cL_law 670 = .ok (.invokevirtual 92, 3) := by decide +kernel
theorem dL_law_673 : decode cL_law 673 = .ok (.lcmp, 1) := by decide +kernel
theorem dL_law_674 : decode cL_law 674 = .ok (.ifCond .eq 153, 3) := by decide +kernel
theorem dL_law_677 : decode cL_law 677 = .ok (.iconst 0, 1) := by decide +kernel
theorem dL_law_678 : decode cL_law 678 = .ok (.ireturn, 1) := by decide +kernel
theorem dL_law_679 : decode cL_law 679 = .ok (.aload_n 1, 1) := by decide +kernel
theorem dL_law_680 : decode cL_law 680 = .ok (.aload_n 0, 1) := by decide +kernel
theorem dL_law_681 : decode cL_law 681 = .ok (.iload_n 3, 1) := by decide +kernel
theorem dL_law_682 : decode cL_law 682 = .ok (.iconst 1, 1) := by decide +kernel
theorem dL_law_683 : decode cL_law 683 = .ok (.iadd, 1) := by decide +kernel
theorem dL_law_684 : decode cL_law 684 = .ok (.iaload, 1) := by decide +kernel
theorem dL_law_685 : decode cL_law 685 = .ok (.aload_n 0, 1) := by decide +kernel
theorem dL_law_686 : decode cL_law 686 = .ok (.iload_n 3, 1) := by decide +kernel
theorem dL_law_687 : decode cL_law 687 = .ok (.iconst 2, 1) := by decide +kernel
theorem dL_law_688 : decode cL_law 688 = .ok (.iadd, 1) := by decide +kernel
theorem dL_law_689 : decode cL_law 689 = .ok (.iaload, 1) := by decide +kernel
theorem dL_law_690 : decode cL_law 690 = .ok (.invokevirtual 93, 3) := by decide +kernel
theorem dL_law_693 : decode cL_law 693 = .ok (.aload_n 2, 1) := by decide +kernel
theorem dL_law_694 : decode cL_law 694 = .ok (.aload_n 0, 1) := by decide +kernel
theorem dL_law_695 : decode cL_law 695 = .ok (.iload_n 3, 1) := by decide +kernel
theorem dL_law_696 : decode cL_law 696 = .ok (.iconst 1, 1) := by decide +kernel
theorem dL_law_697 : decode cL_law 697 = .ok (.iadd, 1) := by decide +kernel
theorem dL_law_698 : decode cL_law 698 = .ok (.iaload, 1) := by decide +kernel
theorem dL_law_699 : decode cL_law 699 = .ok (.aload_n 0, 1) := by decide +kernel
theorem dL_law_700 : decode cL_law 700 = .ok (.iload_n 3, 1) := by decide +kernel
theorem dL_law_701 : decode cL_law 701 = .ok (.iconst 2, 1) := by decide +kernel
theorem dL_law_702 : decode cL_law 702 = .ok (.iadd, 1) := by decide +kernel
theorem dL_law_703 : decode cL_law 703 = .ok (.iaload, 1) := by decide +kernel
theorem dL_law_704 : decode cL_law 704 = .ok (.invokevirtual 96, 3) := by decide +kernel
theorem dL_law_707 : decode cL_law 707 = .ok (.if_icmp .eq 120, 3) := by decide +kernel
theorem dL_law_710 : decode cL_law 710 = .ok (.iconst 0, 1) := by decide +kernel
theorem dL_law_711 : decode cL_law 711 = .ok (.ireturn, 1) := by decide +kernel
theorem dL_law_712 : decode cL_law 712 = .ok (.aload_n 1, 1) := by decide +kernel
theorem dL_law_713 : decode cL_law 713 = .ok (.aload_n 0, 1) := by decide +kernel
theorem dL_law_714 : decode cL_law 714 = .ok (.iload_n 3, 1) := by decide +kernel
theorem dL_law_715 : decode cL_law 715 = .ok (.iconst 1, 1) := by decide +kernel
theorem dL_law_716 : decode cL_law 716 = .ok (.iadd, 1) := by decide +kernel
theorem dL_law_717 : decode cL_law 717 = .ok (.iaload, 1) := by decide +kernel
theorem dL_law_718 : decode cL_law 718 = .ok (.invokevirtual 97, 3) := by decide +kernel
theorem dL_law_721 : decode cL_law 721 = .ok (.aload_n 2, 1) := by decide +kernel
theorem dL_law_722 : decode cL_law 722 = .ok (.aload_n 0, 1) := by decide +kernel
theorem dL_law_723 : decode cL_law 723 = .ok (.iload_n 3, 1) := by decide +kernel
theorem dL_law_724 : decode cL_law 724 = .ok (.iconst 1, 1) := by decide +kernel
theorem dL_law_725 : decode cL_law 725 = .ok (.iadd, 1) := by decide +kernel
theorem dL_law_726 : decode cL_law 726 = .ok (.iaload, 1) := by decide +kernel
theorem dL_law_727 : decode cL_law 727 = .ok (.invokevirtual 100, 3) := by decide +kernel
theorem dL_law_730 : decode cL_law 730 = .ok (.if_icmp .eq 97, 3) := by decide +kernel
theorem dL_law_733 : decode cL_law 733 = .ok (.iconst 0, 1) := by decide +kernel
theorem dL_law_734 : decode cL_law 734 = .ok (.ireturn, 1) := by decide +kernel
theorem dL_law_735 : decode cL_law 735 = .ok (.aload_n 1, 1) := by decide +kernel
theorem dL_law_736 : decode cL_law 736 = .ok (.aload_n 0, 1) := by decide +kernel
theorem dL_law_737 : decode cL_law 737 = .ok (.iload_n 3, 1) := by decide +kernel
theorem dL_law_738 : decode cL_law 738 = .ok (.iconst 1, 1) := by decide +kernel
theorem dL_law_739 : decode cL_law 739 = .ok (.iadd, 1) := by decide +kernel
theorem dL_law_740 : decode cL_law 740 = .ok (.iaload, 1) := by decide +kernel
theorem dL_law_741 : decode cL_law 741 = .ok (.invokevirtual 101, 3) := by decide +kernel
theorem dL_law_744 : decode cL_law 744 = .ok (.aload_n 2, 1) := by decide +kernel
theorem dL_law_745 : decode cL_law 745 = .ok (.aload_n 0, 1) := by decide +kernel
theorem dL_law_746 : decode cL_law 746 = .ok (.iload_n 3, 1) := by decide +kernel
theorem dL_law_747 : decode cL_law 747 = .ok (.iconst 1, 1) := by decide +kernel
theorem dL_law_748 : decode cL_law 748 = .ok (.iadd, 1) := by decide +kernel
theorem dL_law_749 : decode cL_law 749 = .ok (.iaload, 1) := by decide +kernel
theorem dL_law_750 : decode cL_law 750 = .ok (.invokevirtual 104, 3) := by decide +kernel
theorem dL_law_753 : decode cL_law 753 = .ok (.if_icmp .eq 74, 3) := by decide +kernel
theorem dL_law_756 : decode cL_law 756 = .ok (.iconst 0, 1) := by decide +kernel
theorem dL_law_757 : decode cL_law 757 = .ok (.ireturn, 1) := by decide +kernel
theorem dL_law_758 : decode cL_law 758 = .ok (.aload_n 1, 1) := by decide +kernel
theorem dL_law_759 : decode cL_law 759 = .ok (.aload_n 0, 1) := by decide +kernel
theorem dL_law_760 : decode cL_law 760 = .ok (.iload_n 3, 1) := by decide +kernel
theorem dL_law_761 : decode cL_law 761 = .ok (.iconst 1, 1) := by decide +kernel
theorem dL_law_762 : decode cL_law 762 = .ok (.iadd, 1) := by decide +kernel
theorem dL_law_763 : decode cL_law 763 = .ok (.iaload, 1) := by decide +kernel
theorem dL_law_764 : decode cL_law 764 = .ok (.invokevirtual 105, 3) := by decide +kernel
theorem dL_law_767 : decode cL_law 767 = .ok (.aload_n 2, 1) := by decide +kernel
theorem dL_law_768 : decode cL_law 768 = .ok (.aload_n 0, 1) := by decide +kernel
theorem dL_law_769 : decode cL_law 769 = .ok (.iload_n 3, 1) := by decide +kernel
theorem dL_law_770 : decode cL_law 770 = .ok (.iconst 1, 1) := by decide +kernel
theorem dL_law_771 : decode cL_law 771 = .ok (.iadd, 1) := by decide +kernel
theorem dL_law_772 : decode cL_law 772 = .ok (.iaload, 1) := by decide +kernel
theorem dL_law_773 : decode cL_law 773 = .ok (.invokevirtual 108, 3) := by decide +kernel
theorem dL_law_776 : decode cL_law 776 = .ok (.if_icmp .eq 51, 3) := by decide +kernel
theorem dL_law_779 : decode cL_law 779 = .ok (.iconst 0, 1) := by decide +kernel
theorem dL_law_780 : decode cL_law 780 = .ok (.ireturn, 1) := by decide +kernel
theorem dL_law_781 : decode cL_law 781 = .ok (.aload_n 1, 1) := by decide +kernel
theorem dL_law_782 : decode cL_law 782 = .ok (.aload_n 0, 1) := by decide +kernel
theorem dL_law_783 : decode cL_law 783 = .ok (.iload_n 3, 1) := by decide +kernel
theorem dL_law_784 : decode cL_law 784 = .ok (.iconst 1, 1) := by decide +kernel
theorem dL_law_785 : decode cL_law 785 = .ok (.iadd, 1) := by decide +kernel
theorem dL_law_786 : decode cL_law 786 = .ok (.iaload, 1) := by decide +kernel
theorem dL_law_787 : decode cL_law 787 = .ok (.invokevirtual 109, 3) := by decide +kernel
theorem dL_law_790 : decode cL_law 790 = .ok (.aload_n 2, 1) := by decide +kernel
theorem dL_law_791 : decode cL_law 791 = .ok (.aload_n 0, 1) := by decide +kernel
theorem dL_law_792 : decode cL_law 792 = .ok (.iload_n 3, 1) := by decide +kernel
theorem dL_law_793 : decode cL_law 793 = .ok (.iconst 1, 1) := by decide +kernel
theorem dL_law_794 : decode cL_law 794 = .ok (.iadd, 1) := by decide +kernel
theorem dL_law_795 : decode cL_law 795 = .ok (.iaload, 1) := by decide +kernel
theorem dL_law_796 : decode cL_law 796 = .ok (.invokevirtual 112, 3) := by decide +kernel
theorem dL_law_799 : decode cL_law 799 = .ok (.if_icmp .eq 28, 3) := by decide +kernel
theorem dL_law_802 : decode cL_law 802 = .ok (.iconst 0, 1) := by decide +kernel
theorem dL_law_803 : decode cL_law 803 = .ok (.ireturn, 1) := by decide +kernel
theorem dL_law_804 : decode cL_law 804 = .ok (.aload_n 1, 1) := by decide +kernel
theorem dL_law_805 : decode cL_law 805 = .ok (.aload_n 0, 1) := by decide +kernel
theorem dL_law_806 : decode cL_law 806 = .ok (.iload_n 3, 1) := by decide +kernel
theorem dL_law_807 : decode cL_law 807 = .ok (.iconst 1, 1) := by decide +kernel
theorem dL_law_808 : decode cL_law 808 = .ok (.iadd, 1) := by decide +kernel
theorem dL_law_809 : decode cL_law 809 = .ok (.iaload, 1) := by decide +kernel
theorem dL_law_810 : decode cL_law 810 = .ok (.invokevirtual 113, 3) := by decide +kernel
theorem dL_law_813 : decode cL_law 813 = .ok (.aload_n 2, 1) := by decide +kernel
theorem dL_law_814 : decode cL_law 814 = .ok (.aload_n 0, 1) := by decide +kernel
theorem dL_law_815 : decode cL_law 815 = .ok (.iload_n 3, 1) := by decide +kernel
theorem dL_law_816 : decode cL_law 816 = .ok (.iconst 1, 1) := by decide +kernel
theorem dL_law_817 : decode cL_law 817 = .ok (.iadd, 1) := by decide +kernel
theorem dL_law_818 : decode cL_law 818 = .ok (.iaload, 1) := by decide +kernel
theorem dL_law_819 : decode cL_law 819 = .ok (.invokevirtual 116, 3) := by decide +kernel
theorem dL_law_822 : decode cL_law 822 = .ok (.if_icmp .eq 5, 3) := by decide +kernel
theorem dL_law_825 : decode cL_law 825 = .ok (.iconst 0, 1) := by decide +kernel
theorem dL_law_826 : decode cL_law 826 = .ok (.ireturn, 1) := by decide +kernel
theorem dL_law_827 : decode cL_law 827 = .ok (.iinc 3 3, 3) := by decide +kernel
theorem dL_law_830 : decode cL_law 830 = .ok (.goto (-812), 3) := by decide +kernel
theorem dL_law_833 : decode cL_law 833 = .ok (.iconst 1, 1) := by decide +kernel
theorem dL_law_834 : decode cL_law 834 = .ok (.ireturn, 1) := by decide +kernel
