theorem dX3_enter_0 : decode cX3_enter 0 = .ok (.iconst 0, 1) := by decide +kernel
theorem dX3_enter_1 : decode cX3_enter 1 = .ok (.istore 4, 2) := by decide +kernel
theorem dX3_enter_3 : decode cX3_enter 3 = .ok (.iconst 0, 1) := by decide +kernel
theorem dX3_enter_4 : decode cX3_enter 4 = .ok (.istore 5, 2) := by decide +kernel
theorem dX3_enter_6 : decode cX3_enter 6 = .ok (.iconst 0, 1) := by decide +kernel
theorem dX3_enter_7 : decode cX3_enter 7 = .ok (.istore 6, 2) := by decide +kernel
theorem dX3_enter_9 : decode cX3_enter 9 = .ok (.iload 6, 2) := by decide +kernel
theorem dX3_enter_11 : decode cX3_enter 11 = .ok (.aload_n 0, 1) := by decide +kernel
theorem dX3_enter_12 : decode cX3_enter 12 = .ok (.getfield 22, 3) := by decide +kernel
theorem dX3_enter_15 : decode cX3_enter 15 = .ok (.getfield 29, 3) := by decide +kernel
theorem dX3_enter_18 : decode cX3_enter 18 = .ok (.if_icmp .ge 60, 3) := by decide +kernel
theorem dX3_enter_21 : decode cX3_enter 21 = .ok (.aload_n 0, 1) := by decide +kernel
theorem dX3_enter_22 : decode cX3_enter 22 = .ok (.getfield 18, 3) := by decide +kernel
theorem dX3_enter_25 : decode cX3_enter 25 = .ok (.iload 6, 2) := by decide +kernel
theorem dX3_enter_27 : decode cX3_enter 27 = .ok (.iaload, 1) := by decide +kernel
theorem dX3_enter_28 : decode cX3_enter 28 = .ok (.iload_n 2, 1) := by decide +kernel
theorem dX3_enter_29 : decode cX3_enter 29 = .ok (.if_icmp .ne 43, 3) := by decide +kernel
theorem dX3_enter_32 : decode cX3_enter 32 = .ok (.iload 6, 2) := by decide +kernel
theorem dX3_enter_34 : decode cX3_enter 34 = .ok (.iload_n 1, 1) := by decide +kernel
theorem dX3_enter_35 : decode cX3_enter 35 = .ok (.if_icmp .eq 37, 3) := by decide +kernel
theorem dX3_enter_38 : decode cX3_enter 38 = .ok (.iload 6, 2) := by decide +kernel
theorem dX3_enter_40 : decode cX3_enter 40 = .ok (.iload_n 3, 1) := by decide +kernel
theorem dX3_enter_41 : decode cX3_enter 41 = .ok (.if_icmp .eq 31, 3) := by decide +kernel
theorem dX3_enter_44 : decode cX3_enter 44 = .ok (.iinc 4 1, 3) := by decide +kernel
theorem dX3_enter_47 : decode cX3_enter 47 = .ok (.aload_n 0, 1) := by decide +kernel
theorem dX3_enter_48 : decode cX3_enter 48 = .ok (.getfield 22, 3) := by decide +kernel
theorem dX3_enter_51 : decode cX3_enter 51 = .ok (.getfield 44, 3) := by decide +kernel
theorem dX3_enter_54 : decode cX3_enter 54 = .ok (.iload 6, 2) := by decide +kernel
theorem dX3_enter_56 : decode cX3_enter 56 = .ok (.iaload, 1) := by decide +kernel
theorem dX3_enter_57 : decode cX3_enter 57 = .ok (.aload_n 0, 1) := by decide +kernel
theorem dX3_enter_58 : decode cX3_enter 58 = .ok (.getfield 22, 3) := by decide +kernel
theorem dX3_enter_61 : decode cX3_enter 61 = .ok (.getfield 44, 3) := by decide +kernel
theorem dX3_enter_64 : decode cX3_enter 64 = .ok (.iload_n 1, 1) := by decide +kernel
theorem dX3_enter_65 : decode cX3_enter 65 = .ok (.iaload, 1) := by decide +kernel
theorem dX3_enter_66 : decode cX3_enter 66 = .ok (.if_icmp .ne 6, 3) := by decide +kernel
theorem dX3_enter_69 : decode cX3_enter 69 = .ok (.iinc 5 1, 3) := by decide +kernel
theorem dX3_enter_72 : decode cX3_enter 72 = .ok (.iinc 6 1, 3) := by decide +kernel
theorem dX3_enter_75 : decode cX3_enter 75 = .ok (.goto (-66), 3) := by decide +kernel
theorem dX3_enter_78 : decode cX3_enter 78 = .ok (.aload_n 0, 1) := by decide +kernel
theorem dX3_enter_79 : decode cX3_enter 79 = .ok (.iload_n 1, 1) := by decide +kernel
theorem dX3_enter_80 : decode cX3_enter 80 = .ok (.iload_n 2, 1) := by decide +kernel
theorem dX3_enter_81 : decode cX3_enter 81 = .ok (.iload 4, 2) := by decide +kernel
theorem dX3_enter_83 : decode cX3_enter 83 = .ok (.iload 5, 2) := by decide +kernel
theorem dX3_enter_85 : decode cX3_enter 85 = .ok (.invokevirtual 47, 3) := by decide +kernel
theorem dX3_enter_88 : decode cX3_enter 88 = .ok (.return_, 1) := by decide +kernel
theorem dX5_goThrough_0 : decode cX5_goThrough 0 = .ok (.iload_n 2, 1) := by decide +kernel
theorem dX5_goThrough_1 : decode cX5_goThrough 1 = .ok (.istore_n 3, 1) := by decide +kernel
theorem dX5_goThrough_2 : decode cX5_goThrough 2 = .ok (.iconst 0, 1) := by decide +kernel
theorem dX5_goThrough_3 : decode cX5_goThrough 3 = .ok (.istore 4, 2) := by decide +kernel
theorem dX5_goThrough_5 : decode cX5_goThrough 5 = .ok (.iconst 0, 1) := by decide +kernel
theorem dX5_goThrough_6 : decode cX5_goThrough 6 = .ok (.istore 5, 2) := by decide +kernel
theorem dX5_goThrough_8 : decode cX5_goThrough 8 = .ok (.iload 5, 2) := by decide +kernel
theorem dX5_goThrough_10 : decode cX5_goThrough 10 = .ok (.sipush 408, 3) := by decide +kernel
theorem dX5_goThrough_13 : decode cX5_goThrough 13 = .ok (.if_icmp .ge 287, 3) := by decide +kernel
theorem dX5_goThrough_16 : decode cX5_goThrough 16 = .ok (.iload_n 3, 1) := by decide +kernel
theorem dX5_goThrough_17 : decode cX5_goThrough 17 = .ok (.ifCond .lt 283, 3) := by decide +kernel
theorem dX5_goThrough_20 : decode cX5_goThrough 20 = .ok (.iload_n 3, 1) := by decide +kernel
theorem dX5_goThrough_21 : decode cX5_goThrough 21 = .ok (.aload_n 1, 1) := by decide +kernel
theorem dX5_goThrough_22 : decode cX5_goThrough 22 = .ok (.getfield 18, 3) := by decide +kernel
theorem dX5_goThrough_25 : decode cX5_goThrough 25 = .ok (.if_icmp .ge 275, 3) := by decide +kernel
theorem dX5_goThrough_28 : decode cX5_goThrough 28 = .ok (.aload_n 1, 1) := by decide +kernel
theorem dX5_goThrough_29 : decode cX5_goThrough 29 = .ok (.getfield 22, 3) := by decide +kernel
theorem dX5_goThrough_32 : decode cX5_goThrough 32 = .ok (.iload_n 3, 1) := by decide +kernel
theorem dX5_goThrough_33 : decode cX5_goThrough 33 = .ok (.iaload, 1) := by decide +kernel
theorem dX5_goThrough_34 : decode cX5_goThrough 34 = .ok (.bipush 14, 2) := by decide +kernel
theorem dX5_goThrough_36 : decode cX5_goThrough 36 = .ok (.ishr, 1) := by decide +kernel
theorem dX5_goThrough_37 : decode cX5_goThrough 37 = .ok (.istore 6, 2) := by decide +kernel
theorem dX5_goThrough_39 : decode cX5_goThrough 39 = .ok (.aload_n 1, 1) := by decide +kernel
theorem dX5_goThrough_40 : decode cX5_goThrough 40 = .ok (.getfield 22, 3) := by decide +kernel
theorem dX5_goThrough_43 : decode cX5_goThrough 43 = .ok (.iload_n 3, 1) := by decide +kernel
theorem dX5_goThrough_44 : decode cX5_goThrough 44 = .ok (.iaload, 1) := by decide +kernel
theorem dX5_goThrough_45 : decode cX5_goThrough 45 = .ok (.sipush 16383, 3) := by decide +kernel
theorem dX5_goThrough_48 : decode cX5_goThrough 48 = .ok (.iand, 1) := by decide +kernel
theorem dX5_goThrough_49 : decode cX5_goThrough 49 = .ok (.istore 7, 2) := by decide +kernel
theorem dX5_goThrough_51 : decode cX5_goThrough 51 = .ok (.iinc 3 1, 3) := by decide +kernel
theorem dX5_goThrough_54 : decode cX5_goThrough 54 = .ok (.iload 6, 2) := by decide +kernel
theorem dX5_goThrough_56 : decode cX5_goThrough 56 = .ok (.bipush 7, 2) := by decide +kernel
theorem dX5_goThrough_58 : decode cX5_goThrough 58 = .ok (.if_icmp .ne 22, 3) := by decide +kernel
theorem dX5_goThrough_61 : decode cX5_goThrough 61 = .ok (.iload 4, 2) := by decide +kernel
theorem dX5_goThrough_63 : decode cX5_goThrough 63 = .ok (.ifCond .le 15, 3) := by decide +kernel
theorem dX5_goThrough_66 : decode cX5_goThrough 66 = .ok (.aload_n 0, 1) := by decide +kernel
theorem dX5_goThrough_67 : decode cX5_goThrough 67 = .ok (.getfield 13, 3) := by decide +kernel
theorem dX5_goThrough_70 : decode cX5_goThrough 70 = .ok (.iload 4, 2) := by decide +kernel
theorem dX5_goThrough_72 : decode cX5_goThrough 72 = .ok (.iconst 1, 1) := by decide +kernel
theorem dX5_goThrough_73 : decode cX5_goThrough 73 = .ok (.isub, 1) := by decide +kernel
theorem dX5_goThrough_74 : decode cX5_goThrough 74 = .ok (.iaload, 1) := by decide +kernel
theorem dX5_goThrough_75 : decode cX5_goThrough 75 = .ok (.goto 4, 3) := by decide +kernel
theorem dX5_goThrough_78 : decode cX5_goThrough 78 = .ok (.iconst 0, 1) := by decide +kernel
theorem dX5_goThrough_79 : decode cX5_goThrough 79 = .ok (.ireturn, 1) := by decide +kernel
theorem dX5_goThrough_80 : decode cX5_goThrough 80 = .ok (.iload 6, 2) := by decide +kernel
theorem dX5_goThrough_82 : decode cX5_goThrough 82 = .ok (.ifCond .eq 9, 3) := by decide +kernel
theorem dX5_goThrough_85 : decode cX5_goThrough 85 = .ok (.iload 6, 2) := by decide +kernel
theorem dX5_goThrough_87 : decode cX5_goThrough 87 = .ok (.iconst 1, 1) := by decide +kernel
theorem dX5_goThrough_88 : decode cX5_goThrough 88 = .ok (.if_icmp .ne 55, 3) := by decide +kernel
theorem dX5_goThrough_91 : decode cX5_goThrough 91 = .ok (.iload 4, 2) := by decide +kernel
theorem dX5_goThrough_93 : decode cX5_goThrough 93 = .ok (.bipush 24, 2) := by decide +kernel
theorem dX5_goThrough_95 : decode cX5_goThrough 95 = .ok (.if_icmp .ge 16, 3) := by decide +kernel
theorem dX5_goThrough_98 : decode cX5_goThrough 98 = .ok (.iload 6, 2) := by decide +kernel
theorem dX5_goThrough_100 : decode cX5_goThrough 100 = .ok (.iconst 1, 1) := by decide +kernel
theorem dX5_goThrough_101 : decode cX5_goThrough 101 = .ok (.if_icmp .ne 12, 3) := by decide +kernel
theorem dX5_goThrough_104 : decode cX5_goThrough 104 = .ok (.iload 7, 2) := by decide +kernel
theorem dX5_goThrough_106 : decode cX5_goThrough 106 = .ok (.bipush 9, 2) := by decide +kernel
theorem dX5_goThrough_108 : decode cX5_goThrough 108 = .ok (.if_icmp .lt 5, 3) := by decide +kernel
theorem dX5_goThrough_111 : decode cX5_goThrough 111 = .ok (.iconst 0, 1) := by decide +kernel
theorem dX5_goThrough_112 : decode cX5_goThrough 112 = .ok (.ireturn, 1) := by decide +kernel
theorem dX5_goThrough_113 : decode cX5_goThrough 113 = .ok (.aload_n 0, 1) := by decide +kernel
theorem dX5_goThrough_114 : decode cX5_goThrough 114 = .ok (.getfield 13, 3) := by decide +kernel
theorem dX5_goThrough_117 : decode cX5_goThrough 117 = .ok (.iload 4, 2) := by decide +kernel
theorem dX5_goThrough_119 : decode cX5_goThrough 119 = .ok (.iload 6, 2) := by decide +kernel
theorem dX5_goThrough_121 : decode cX5_goThrough 121 = .ok (.ifCond .ne 8, 3) := by decide +kernel
theorem dX5_goThrough_124 : decode cX5_goThrough 124 = .ok (.iload 7, 2) := by decide +kernel
theorem dX5_goThrough_126 : decode cX5_goThrough 126 = .ok (.goto 10, 3) := by decide +kernel
theorem dX5_goThrough_129 : decode cX5_goThrough 129 = .ok (.aload_n 0, 1) := by decide +kernel
theorem dX5_goThrough_130 : decode cX5_goThrough 130 = .ok (.getfield 9, 3) := by decide +kernel
theorem dX5_goThrough_133 : decode cX5_goThrough 133 = .ok (.iload 7, 2) := by decide +kernel
theorem dX5_goThrough_135 : decode cX5_goThrough 135 = .ok (.iaload, 1) := by decide +kernel
theorem dX5_goThrough_136 : decode cX5_goThrough 136 = .ok (.iastore, 1) := by decide +kernel
theorem dX5_goThrough_137 : decode cX5_goThrough 137 = .ok (.iinc 4 1, 3) := by decide +kernel
theorem dX5_goThrough_140 : decode cX5_goThrough 140 = .ok (.goto 154, 3) := by decide +kernel
theorem dX5_goThrough_143 : decode cX5_goThrough 143 = .ok (.iload 4, 2) := by decide +kernel
theorem dX5_goThrough_145 : decode cX5_goThrough 145 = .ok (.iconst 2, 1) := by decide +kernel
theorem dX5_goThrough_146 : decode cX5_goThrough 146 = .ok (.if_icmp .ge 5, 3) := by decide +kernel
theorem dX5_goThrough_149 : decode cX5_goThrough 149 = .ok (.iconst 0, 1) := by decide +kernel
theorem dX5_goThrough_150 : decode cX5_goThrough 150 = .ok (.ireturn, 1) := by decide +kernel
theorem dX5_goThrough_151 : decode cX5_goThrough 151 = .ok (.iinc 4 (-1), 3) := by decide +kernel
theorem dX5_goThrough_154 : decode cX5_goThrough 154 = .ok (.aload_n 0, 1) := by decide +kernel
theorem dX5_goThrough_155 : decode cX5_goThrough 155 = .ok (.getfield 13, 3) := by decide +kernel
theorem dX5_goThrough_158 : decode cX5_goThrough 158 = .ok (.iload 4, 2) := by decide +kernel
theorem dX5_goThrough_160 : decode cX5_goThrough 160 = .ok (.iconst 1, 1) := by decide +kernel
theorem dX5_goThrough_161 : decode cX5_goThrough 161 = .ok (.isub, 1) := by decide +kernel
theorem dX5_goThrough_162 : decode cX5_goThrough 162 = .ok (.iaload, 1) := by decide +kernel
theorem dX5_goThrough_163 : decode cX5_goThrough 163 = .ok (.istore 8, 2) := by decide +kernel
theorem dX5_goThrough_165 : decode cX5_goThrough 165 = .ok (.aload_n 0, 1) := by decide +kernel
theorem dX5_goThrough_166 : decode cX5_goThrough 166 = .ok (.getfield 13, 3) := by decide +kernel
theorem dX5_goThrough_169 : decode cX5_goThrough 169 = .ok (.iload 4, 2) := by decide +kernel
theorem dX5_goThrough_171 : decode cX5_goThrough 171 = .ok (.iaload, 1) := by decide +kernel
theorem dX5_goThrough_172 : decode cX5_goThrough 172 = .ok (.istore 9, 2) := by decide +kernel
theorem dX5_goThrough_174 : decode cX5_goThrough 174 = .ok (.iload 6, 2) := by decide +kernel
theorem dX5_goThrough_176 : decode cX5_goThrough 176 = .ok (.iconst 2, 1) := by decide +kernel
theorem dX5_goThrough_177 : decode cX5_goThrough 177 = .ok (.if_icmp .ne 20, 3) := by decide +kernel
theorem dX5_goThrough_180 : decode cX5_goThrough 180 = .ok (.aload_n 0, 1) := by decide +kernel
theorem dX5_goThrough_181 : decode cX5_goThrough 181 = .ok (.getfield 13, 3) := by decide +kernel
theorem dX5_goThrough_184 : decode cX5_goThrough 184 = .ok (.iload 4, 2) := by decide +kernel
theorem dX5_goThrough_186 : decode cX5_goThrough 186 = .ok (.iconst 1, 1) := by decide +kernel
theorem dX5_goThrough_187 : decode cX5_goThrough 187 = .ok (.isub, 1) := by decide +kernel
theorem dX5_goThrough_188 : decode cX5_goThrough 188 = .ok (.iload 8, 2) := by decide +kernel
theorem dX5_goThrough_190 : decode cX5_goThrough 190 = .ok (.iload 9, 2) := by decide +kernel
theorem dX5_goThrough_192 : decode cX5_goThrough 192 = .ok (.iadd, 1) := by decide +kernel
theorem dX5_goThrough_193 : decode cX5_goThrough 193 = .ok (.iastore, 1) := by decide +kernel
theorem dX5_goThrough_194 : decode cX5_goThrough 194 = .ok (.goto 100, 3) := by decide +kernel
theorem dX5_goThrough_197 : decode cX5_goThrough 197 = .ok (.iload 6, 2) := by decide +kernel
theorem dX5_goThrough_199 : decode cX5_goThrough 199 = .ok (.iconst 3, 1) := by decide +kernel
theorem dX5_goThrough_200 : decode cX5_goThrough 200 = .ok (.if_icmp .ne 20, 3) := by decide +kernel
theorem dX5_goThrough_203 : decode cX5_goThrough 203 = .ok (.aload_n 0, 1) := by decide +kernel
theorem dX5_goThrough_204 : decode cX5_goThrough 204 = .ok (.getfield 13, 3) := by decide +kernel
theorem dX5_goThrough_207 : decode cX5_goThrough 207 = .ok (.iload 4, 2) := by decide +kernel
theorem dX5_goThrough_209 : decode cX5_goThrough 209 = .ok (.iconst 1, 1) := by decide +kernel
theorem dX5_goThrough_210 : decode cX5_goThrough 210 = .ok (.isub, 1) := by decide +kernel
theorem dX5_goThrough_211 : decode cX5_goThrough 211 = .ok (.iload 8, 2) := by decide +kernel
theorem dX5_goThrough_213 : decode cX5_goThrough 213 = .ok (.iload 9, 2) := by decide +kernel
theorem dX5_goThrough_215 : decode cX5_goThrough 215 = .ok (.isub, 1) := by decide +kernel
theorem dX5_goThrough_216 : decode cX5_goThrough 216 = .ok (.iastore, 1) := by decide +kernel
theorem dX5_goThrough_217 : decode cX5_goThrough 217 = .ok (.goto 77, 3) := by decide +kernel
theorem dX5_goThrough_220 : decode cX5_goThrough 220 = .ok (.iload 6, 2) := by decide +kernel
theorem dX5_goThrough_222 : decode cX5_goThrough 222 = .ok (.iconst 4, 1) := by decide +kernel
theorem dX5_goThrough_223 : decode cX5_goThrough 223 = .ok (.if_icmp .ne 20, 3) := by decide +kernel
theorem dX5_goThrough_226 : decode cX5_goThrough 226 = .ok (.aload_n 0, 1) := by decide +kernel
theorem dX5_goThrough_227 : decode cX5_goThrough 227 = .ok (.getfield 13, 3) := by decide +kernel
theorem dX5_goThrough_230 : decode cX5_goThrough 230 = .ok (.iload 4, 2) := by decide +kernel
theorem dX5_goThrough_232 : decode cX5_goThrough 232 = .ok (.iconst 1, 1) := by decide +kernel
theorem dX5_goThrough_233 : decode cX5_goThrough 233 = .ok (.isub, 1) := by decide +kernel
theorem dX5_goThrough_234 : decode cX5_goThrough 234 = .ok (.iload 8, 2) := by decide +kernel
theorem dX5_goThrough_236 : decode cX5_goThrough 236 = .ok (.iload 9, 2) := by decide +kernel
theorem dX5_goThrough_238 : decode cX5_goThrough 238 = .ok (.imul, 1) := by decide +kernel
theorem dX5_goThrough_239 : decode cX5_goThrough 239 = .ok (.iastore, 1) := by decide +kernel
theorem dX5_goThrough_240 : decode cX5_goThrough 240 = .ok (.goto 54, 3) := by decide +kernel
theorem dX5_goThrough_243 : decode cX5_goThrough 243 = .ok (.iload 6, 2) := by decide +kernel
theorem dX5_goThrough_245 : decode cX5_goThrough 245 = .ok (.bipush 6, 2) := by decide +kernel
theorem dX5_goThrough_247 : decode cX5_goThrough 247 = .ok (.if_icmp .ne 23, 3) := by decide +kernel
theorem dX5_goThrough_250 : decode cX5_goThrough 250 = .ok (.iinc 4 (-1), 3) := by decide +kernel
theorem dX5_goThrough_253 : decode cX5_goThrough 253 = .ok (.iload 8, 2) := by decide +kernel
theorem dX5_goThrough_255 : decode cX5_goThrough 255 = .ok (.iload 9, 2) := by decide +kernel
theorem dX5_goThrough_257 : decode cX5_goThrough 257 = .ok (.if_icmp .ge 7, 3) := by decide +kernel
theorem dX5_goThrough_260 : decode cX5_goThrough 260 = .ok (.iload_n 3, 1) := by decide +kernel
theorem dX5_goThrough_261 : decode cX5_goThrough 261 = .ok (.goto 5, 3) := by decide +kernel
theorem dX5_goThrough_264 : decode cX5_goThrough 264 = .ok (.iload 7, 2) := by decide +kernel
theorem dX5_goThrough_266 : decode cX5_goThrough 266 = .ok (.istore_n 3, 1) := by decide +kernel
theorem dX5_goThrough_267 : decode cX5_goThrough 267 = .ok (.goto 27, 3) := by decide +kernel
theorem dX5_goThrough_270 : decode cX5_goThrough 270 = .ok (.iload 9, 2) := by decide +kernel
theorem dX5_goThrough_272 : decode cX5_goThrough 272 = .ok (.ifCond .eq 20, 3) := by decide +kernel
theorem dX5_goThrough_275 : decode cX5_goThrough 275 = .ok (.aload_n 0, 1) := by decide +kernel
theorem dX5_goThrough_276 : decode cX5_goThrough 276 = .ok (.getfield 13, 3) := by decide +kernel
theorem dX5_goThrough_279 : decode cX5_goThrough 279 = .ok (.iload 4, 2) := by decide +kernel
theorem dX5_goThrough_281 : decode cX5_goThrough 281 = .ok (.iconst 1, 1) := by decide +kernel
theorem dX5_goThrough_282 : decode cX5_goThrough 282 = .ok (.isub, 1) := by decide +kernel
theorem dX5_goThrough_283 : decode cX5_goThrough 283 = .ok (.iload 8, 2) := by decide +kernel
theorem dX5_goThrough_285 : decode cX5_goThrough 285 = .ok (.iload 9, 2) := by decide +kernel
theorem dX5_goThrough_287 : decode cX5_goThrough 287 = .ok (.idiv, 1) := by decide +kernel
theorem dX5_goThrough_288 : decode cX5_goThrough 288 = .ok (.iastore, 1) := by decide +kernel
theorem dX5_goThrough_289 : decode cX5_goThrough 289 = .ok (.goto 5, 3) := by decide +kernel
theorem dX5_goThrough_292 : decode cX5_goThrough 292 = .ok (.iconst 0, 1) := by decide +kernel
theorem dX5_goThrough_293 : decode cX5_goThrough 293 = .ok (.ireturn, 1) := by decide +kernel
theorem dX5_goThrough_294 : decode cX5_goThrough 294 = .ok (.iinc 5 1, 3) := by decide +kernel
theorem dX5_goThrough_297 : decode cX5_goThrough 297 = .ok (.goto (-289), 3) := by decide +kernel
theorem dX5_goThrough_300 : decode cX5_goThrough 300 = .ok (.iconst 0, 1) := by decide +kernel
theorem dX5_goThrough_301 : decode cX5_goThrough 301 = .ok (.ireturn, 1) := by decide +kernel
theorem dX3_keptAsEntered_0 : decode cX3_keptAsEntered 0 = .ok (.aload_n 0, 1) := by decide +kernel
theorem dX3_keptAsEntered_1 : decode cX3_keptAsEntered 1 = .ok (.getfield 12, 3) := by decide +kernel
theorem dX3_keptAsEntered_4 : decode cX3_keptAsEntered 4 = .ok (.aload_n 0, 1) := by decide +kernel
theorem dX3_keptAsEntered_5 : decode cX3_keptAsEntered 5 = .ok (.getfield 22, 3) := by decide +kernel
theorem dX3_keptAsEntered_8 : decode cX3_keptAsEntered 8 = .ok (.aload_n 0, 1) := by decide +kernel
theorem dX3_keptAsEntered_9 : decode cX3_keptAsEntered 9 = .ok (.getfield 22, 3) := by decide +kernel
theorem dX3_keptAsEntered_12 : decode cX3_keptAsEntered 12 = .ok (.getfield 63, 3) := by decide +kernel
theorem dX3_keptAsEntered_15 : decode cX3_keptAsEntered 15 = .ok (.iload_n 1, 1) := by decide +kernel
theorem dX3_keptAsEntered_16 : decode cX3_keptAsEntered 16 = .ok (.iaload, 1) := by decide +kernel
theorem dX3_keptAsEntered_17 : decode cX3_keptAsEntered 17 = .ok (.invokevirtual 66, 3) := by decide +kernel
theorem dX3_keptAsEntered_20 : decode cX3_keptAsEntered 20 = .ok (.aload_n 0, 1) := by decide +kernel
theorem dX3_keptAsEntered_21 : decode cX3_keptAsEntered 21 = .ok (.getfield 12, 3) := by decide +kernel
theorem dX3_keptAsEntered_24 : decode cX3_keptAsEntered 24 = .ok (.aload_n 0, 1) := by decide +kernel
theorem dX3_keptAsEntered_25 : decode cX3_keptAsEntered 25 = .ok (.getfield 22, 3) := by decide +kernel
theorem dX3_keptAsEntered_28 : decode cX3_keptAsEntered 28 = .ok (.aload_n 0, 1) := by decide +kernel
theorem dX3_keptAsEntered_29 : decode cX3_keptAsEntered 29 = .ok (.getfield 22, 3) := by decide +kernel
theorem dX3_keptAsEntered_32 : decode cX3_keptAsEntered 32 = .ok (.getfield 70, 3) := by decide +kernel
theorem dX3_keptAsEntered_35 : decode cX3_keptAsEntered 35 = .ok (.iload_n 1, 1) := by decide +kernel
theorem dX3_keptAsEntered_36 : decode cX3_keptAsEntered 36 = .ok (.iaload, 1) := by decide +kernel
theorem dX3_keptAsEntered_37 : decode cX3_keptAsEntered 37 = .ok (.invokevirtual 66, 3) := by decide +kernel
theorem dX3_keptAsEntered_40 : decode cX3_keptAsEntered 40 = .ok (.if_icmp .ge 7, 3) := by decide +kernel
theorem dX3_keptAsEntered_43 : decode cX3_keptAsEntered 43 = .ok (.iconst 1, 1) := by decide +kernel
theorem dX3_keptAsEntered_44 : decode cX3_keptAsEntered 44 = .ok (.goto 4, 3) := by decide +kernel
theorem dX3_keptAsEntered_47 : decode cX3_keptAsEntered 47 = .ok (.iconst 0, 1) := by decide +kernel
theorem dX3_keptAsEntered_48 : decode cX3_keptAsEntered 48 = .ok (.ireturn, 1) := by decide +kernel
theorem dX3_brokenAsEntered_0 : decode cX3_brokenAsEntered 0 = .ok (.iconst 0, 1) := by decide +kernel
theorem dX3_brokenAsEntered_1 : decode cX3_brokenAsEntered 1 = .ok (.istore_n 2, 1) := by decide +kernel
theorem dX3_brokenAsEntered_2 : decode cX3_brokenAsEntered 2 = .ok (.iconst 0, 1) := by decide +kernel
theorem dX3_brokenAsEntered_3 : decode cX3_brokenAsEntered 3 = .ok (.istore_n 3, 1) := by decide +kernel
theorem dX3_brokenAsEntered_4 : decode cX3_brokenAsEntered 4 = .ok (.iload_n 3, 1) := by decide +kernel
theorem dX3_brokenAsEntered_5 : decode cX3_brokenAsEntered 5 = .ok (.aload_n 0, 1) := by decide +kernel
theorem dX3_brokenAsEntered_6 : decode cX3_brokenAsEntered 6 = .ok (.getfield 22, 3) := by decide +kernel
theorem dX3_brokenAsEntered_9 : decode cX3_brokenAsEntered 9 = .ok (.getfield 73, 3) := by decide +kernel
theorem dX3_brokenAsEntered_12 : decode cX3_brokenAsEntered 12 = .ok (.if_icmp .ge 32, 3) := by decide +kernel
theorem dX3_brokenAsEntered_15 : decode cX3_brokenAsEntered 15 = .ok (.iload_n 1, 1) := by decide +kernel
theorem dX3_brokenAsEntered_16 : decode cX3_brokenAsEntered 16 = .ok (.iload_n 3, 1) := by decide +kernel
theorem dX3_brokenAsEntered_17 : decode cX3_brokenAsEntered 17 = .ok (.ishr, 1) := by decide +kernel
theorem dX3_brokenAsEntered_18 : decode cX3_brokenAsEntered 18 = .ok (.iconst 1, 1) := by decide +kernel
theorem dX3_brokenAsEntered_19 : decode cX3_brokenAsEntered 19 = .ok (.iand, 1) := by decide +kernel
theorem dX3_brokenAsEntered_20 : decode cX3_brokenAsEntered 20 = .ok (.iconst 1, 1) := by decide +kernel
theorem dX3_brokenAsEntered_21 : decode cX3_brokenAsEntered 21 = .ok (.if_icmp .ne 17, 3) := by decide +kernel
theorem dX3_brokenAsEntered_24 : decode cX3_brokenAsEntered 24 = .ok (.aload_n 0, 1) := by decide +kernel
theorem dX3_brokenAsEntered_25 : decode cX3_brokenAsEntered 25 = .ok (.iload_n 3, 1) := by decide +kernel
theorem dX3_brokenAsEntered_26 : decode cX3_brokenAsEntered 26 = .ok (.invokevirtual 76, 3) := by decide +kernel
theorem dX3_brokenAsEntered_29 : decode cX3_brokenAsEntered 29 = .ok (.ifCond .ne 9, 3) := by decide +kernel
theorem dX3_brokenAsEntered_32 : decode cX3_brokenAsEntered 32 = .ok (.iload_n 2, 1) := by decide +kernel
theorem dX3_brokenAsEntered_33 : decode cX3_brokenAsEntered 33 = .ok (.iconst 1, 1) := by decide +kernel
theorem dX3_brokenAsEntered_34 : decode cX3_brokenAsEntered 34 = .ok (.iload_n 3, 1) := by decide +kernel
theorem dX3_brokenAsEntered_35 : decode cX3_brokenAsEntered 35 = .ok (.ishl, 1) := by decide +kernel
theorem dX3_brokenAsEntered_36 : decode cX3_brokenAsEntered 36 = .ok (.ior, 1) := by decide +kernel
theorem dX3_brokenAsEntered_37 : decode cX3_brokenAsEntered 37 = .ok (.istore_n 2, 1) := by decide +kernel
theorem dX3_brokenAsEntered_38 : decode cX3_brokenAsEntered 38 = .ok (.iinc 3 1, 3) := by decide +kernel
theorem dX3_brokenAsEntered_41 : decode cX3_brokenAsEntered 41 = .ok (.goto (-37), 3) := by decide +kernel
theorem dX3_brokenAsEntered_44 : decode cX3_brokenAsEntered 44 = .ok (.iload_n 2, 1) := by decide +kernel
theorem dX3_brokenAsEntered_45 : decode cX3_brokenAsEntered 45 = .ok (.ireturn, 1) := by decide +kernel
theorem dX3_termKept_0 : decode cX3_termKept 0 = .ok (.aload_n 0, 1) := by decide +kernel
theorem dX3_termKept_1 : decode cX3_termKept 1 = .ok (.aload_n 0, 1) := by decide +kernel
theorem dX3_termKept_2 : decode cX3_termKept 2 = .ok (.getfield 22, 3) := by decide +kernel
theorem dX3_termKept_5 : decode cX3_termKept 5 = .ok (.getfield 80, 3) := by decide +kernel
theorem dX3_termKept_8 : decode cX3_termKept 8 = .ok (.iload_n 1, 1) := by decide +kernel
theorem dX3_termKept_9 : decode cX3_termKept 9 = .ok (.iaload, 1) := by decide +kernel
theorem dX3_termKept_10 : decode cX3_termKept 10 = .ok (.iload_n 2, 1) := by decide +kernel
theorem dX3_termKept_11 : decode cX3_termKept 11 = .ok (.iconst (-1), 1) := by decide +kernel
theorem dX3_termKept_12 : decode cX3_termKept 12 = .ok (.invokevirtual 83, 3) := by decide +kernel
theorem dX3_termKept_15 : decode cX3_termKept 15 = .ok (.aload_n 0, 1) := by decide +kernel
theorem dX3_termKept_16 : decode cX3_termKept 16 = .ok (.iload_n 1, 1) := by decide +kernel
theorem dX3_termKept_17 : decode cX3_termKept 17 = .ok (.invokevirtual 76, 3) := by decide +kernel
theorem dX3_termKept_20 : decode cX3_termKept 20 = .ok (.ireturn, 1) := by decide +kernel
theorem dX8_termsOf_0 : decode cX8_termsOf 0 = .ok (.iconst 0, 1) := by decide +kernel
theorem dX8_termsOf_1 : decode cX8_termsOf 1 = .ok (.istore_n 2, 1) := by decide +kernel
theorem dX8_termsOf_2 : decode cX8_termsOf 2 = .ok (.iconst 0, 1) := by decide +kernel
theorem dX8_termsOf_3 : decode cX8_termsOf 3 = .ok (.istore_n 3, 1) := by decide +kernel
theorem dX8_termsOf_4 : decode cX8_termsOf 4 = .ok (.iload_n 3, 1) := by decide +kernel
theorem dX8_termsOf_5 : decode cX8_termsOf 5 = .ok (.aload_n 0, 1) := by decide +kernel
theorem dX8_termsOf_6 : decode cX8_termsOf 6 = .ok (.getfield 52, 3) := by decide +kernel
theorem dX8_termsOf_9 : decode cX8_termsOf 9 = .ok (.if_icmp .ge 25, 3) := by decide +kernel
theorem dX8_termsOf_12 : decode cX8_termsOf 12 = .ok (.aload_n 0, 1) := by decide +kernel
theorem dX8_termsOf_13 : decode cX8_termsOf 13 = .ok (.getfield 30, 3) := by decide +kernel
theorem dX8_termsOf_16 : decode cX8_termsOf 16 = .ok (.iload_n 3, 1) := by decide +kernel
theorem dX8_termsOf_17 : decode cX8_termsOf 17 = .ok (.iaload, 1) := by decide +kernel
theorem dX8_termsOf_18 : decode cX8_termsOf 18 = .ok (.iload_n 1, 1) := by decide +kernel
theorem dX8_termsOf_19 : decode cX8_termsOf 19 = .ok (.if_icmp .ne 9, 3) := by decide +kernel
theorem dX8_termsOf_22 : decode cX8_termsOf 22 = .ok (.iload_n 2, 1) := by decide +kernel
theorem dX8_termsOf_23 : decode cX8_termsOf 23 = .ok (.iconst 1, 1) := by decide +kernel
theorem dX8_termsOf_24 : decode cX8_termsOf 24 = .ok (.iload_n 3, 1) := by decide +kernel
theorem dX8_termsOf_25 : decode cX8_termsOf 25 = .ok (.ishl, 1) := by decide +kernel
theorem dX8_termsOf_26 : decode cX8_termsOf 26 = .ok (.ior, 1) := by decide +kernel
theorem dX8_termsOf_27 : decode cX8_termsOf 27 = .ok (.istore_n 2, 1) := by decide +kernel
theorem dX8_termsOf_28 : decode cX8_termsOf 28 = .ok (.iinc 3 1, 3) := by decide +kernel
theorem dX8_termsOf_31 : decode cX8_termsOf 31 = .ok (.goto (-27), 3) := by decide +kernel
theorem dX8_termsOf_34 : decode cX8_termsOf 34 = .ok (.iload_n 2, 1) := by decide +kernel
theorem dX8_termsOf_35 : decode cX8_termsOf 35 = .ok (.ireturn, 1) := by decide +kernel
theorem dX3_canHang_0 : decode cX3_canHang 0 = .ok (.aload_n 0, 1) := by decide +kernel
theorem dX3_canHang_1 : decode cX3_canHang 1 = .ok (.iload_n 1, 1) := by decide +kernel
theorem dX3_canHang_2 : decode cX3_canHang 2 = .ok (.iload_n 2, 1) := by decide +kernel
theorem dX3_canHang_3 : decode cX3_canHang 3 = .ok (.iconst (-1), 1) := by decide +kernel
theorem dX3_canHang_4 : decode cX3_canHang 4 = .ok (.invokevirtual 83, 3) := by decide +kernel
theorem dX3_canHang_7 : decode cX3_canHang 7 = .ok (.aload_n 0, 1) := by decide +kernel
theorem dX3_canHang_8 : decode cX3_canHang 8 = .ok (.getfield 12, 3) := by decide +kernel
theorem dX3_canHang_11 : decode cX3_canHang 11 = .ok (.getfield 26, 3) := by decide +kernel
theorem dX3_canHang_14 : decode cX3_canHang 14 = .ok (.iconst 4, 1) := by decide +kernel
theorem dX3_canHang_15 : decode cX3_canHang 15 = .ok (.iaload, 1) := by decide +kernel
theorem dX3_canHang_16 : decode cX3_canHang 16 = .ok (.aload_n 0, 1) := by decide +kernel
theorem dX3_canHang_17 : decode cX3_canHang 17 = .ok (.getfield 22, 3) := by decide +kernel
theorem dX3_canHang_20 : decode cX3_canHang 20 = .ok (.getfield 54, 3) := by decide +kernel
theorem dX3_canHang_23 : decode cX3_canHang 23 = .ok (.iload_n 2, 1) := by decide +kernel
theorem dX3_canHang_24 : decode cX3_canHang 24 = .ok (.iaload, 1) := by decide +kernel
theorem dX3_canHang_25 : decode cX3_canHang 25 = .ok (.if_icmp .ge 24, 3) := by decide +kernel
theorem dX3_canHang_28 : decode cX3_canHang 28 = .ok (.aload_n 0, 1) := by decide +kernel
theorem dX3_canHang_29 : decode cX3_canHang 29 = .ok (.aload_n 0, 1) := by decide +kernel
theorem dX3_canHang_30 : decode cX3_canHang 30 = .ok (.getfield 22, 3) := by decide +kernel
theorem dX3_canHang_33 : decode cX3_canHang 33 = .ok (.iload_n 1, 1) := by decide +kernel
theorem dX3_canHang_34 : decode cX3_canHang 34 = .ok (.invokevirtual 87, 3) := by decide +kernel
theorem dX3_canHang_37 : decode cX3_canHang 37 = .ok (.iload_n 3, 1) := by decide +kernel
theorem dX3_canHang_38 : decode cX3_canHang 38 = .ok (.iand, 1) := by decide +kernel
theorem dX3_canHang_39 : decode cX3_canHang 39 = .ok (.invokevirtual 90, 3) := by decide +kernel
theorem dX3_canHang_42 : decode cX3_canHang 42 = .ok (.ifCond .ne 7, 3) := by decide +kernel
theorem dX3_canHang_45 : decode cX3_canHang 45 = .ok (.iconst 1, 1) := by decide +kernel
theorem dX3_canHang_46 : decode cX3_canHang 46 = .ok (.goto 4, 3) := by decide +kernel
theorem dX3_canHang_49 : decode cX3_canHang 49 = .ok (.iconst 0, 1) := by decide +kernel
theorem dX3_canHang_50 : decode cX3_canHang 50 = .ok (.ireturn, 1) := by decide +kernel
theorem dX3_allWell_0 : decode cX3_allWell 0 = .ok (.iconst 0, 1) := by decide +kernel
theorem dX3_allWell_1 : decode cX3_allWell 1 = .ok (.istore_n 2, 1) := by decide +kernel
theorem dX3_allWell_2 : decode cX3_allWell 2 = .ok (.iload_n 2, 1) := by decide +kernel
theorem dX3_allWell_3 : decode cX3_allWell 3 = .ok (.aload_n 0, 1) := by decide +kernel
theorem dX3_allWell_4 : decode cX3_allWell 4 = .ok (.getfield 22, 3) := by decide +kernel
theorem dX3_allWell_7 : decode cX3_allWell 7 = .ok (.getfield 29, 3) := by decide +kernel
theorem dX3_allWell_10 : decode cX3_allWell 10 = .ok (.if_icmp .ge 36, 3) := by decide +kernel
theorem dX3_allWell_13 : decode cX3_allWell 13 = .ok (.aload_n 0, 1) := by decide +kernel
theorem dX3_allWell_14 : decode cX3_allWell 14 = .ok (.getfield 18, 3) := by decide +kernel
theorem dX3_allWell_17 : decode cX3_allWell 17 = .ok (.iload_n 2, 1) := by decide +kernel
theorem dX3_allWell_18 : decode cX3_allWell 18 = .ok (.iaload, 1) := by decide +kernel
theorem dX3_allWell_19 : decode cX3_allWell 19 = .ok (.iconst (-1), 1) := by decide +kernel
theorem dX3_allWell_20 : decode cX3_allWell 20 = .ok (.if_icmp .eq 20, 3) := by decide +kernel
theorem dX3_allWell_23 : decode cX3_allWell 23 = .ok (.aload_n 0, 1) := by decide +kernel
theorem dX3_allWell_24 : decode cX3_allWell 24 = .ok (.iload_n 2, 1) := by decide +kernel
theorem dX3_allWell_25 : decode cX3_allWell 25 = .ok (.aload_n 0, 1) := by decide +kernel
theorem dX3_allWell_26 : decode cX3_allWell 26 = .ok (.getfield 18, 3) := by decide +kernel
theorem dX3_allWell_29 : decode cX3_allWell 29 = .ok (.iload_n 2, 1) := by decide +kernel
theorem dX3_allWell_30 : decode cX3_allWell 30 = .ok (.iaload, 1) := by decide +kernel
theorem dX3_allWell_31 : decode cX3_allWell 31 = .ok (.iload_n 1, 1) := by decide +kernel
theorem dX3_allWell_32 : decode cX3_allWell 32 = .ok (.invokevirtual 93, 3) := by decide +kernel
theorem dX3_allWell_35 : decode cX3_allWell 35 = .ok (.ifCond .ne 5, 3) := by decide +kernel
theorem dX3_allWell_38 : decode cX3_allWell 38 = .ok (.iconst 0, 1) := by decide +kernel
theorem dX3_allWell_39 : decode cX3_allWell 39 = .ok (.ireturn, 1) := by decide +kernel
theorem dX3_allWell_40 : decode cX3_allWell 40 = .ok (.iinc 2 1, 3) := by decide +kernel
theorem dX3_allWell_43 : decode cX3_allWell 43 = .ok (.goto (-41), 3) := by decide +kernel
theorem dX3_allWell_46 : decode cX3_allWell 46 = .ok (.iconst 1, 1) := by decide +kernel
theorem dX3_allWell_47 : decode cX3_allWell 47 = .ok (.ireturn, 1) := by decide +kernel
theorem dX3_likingAsEntered_0 : decode cX3_likingAsEntered 0 = .ok (.iconst 0, 1) := by decide +kernel
theorem dX3_likingAsEntered_1 : decode cX3_likingAsEntered 1 = .ok (.bipush 99, 2) := by decide +kernel
theorem dX3_likingAsEntered_3 : decode cX3_likingAsEntered 3 = .ok (.aload_n 0, 1) := by decide +kernel
theorem dX3_likingAsEntered_4 : decode cX3_likingAsEntered 4 = .ok (.getfield 12, 3) := by decide +kernel
theorem dX3_likingAsEntered_7 : decode cX3_likingAsEntered 7 = .ok (.aload_n 0, 1) := by decide +kernel
theorem dX3_likingAsEntered_8 : decode cX3_likingAsEntered 8 = .ok (.getfield 22, 3) := by decide +kernel
theorem dX3_likingAsEntered_11 : decode cX3_likingAsEntered 11 = .ok (.aload_n 0, 1) := by decide +kernel
theorem dX3_likingAsEntered_12 : decode cX3_likingAsEntered 12 = .ok (.getfield 22, 3) := by decide +kernel
theorem dX3_likingAsEntered_15 : decode cX3_likingAsEntered 15 = .ok (.getfield 101, 3) := by decide +kernel
theorem dX3_likingAsEntered_18 : decode cX3_likingAsEntered 18 = .ok (.invokevirtual 66, 3) := by decide +kernel
theorem dX3_likingAsEntered_21 : decode cX3_likingAsEntered 21 = .ok (.invokestatic 104, 3) := by decide +kernel
theorem dX3_likingAsEntered_24 : decode cX3_likingAsEntered 24 = .ok (.invokestatic 110, 3) := by decide +kernel
theorem dX3_likingAsEntered_27 : decode cX3_likingAsEntered 27 = .ok (.ireturn, 1) := by decide +kernel
theorem dX3_liking_0 : decode cX3_liking 0 = .ok (.aload_n 0, 1) := by decide +kernel
theorem dX3_liking_1 : decode cX3_liking 1 = .ok (.iload_n 2, 1) := by decide +kernel
theorem dX3_liking_2 : decode cX3_liking 2 = .ok (.iload_n 1, 1) := by decide +kernel
theorem dX3_liking_3 : decode cX3_liking 3 = .ok (.iload_n 3, 1) := by decide +kernel
theorem dX3_liking_4 : decode cX3_liking 4 = .ok (.invokevirtual 83, 3) := by decide +kernel
theorem dX3_liking_7 : decode cX3_liking 7 = .ok (.aload_n 0, 1) := by decide +kernel
theorem dX3_liking_8 : decode cX3_liking 8 = .ok (.invokevirtual 97, 3) := by decide +kernel
theorem dX3_liking_11 : decode cX3_liking 11 = .ok (.ireturn, 1) := by decide +kernel
theorem dX3_likingAlone_0 : decode cX3_likingAlone 0 = .ok (.aload_n 0, 1) := by decide +kernel
theorem dX3_likingAlone_1 : decode cX3_likingAlone 1 = .ok (.iload_n 2, 1) := by decide +kernel
theorem dX3_likingAlone_2 : decode cX3_likingAlone 2 = .ok (.iload_n 1, 1) := by decide +kernel
theorem dX3_likingAlone_3 : decode cX3_likingAlone 3 = .ok (.iconst 0, 1) := by decide +kernel
theorem dX3_likingAlone_4 : decode cX3_likingAlone 4 = .ok (.iconst 0, 1) := by decide +kernel
theorem dX3_likingAlone_5 : decode cX3_likingAlone 5 = .ok (.invokevirtual 47, 3) := by decide +kernel
theorem dX3_likingAlone_8 : decode cX3_likingAlone 8 = .ok (.aload_n 0, 1) := by decide +kernel
theorem dX3_likingAlone_9 : decode cX3_likingAlone 9 = .ok (.invokevirtual 97, 3) := by decide +kernel
theorem dX3_likingAlone_12 : decode cX3_likingAlone 12 = .ok (.ireturn, 1) := by decide +kernel
theorem dX3_journey_0 : decode cX3_journey 0 = .ok (.aload_n 0, 1) := by decide +kernel
theorem dX3_journey_1 : decode cX3_journey 1 = .ok (.iload_n 1, 1) := by decide +kernel
theorem dX3_journey_2 : decode cX3_journey 2 = .ok (.iload_n 2, 1) := by decide +kernel
theorem dX3_journey_3 : decode cX3_journey 3 = .ok (.iconst 0, 1) := by decide +kernel
theorem dX3_journey_4 : decode cX3_journey 4 = .ok (.iconst 0, 1) := by decide +kernel
theorem dX3_journey_5 : decode cX3_journey 5 = .ok (.invokevirtual 47, 3) := by decide +kernel
theorem dX3_journey_8 : decode cX3_journey 8 = .ok (.iconst 1, 1) := by decide +kernel
theorem dX3_journey_9 : decode cX3_journey 9 = .ok (.bipush 99, 2) := by decide +kernel
theorem dX3_journey_11 : decode cX3_journey 11 = .ok (.aload_n 0, 1) := by decide +kernel
theorem dX3_journey_12 : decode cX3_journey 12 = .ok (.getfield 12, 3) := by decide +kernel
theorem dX3_journey_15 : decode cX3_journey 15 = .ok (.aload_n 0, 1) := by decide +kernel
theorem dX3_journey_16 : decode cX3_journey 16 = .ok (.getfield 22, 3) := by decide +kernel
theorem dX3_journey_19 : decode cX3_journey 19 = .ok (.aload_n 0, 1) := by decide +kernel
theorem dX3_journey_20 : decode cX3_journey 20 = .ok (.getfield 22, 3) := by decide +kernel
theorem dX3_journey_23 : decode cX3_journey 23 = .ok (.getfield 113, 3) := by decide +kernel
theorem dX3_journey_26 : decode cX3_journey 26 = .ok (.invokevirtual 66, 3) := by decide +kernel
theorem dX3_journey_29 : decode cX3_journey 29 = .ok (.invokestatic 104, 3) := by decide +kernel
theorem dX3_journey_32 : decode cX3_journey 32 = .ok (.invokestatic 110, 3) := by decide +kernel
theorem dX3_journey_35 : decode cX3_journey 35 = .ok (.ireturn, 1) := by decide +kernel
theorem dX4_begin_0 : decode cX4_begin 0 = .ok (.aload_n 0, 1) := by decide +kernel
theorem dX4_begin_1 : decode cX4_begin 1 = .ok (.getfield 11, 3) := by decide +kernel
theorem dX4_begin_4 : decode cX4_begin 4 = .ok (.iconst 0, 1) := by decide +kernel
theorem dX4_begin_5 : decode cX4_begin 5 = .ok (.invokestatic 15, 3) := by decide +kernel
theorem dX4_begin_8 : decode cX4_begin 8 = .ok (.iconst 0, 1) := by decide +kernel
theorem dX4_begin_9 : decode cX4_begin 9 = .ok (.istore_n 2, 1) := by decide +kernel
theorem dX4_begin_10 : decode cX4_begin 10 = .ok (.iload_n 2, 1) := by decide +kernel
theorem dX4_begin_11 : decode cX4_begin 11 = .ok (.aload_n 1, 1) := by decide +kernel
theorem dX4_begin_12 : decode cX4_begin 12 = .ok (.getfield 21, 3) := by decide +kernel
theorem dX4_begin_15 : decode cX4_begin 15 = .ok (.if_icmp .ge 23, 3) := by decide +kernel
theorem dX4_begin_18 : decode cX4_begin 18 = .ok (.aload_n 0, 1) := by decide +kernel
theorem dX4_begin_19 : decode cX4_begin 19 = .ok (.getfield 11, 3) := by decide +kernel
theorem dX4_begin_22 : decode cX4_begin 22 = .ok (.iconst 4, 1) := by decide +kernel
theorem dX4_begin_23 : decode cX4_begin 23 = .ok (.iload_n 2, 1) := by decide +kernel
theorem dX4_begin_24 : decode cX4_begin 24 = .ok (.iadd, 1) := by decide +kernel
theorem dX4_begin_25 : decode cX4_begin 25 = .ok (.aload_n 1, 1) := by decide +kernel
theorem dX4_begin_26 : decode cX4_begin 26 = .ok (.getfield 27, 3) := by decide +kernel
theorem dX4_begin_29 : decode cX4_begin 29 = .ok (.iload_n 2, 1) := by decide +kernel
theorem dX4_begin_30 : decode cX4_begin 30 = .ok (.iaload, 1) := by decide +kernel
theorem dX4_begin_31 : decode cX4_begin 31 = .ok (.iastore, 1) := by decide +kernel
theorem dX4_begin_32 : decode cX4_begin 32 = .ok (.iinc 2 1, 3) := by decide +kernel
theorem dX4_begin_35 : decode cX4_begin 35 = .ok (.goto (-25), 3) := by decide +kernel
theorem dX4_begin_38 : decode cX4_begin 38 = .ok (.return_, 1) := by decide +kernel
theorem dX4_today_0 : decode cX4_today 0 = .ok (.aload_n 0, 1) := by decide +kernel
theorem dX4_today_1 : decode cX4_today 1 = .ok (.getfield 11, 3) := by decide +kernel
theorem dX4_today_4 : decode cX4_today 4 = .ok (.iconst 0, 1) := by decide +kernel
theorem dX4_today_5 : decode cX4_today 5 = .ok (.iaload, 1) := by decide +kernel
theorem dX4_today_6 : decode cX4_today 6 = .ok (.ireturn, 1) := by decide +kernel
theorem dX4_tripsSoFar_0 : decode cX4_tripsSoFar 0 = .ok (.aload_n 0, 1) := by decide +kernel
theorem dX4_tripsSoFar_1 : decode cX4_tripsSoFar 1 = .ok (.getfield 11, 3) := by decide +kernel
theorem dX4_tripsSoFar_4 : decode cX4_tripsSoFar 4 = .ok (.iconst 1, 1) := by decide +kernel
theorem dX4_tripsSoFar_5 : decode cX4_tripsSoFar 5 = .ok (.iaload, 1) := by decide +kernel
theorem dX4_tripsSoFar_6 : decode cX4_tripsSoFar 6 = .ok (.ireturn, 1) := by decide +kernel
theorem dX4_underWay_0 : decode cX4_underWay 0 = .ok (.aload_n 0, 1) := by decide +kernel
theorem dX4_underWay_1 : decode cX4_underWay 1 = .ok (.iload_n 1, 1) := by decide +kernel
theorem dX4_underWay_2 : decode cX4_underWay 2 = .ok (.invokevirtual 30, 3) := by decide +kernel
theorem dX4_underWay_5 : decode cX4_underWay 5 = .ok (.aload_n 0, 1) := by decide +kernel
theorem dX4_underWay_6 : decode cX4_underWay 6 = .ok (.invokevirtual 34, 3) := by decide +kernel
theorem dX4_underWay_9 : decode cX4_underWay 9 = .ok (.if_icmp .le 7, 3) := by decide +kernel
theorem dX4_underWay_12 : decode cX4_underWay 12 = .ok (.iconst 1, 1) := by decide +kernel
theorem dX4_underWay_13 : decode cX4_underWay 13 = .ok (.goto 4, 3) := by decide +kernel
theorem dX4_underWay_16 : decode cX4_underWay 16 = .ok (.iconst 0, 1) := by decide +kernel
theorem dX4_underWay_17 : decode cX4_underWay 17 = .ok (.ireturn, 1) := by decide +kernel
theorem dX4_isIn_0 : decode cX4_isIn 0 = .ok (.aload_n 0, 1) := by decide +kernel
theorem dX4_isIn_1 : decode cX4_isIn 1 = .ok (.iload_n 1, 1) := by decide +kernel
theorem dX4_isIn_2 : decode cX4_isIn 2 = .ok (.invokevirtual 38, 3) := by decide +kernel
theorem dX4_isIn_5 : decode cX4_isIn 5 = .ok (.iload_n 2, 1) := by decide +kernel
theorem dX4_isIn_6 : decode cX4_isIn 6 = .ok (.if_icmp .ne 15, 3) := by decide +kernel
theorem dX4_isIn_9 : decode cX4_isIn 9 = .ok (.aload_n 0, 1) := by decide +kernel
theorem dX4_isIn_10 : decode cX4_isIn 10 = .ok (.iload_n 1, 1) := by decide +kernel
theorem dX4_isIn_11 : decode cX4_isIn 11 = .ok (.invokevirtual 41, 3) := by decide +kernel
theorem dX4_isIn_14 : decode cX4_isIn 14 = .ok (.ifCond .ne 7, 3) := by decide +kernel
theorem dX4_isIn_17 : decode cX4_isIn 17 = .ok (.iconst 1, 1) := by decide +kernel
theorem dX4_isIn_18 : decode cX4_isIn 18 = .ok (.goto 4, 3) := by decide +kernel
theorem dX4_isIn_21 : decode cX4_isIn 21 = .ok (.iconst 0, 1) := by decide +kernel
theorem dX4_isIn_22 : decode cX4_isIn 22 = .ok (.ireturn, 1) := by decide +kernel
theorem dX4_depart_0 : decode cX4_depart 0 = .ok (.aload_n 0, 1) := by decide +kernel
theorem dX4_depart_1 : decode cX4_depart 1 = .ok (.getfield 11, 3) := by decide +kernel
theorem dX4_depart_4 : decode cX4_depart 4 = .ok (.bipush 22, 2) := by decide +kernel
theorem dX4_depart_6 : decode cX4_depart 6 = .ok (.aload_n 0, 1) := by decide +kernel
theorem dX4_depart_7 : decode cX4_depart 7 = .ok (.iload_n 1, 1) := by decide +kernel
theorem dX4_depart_8 : decode cX4_depart 8 = .ok (.invokevirtual 38, 3) := by decide +kernel
theorem dX4_depart_11 : decode cX4_depart 11 = .ok (.iconst 5, 1) := by decide +kernel
theorem dX4_depart_12 : decode cX4_depart 12 = .ok (.imul, 1) := by decide +kernel
theorem dX4_depart_13 : decode cX4_depart 13 = .ok (.iadd, 1) := by decide +kernel
theorem dX4_depart_14 : decode cX4_depart 14 = .ok (.iload_n 2, 1) := by decide +kernel
theorem dX4_depart_15 : decode cX4_depart 15 = .ok (.iadd, 1) := by decide +kernel
theorem dX4_depart_16 : decode cX4_depart 16 = .ok (.dup2, 1) := by decide +kernel
theorem dX4_depart_17 : decode cX4_depart 17 = .ok (.iaload, 1) := by decide +kernel
theorem dX4_depart_18 : decode cX4_depart 18 = .ok (.iconst 1, 1) := by decide +kernel
theorem dX4_depart_19 : decode cX4_depart 19 = .ok (.iadd, 1) := by decide +kernel
theorem dX4_depart_20 : decode cX4_depart 20 = .ok (.iastore, 1) := by decide +kernel
theorem dX4_depart_21 : decode cX4_depart 21 = .ok (.aload_n 0, 1) := by decide +kernel
theorem dX4_depart_22 : decode cX4_depart 22 = .ok (.getfield 11, 3) := by decide +kernel
theorem dX4_depart_25 : decode cX4_depart 25 = .ok (.iconst 4, 1) := by decide +kernel
theorem dX4_depart_26 : decode cX4_depart 26 = .ok (.iload_n 1, 1) := by decide +kernel
theorem dX4_depart_27 : decode cX4_depart 27 = .ok (.iadd, 1) := by decide +kernel
theorem dX4_depart_28 : decode cX4_depart 28 = .ok (.iload_n 2, 1) := by decide +kernel
theorem dX4_depart_29 : decode cX4_depart 29 = .ok (.iastore, 1) := by decide +kernel
theorem dX4_depart_30 : decode cX4_depart 30 = .ok (.aload_n 0, 1) := by decide +kernel
theorem dX4_depart_31 : decode cX4_depart 31 = .ok (.getfield 11, 3) := by decide +kernel
theorem dX4_depart_34 : decode cX4_depart 34 = .ok (.bipush 10, 2) := by decide +kernel
theorem dX4_depart_36 : decode cX4_depart 36 = .ok (.iload_n 1, 1) := by decide +kernel
theorem dX4_depart_37 : decode cX4_depart 37 = .ok (.iadd, 1) := by decide +kernel
theorem dX4_depart_38 : decode cX4_depart 38 = .ok (.aload_n 0, 1) := by decide +kernel
theorem dX4_depart_39 : decode cX4_depart 39 = .ok (.invokevirtual 34, 3) := by decide +kernel
theorem dX4_depart_42 : decode cX4_depart 42 = .ok (.iload_n 3, 1) := by decide +kernel
theorem dX4_depart_43 : decode cX4_depart 43 = .ok (.iadd, 1) := by decide +kernel
theorem dX4_depart_44 : decode cX4_depart 44 = .ok (.iastore, 1) := by decide +kernel
theorem dX4_depart_45 : decode cX4_depart 45 = .ok (.aload_n 0, 1) := by decide +kernel
theorem dX4_depart_46 : decode cX4_depart 46 = .ok (.getfield 11, 3) := by decide +kernel
theorem dX4_depart_49 : decode cX4_depart 49 = .ok (.bipush 16, 2) := by decide +kernel
theorem dX4_depart_51 : decode cX4_depart 51 = .ok (.iload_n 1, 1) := by decide +kernel
theorem dX4_depart_52 : decode cX4_depart 52 = .ok (.iadd, 1) := by decide +kernel
theorem dX4_depart_53 : decode cX4_depart 53 = .ok (.dup2, 1) := by decide +kernel
theorem dX4_depart_54 : decode cX4_depart 54 = .ok (.iaload, 1) := by decide +kernel
theorem dX4_depart_55 : decode cX4_depart 55 = .ok (.iconst 1, 1) := by decide +kernel
theorem dX4_depart_56 : decode cX4_depart 56 = .ok (.iadd, 1) := by decide +kernel
theorem dX4_depart_57 : decode cX4_depart 57 = .ok (.iastore, 1) := by decide +kernel
theorem dX4_depart_58 : decode cX4_depart 58 = .ok (.aload_n 0, 1) := by decide +kernel
theorem dX4_depart_59 : decode cX4_depart 59 = .ok (.getfield 11, 3) := by decide +kernel
theorem dX4_depart_62 : decode cX4_depart 62 = .ok (.iconst 1, 1) := by decide +kernel
theorem dX4_depart_63 : decode cX4_depart 63 = .ok (.dup2, 1) := by decide +kernel
theorem dX4_depart_64 : decode cX4_depart 64 = .ok (.iaload, 1) := by decide +kernel
theorem dX4_depart_65 : decode cX4_depart 65 = .ok (.iconst 1, 1) := by decide +kernel
theorem dX4_depart_66 : decode cX4_depart 66 = .ok (.iadd, 1) := by decide +kernel
theorem dX4_depart_67 : decode cX4_depart 67 = .ok (.iastore, 1) := by decide +kernel
theorem dX4_depart_68 : decode cX4_depart 68 = .ok (.iload 4, 2) := by decide +kernel
theorem dX4_depart_70 : decode cX4_depart 70 = .ok (.ifCond .eq 13, 3) := by decide +kernel
theorem dX4_depart_73 : decode cX4_depart 73 = .ok (.aload_n 0, 1) := by decide +kernel
theorem dX4_depart_74 : decode cX4_depart 74 = .ok (.getfield 11, 3) := by decide +kernel
theorem dX4_depart_77 : decode cX4_depart 77 = .ok (.iconst 2, 1) := by decide +kernel
theorem dX4_depart_78 : decode cX4_depart 78 = .ok (.dup2, 1) := by decide +kernel
theorem dX4_depart_79 : decode cX4_depart 79 = .ok (.iaload, 1) := by decide +kernel
theorem dX4_depart_80 : decode cX4_depart 80 = .ok (.iconst 1, 1) := by decide +kernel
theorem dX4_depart_81 : decode cX4_depart 81 = .ok (.iadd, 1) := by decide +kernel
theorem dX4_depart_82 : decode cX4_depart 82 = .ok (.iastore, 1) := by decide +kernel
theorem dX4_depart_83 : decode cX4_depart 83 = .ok (.return_, 1) := by decide +kernel
theorem dX6_step_0 : decode cX6_step 0 = .ok (.iload_n 0, 1) := by decide +kernel
theorem dX6_step_1 : decode cX6_step 1 = .ok (.ifCond .lt 19, 3) := by decide +kernel
theorem dX6_step_4 : decode cX6_step 4 = .ok (.iload_n 0, 1) := by decide +kernel
theorem dX6_step_5 : decode cX6_step 5 = .ok (.bipush 6, 2) := by decide +kernel
theorem dX6_step_7 : decode cX6_step 7 = .ok (.if_icmp .ge 13, 3) := by decide +kernel
theorem dX6_step_10 : decode cX6_step 10 = .ok (.getstatic 48, 3) := by decide +kernel
theorem dX6_step_13 : decode cX6_step 13 = .ok (.iload_n 0, 1) := by decide +kernel
theorem dX6_step_14 : decode cX6_step 14 = .ok (.iaload, 1) := by decide +kernel
theorem dX6_step_15 : decode cX6_step 15 = .ok (.iload_n 1, 1) := by decide +kernel
theorem dX6_step_16 : decode cX6_step 16 = .ok (.imul, 1) := by decide +kernel
theorem dX6_step_17 : decode cX6_step 17 = .ok (.goto 4, 3) := by decide +kernel
theorem dX6_step_20 : decode cX6_step 20 = .ok (.iconst 0, 1) := by decide +kernel
theorem dX6_step_21 : decode cX6_step 21 = .ok (.ireturn, 1) := by decide +kernel
theorem dX6_roomyRows_0 : decode cX6_roomyRows 0 = .ok (.aload_n 0, 1) := by decide +kernel
theorem dX6_roomyRows_1 : decode cX6_roomyRows 1 = .ok (.getfield 11, 3) := by decide +kernel
theorem dX6_roomyRows_4 : decode cX6_roomyRows 4 = .ok (.areturn, 1) := by decide +kernel
theorem dX6_keptRows_0 : decode cX6_keptRows 0 = .ok (.aload_n 0, 1) := by decide +kernel
theorem dX6_keptRows_1 : decode cX6_keptRows 1 = .ok (.getfield 15, 3) := by decide +kernel
theorem dX6_keptRows_4 : decode cX6_keptRows 4 = .ok (.areturn, 1) := by decide +kernel
theorem dX6_rowsKept_0 : decode cX6_rowsKept 0 = .ok (.aload_n 0, 1) := by decide +kernel
theorem dX6_rowsKept_1 : decode cX6_rowsKept 1 = .ok (.getfield 51, 3) := by decide +kernel
theorem dX6_rowsKept_4 : decode cX6_rowsKept 4 = .ok (.ireturn, 1) := by decide +kernel
theorem dX6_fewestElsewhere_0 : decode cX6_fewestElsewhere 0 = .ok (.aload_n 0, 1) := by decide +kernel
theorem dX6_fewestElsewhere_1 : decode cX6_fewestElsewhere 1 = .ok (.getfield 55, 3) := by decide +kernel
theorem dX6_fewestElsewhere_4 : decode cX6_fewestElsewhere 4 = .ok (.ireturn, 1) := by decide +kernel
theorem dX6_nearHouse_0 : decode cX6_nearHouse 0 = .ok (.aload_n 0, 1) := by decide +kernel
theorem dX6_nearHouse_1 : decode cX6_nearHouse 1 = .ok (.getfield 25, 3) := by decide +kernel
theorem dX6_nearHouse_4 : decode cX6_nearHouse 4 = .ok (.iload_n 1, 1) := by decide +kernel
theorem dX6_nearHouse_5 : decode cX6_nearHouse 5 = .ok (.iaload, 1) := by decide +kernel
theorem dX6_nearHouse_6 : decode cX6_nearHouse 6 = .ok (.ireturn, 1) := by decide +kernel
theorem dX6_brokenAt_0 : decode cX6_brokenAt 0 = .ok (.iload_n 0, 1) := by decide +kernel
theorem dX6_brokenAt_1 : decode cX6_brokenAt 1 = .ok (.iconst 5, 1) := by decide +kernel
theorem dX6_brokenAt_2 : decode cX6_brokenAt 2 = .ok (.imul, 1) := by decide +kernel
theorem dX6_brokenAt_3 : decode cX6_brokenAt 3 = .ok (.iload_n 1, 1) := by decide +kernel
theorem dX6_brokenAt_4 : decode cX6_brokenAt 4 = .ok (.iadd, 1) := by decide +kernel
theorem dX6_brokenAt_5 : decode cX6_brokenAt 5 = .ok (.bipush 6, 2) := by decide +kernel
theorem dX6_brokenAt_7 : decode cX6_brokenAt 7 = .ok (.imul, 1) := by decide +kernel
theorem dX6_brokenAt_8 : decode cX6_brokenAt 8 = .ok (.iload_n 2, 1) := by decide +kernel
theorem dX6_brokenAt_9 : decode cX6_brokenAt 9 = .ok (.iadd, 1) := by decide +kernel
theorem dX6_brokenAt_10 : decode cX6_brokenAt 10 = .ok (.bipush 6, 2) := by decide +kernel
theorem dX6_brokenAt_12 : decode cX6_brokenAt 12 = .ok (.imul, 1) := by decide +kernel
theorem dX6_brokenAt_13 : decode cX6_brokenAt 13 = .ok (.iload_n 3, 1) := by decide +kernel
theorem dX6_brokenAt_14 : decode cX6_brokenAt 14 = .ok (.iadd, 1) := by decide +kernel
theorem dX6_brokenAt_15 : decode cX6_brokenAt 15 = .ok (.ireturn, 1) := by decide +kernel
theorem dX6_fillBroken_0 : decode cX6_fillBroken 0 = .ok (.iconst 0, 1) := by decide +kernel
theorem dX6_fillBroken_1 : decode cX6_fillBroken 1 = .ok (.istore_n 3, 1) := by decide +kernel
theorem dX6_fillBroken_2 : decode cX6_fillBroken 2 = .ok (.iconst 0, 1) := by decide +kernel
theorem dX6_fillBroken_3 : decode cX6_fillBroken 3 = .ok (.istore 4, 2) := by decide +kernel
theorem dX6_fillBroken_5 : decode cX6_fillBroken 5 = .ok (.iload 4, 2) := by decide +kernel
theorem dX6_fillBroken_7 : decode cX6_fillBroken 7 = .ok (.aload_n 0, 1) := by decide +kernel
theorem dX6_fillBroken_8 : decode cX6_fillBroken 8 = .ok (.getfield 47, 3) := by decide +kernel
theorem dX6_fillBroken_11 : decode cX6_fillBroken 11 = .ok (.getfield 74, 3) := by decide +kernel
theorem dX6_fillBroken_14 : decode cX6_fillBroken 14 = .ok (.if_icmp .ge 40, 3) := by decide +kernel
theorem dX6_fillBroken_17 : decode cX6_fillBroken 17 = .ok (.iload 4, 2) := by decide +kernel
theorem dX6_fillBroken_19 : decode cX6_fillBroken 19 = .ok (.iload_n 1, 1) := by decide +kernel
theorem dX6_fillBroken_20 : decode cX6_fillBroken 20 = .ok (.if_icmp .eq 28, 3) := by decide +kernel
theorem dX6_fillBroken_23 : decode cX6_fillBroken 23 = .ok (.aload_n 0, 1) := by decide +kernel
theorem dX6_fillBroken_24 : decode cX6_fillBroken 24 = .ok (.getfield 47, 3) := by decide +kernel
theorem dX6_fillBroken_27 : decode cX6_fillBroken 27 = .ok (.getfield 91, 3) := by decide +kernel
theorem dX6_fillBroken_30 : decode cX6_fillBroken 30 = .ok (.iload 4, 2) := by decide +kernel
theorem dX6_fillBroken_32 : decode cX6_fillBroken 32 = .ok (.iaload, 1) := by decide +kernel
theorem dX6_fillBroken_33 : decode cX6_fillBroken 33 = .ok (.aload_n 0, 1) := by decide +kernel
theorem dX6_fillBroken_34 : decode cX6_fillBroken 34 = .ok (.getfield 47, 3) := by decide +kernel
theorem dX6_fillBroken_37 : decode cX6_fillBroken 37 = .ok (.getfield 91, 3) := by decide +kernel
theorem dX6_fillBroken_40 : decode cX6_fillBroken 40 = .ok (.iload_n 1, 1) := by decide +kernel
theorem dX6_fillBroken_41 : decode cX6_fillBroken 41 = .ok (.iaload, 1) := by decide +kernel
theorem dX6_fillBroken_42 : decode cX6_fillBroken 42 = .ok (.if_icmp .ne 6, 3) := by decide +kernel
theorem dX6_fillBroken_45 : decode cX6_fillBroken 45 = .ok (.iinc 3 1, 3) := by decide +kernel
theorem dX6_fillBroken_48 : decode cX6_fillBroken 48 = .ok (.iinc 4 1, 3) := by decide +kernel
theorem dX6_fillBroken_51 : decode cX6_fillBroken 51 = .ok (.goto (-46), 3) := by decide +kernel
theorem dX6_fillBroken_54 : decode cX6_fillBroken 54 = .ok (.iconst 0, 1) := by decide +kernel
theorem dX6_fillBroken_55 : decode cX6_fillBroken 55 = .ok (.istore 4, 2) := by decide +kernel
theorem dX6_fillBroken_57 : decode cX6_fillBroken 57 = .ok (.iload 4, 2) := by decide +kernel
theorem dX6_fillBroken_59 : decode cX6_fillBroken 59 = .ok (.aload_n 0, 1) := by decide +kernel
theorem dX6_fillBroken_60 : decode cX6_fillBroken 60 = .ok (.getfield 47, 3) := by decide +kernel
theorem dX6_fillBroken_63 : decode cX6_fillBroken 63 = .ok (.getfield 94, 3) := by decide +kernel
theorem dX6_fillBroken_66 : decode cX6_fillBroken 66 = .ok (.if_icmp .ge 104, 3) := by decide +kernel
theorem dX6_fillBroken_69 : decode cX6_fillBroken 69 = .ok (.aload_n 0, 1) := by decide +kernel
theorem dX6_fillBroken_70 : decode cX6_fillBroken 70 = .ok (.getfield 47, 3) := by decide +kernel
theorem dX6_fillBroken_73 : decode cX6_fillBroken 73 = .ok (.getfield 74, 3) := by decide +kernel
theorem dX6_fillBroken_76 : decode cX6_fillBroken 76 = .ok (.aload_n 0, 1) := by decide +kernel
theorem dX6_fillBroken_77 : decode cX6_fillBroken 77 = .ok (.getfield 47, 3) := by decide +kernel
theorem dX6_fillBroken_80 : decode cX6_fillBroken 80 = .ok (.getfield 97, 3) := by decide +kernel
theorem dX6_fillBroken_83 : decode cX6_fillBroken 83 = .ok (.iload 4, 2) := by decide +kernel
theorem dX6_fillBroken_85 : decode cX6_fillBroken 85 = .ok (.iaload, 1) := by decide +kernel
theorem dX6_fillBroken_86 : decode cX6_fillBroken 86 = .ok (.invokestatic 100, 3) := by decide +kernel
theorem dX6_fillBroken_89 : decode cX6_fillBroken 89 = .ok (.istore 5, 2) := by decide +kernel
theorem dX6_fillBroken_91 : decode cX6_fillBroken 91 = .ok (.iconst 0, 1) := by decide +kernel
theorem dX6_fillBroken_92 : decode cX6_fillBroken 92 = .ok (.istore 6, 2) := by decide +kernel
theorem dX6_fillBroken_94 : decode cX6_fillBroken 94 = .ok (.iload 6, 2) := by decide +kernel
theorem dX6_fillBroken_96 : decode cX6_fillBroken 96 = .ok (.iload 5, 2) := by decide +kernel
theorem dX6_fillBroken_98 : decode cX6_fillBroken 98 = .ok (.if_icmp .ge 66, 3) := by decide +kernel
theorem dX6_fillBroken_101 : decode cX6_fillBroken 101 = .ok (.iconst 0, 1) := by decide +kernel
theorem dX6_fillBroken_102 : decode cX6_fillBroken 102 = .ok (.istore 7, 2) := by decide +kernel
theorem dX6_fillBroken_104 : decode cX6_fillBroken 104 = .ok (.iload 7, 2) := by decide +kernel
theorem dX6_fillBroken_106 : decode cX6_fillBroken 106 = .ok (.iload_n 3, 1) := by decide +kernel
theorem dX6_fillBroken_107 : decode cX6_fillBroken 107 = .ok (.iload 6, 2) := by decide +kernel
theorem dX6_fillBroken_109 : decode cX6_fillBroken 109 = .ok (.invokestatic 100, 3) := by decide +kernel
theorem dX6_fillBroken_112 : decode cX6_fillBroken 112 = .ok (.if_icmp .gt 46, 3) := by decide +kernel
theorem dX6_fillBroken_115 : decode cX6_fillBroken 115 = .ok (.aload_n 0, 1) := by decide +kernel
theorem dX6_fillBroken_116 : decode cX6_fillBroken 116 = .ok (.getfield 37, 3) := by decide +kernel
theorem dX6_fillBroken_119 : decode cX6_fillBroken 119 = .ok (.iload_n 1, 1) := by decide +kernel
theorem dX6_fillBroken_120 : decode cX6_fillBroken 120 = .ok (.iload 4, 2) := by decide +kernel
theorem dX6_fillBroken_122 : decode cX6_fillBroken 122 = .ok (.iload 6, 2) := by decide +kernel
theorem dX6_fillBroken_124 : decode cX6_fillBroken 124 = .ok (.iload 7, 2) := by decide +kernel
theorem dX6_fillBroken_126 : decode cX6_fillBroken 126 = .ok (.invokevirtual 106, 3) := by decide +kernel
theorem dX6_fillBroken_129 : decode cX6_fillBroken 129 = .ok (.aload_n 0, 1) := by decide +kernel
theorem dX6_fillBroken_130 : decode cX6_fillBroken 130 = .ok (.getfield 18, 3) := by decide +kernel
theorem dX6_fillBroken_133 : decode cX6_fillBroken 133 = .ok (.iload_n 1, 1) := by decide +kernel
theorem dX6_fillBroken_134 : decode cX6_fillBroken 134 = .ok (.iload 4, 2) := by decide +kernel
theorem dX6_fillBroken_136 : decode cX6_fillBroken 136 = .ok (.iload 6, 2) := by decide +kernel
theorem dX6_fillBroken_138 : decode cX6_fillBroken 138 = .ok (.iload 7, 2) := by decide +kernel
theorem dX6_fillBroken_140 : decode cX6_fillBroken 140 = .ok (.invokestatic 110, 3) := by decide +kernel
theorem dX6_fillBroken_143 : decode cX6_fillBroken 143 = .ok (.aload_n 0, 1) := by decide +kernel
theorem dX6_fillBroken_144 : decode cX6_fillBroken 144 = .ok (.getfield 37, 3) := by decide +kernel
theorem dX6_fillBroken_147 : decode cX6_fillBroken 147 = .ok (.iload_n 2, 1) := by decide +kernel
theorem dX6_fillBroken_148 : decode cX6_fillBroken 148 = .ok (.invokevirtual 114, 3) := by decide +kernel
theorem dX6_fillBroken_151 : decode cX6_fillBroken 151 = .ok (.iastore, 1) := by decide +kernel
theorem dX6_fillBroken_152 : decode cX6_fillBroken 152 = .ok (.iinc 7 1, 3) := by decide +kernel
theorem dX6_fillBroken_155 : decode cX6_fillBroken 155 = .ok (.goto (-51), 3) := by decide +kernel
theorem dX6_fillBroken_158 : decode cX6_fillBroken 158 = .ok (.iinc 6 1, 3) := by decide +kernel
theorem dX6_fillBroken_161 : decode cX6_fillBroken 161 = .ok (.goto (-67), 3) := by decide +kernel
theorem dX6_fillBroken_164 : decode cX6_fillBroken 164 = .ok (.iinc 4 1, 3) := by decide +kernel
theorem dX6_fillBroken_167 : decode cX6_fillBroken 167 = .ok (.goto (-110), 3) := by decide +kernel
theorem dX6_fillBroken_170 : decode cX6_fillBroken 170 = .ok (.return_, 1) := by decide +kernel
theorem dX6_brokenInRow_0 : decode cX6_brokenInRow 0 = .ok (.iconst 0, 1) := by decide +kernel
theorem dX6_brokenInRow_1 : decode cX6_brokenInRow 1 = .ok (.istore_n 1, 1) := by decide +kernel
theorem dX6_brokenInRow_2 : decode cX6_brokenInRow 2 = .ok (.iconst 0, 1) := by decide +kernel
theorem dX6_brokenInRow_3 : decode cX6_brokenInRow 3 = .ok (.istore_n 2, 1) := by decide +kernel
theorem dX6_brokenInRow_4 : decode cX6_brokenInRow 4 = .ok (.iload_n 2, 1) := by decide +kernel
theorem dX6_brokenInRow_5 : decode cX6_brokenInRow 5 = .ok (.aload_n 0, 1) := by decide +kernel
theorem dX6_brokenInRow_6 : decode cX6_brokenInRow 6 = .ok (.getfield 71, 3) := by decide +kernel
theorem dX6_brokenInRow_9 : decode cX6_brokenInRow 9 = .ok (.if_icmp .ge 73, 3) := by decide +kernel
theorem dX6_brokenInRow_12 : decode cX6_brokenInRow 12 = .ok (.aload_n 0, 1) := by decide +kernel
theorem dX6_brokenInRow_13 : decode cX6_brokenInRow 13 = .ok (.getfield 34, 3) := by decide +kernel
theorem dX6_brokenInRow_16 : decode cX6_brokenInRow 16 = .ok (.iload_n 2, 1) := by decide +kernel
theorem dX6_brokenInRow_17 : decode cX6_brokenInRow 17 = .ok (.iaload, 1) := by decide +kernel
theorem dX6_brokenInRow_18 : decode cX6_brokenInRow 18 = .ok (.istore_n 3, 1) := by decide +kernel
theorem dX6_brokenInRow_19 : decode cX6_brokenInRow 19 = .ok (.aload_n 0, 1) := by decide +kernel
theorem dX6_brokenInRow_20 : decode cX6_brokenInRow 20 = .ok (.getfield 22, 3) := by decide +kernel
theorem dX6_brokenInRow_23 : decode cX6_brokenInRow 23 = .ok (.iload_n 3, 1) := by decide +kernel
theorem dX6_brokenInRow_24 : decode cX6_brokenInRow 24 = .ok (.iaload, 1) := by decide +kernel
theorem dX6_brokenInRow_25 : decode cX6_brokenInRow 25 = .ok (.istore 4, 2) := by decide +kernel
theorem dX6_brokenInRow_27 : decode cX6_brokenInRow 27 = .ok (.aload_n 0, 1) := by decide +kernel
theorem dX6_brokenInRow_28 : decode cX6_brokenInRow 28 = .ok (.getfield 31, 3) := by decide +kernel
theorem dX6_brokenInRow_31 : decode cX6_brokenInRow 31 = .ok (.iload 4, 2) := by decide +kernel
theorem dX6_brokenInRow_33 : decode cX6_brokenInRow 33 = .ok (.bipush 10, 2) := by decide +kernel
theorem dX6_brokenInRow_35 : decode cX6_brokenInRow 35 = .ok (.imul, 1) := by decide +kernel
theorem dX6_brokenInRow_36 : decode cX6_brokenInRow 36 = .ok (.aload_n 0, 1) := by decide +kernel
theorem dX6_brokenInRow_37 : decode cX6_brokenInRow 37 = .ok (.getfield 47, 3) := by decide +kernel
theorem dX6_brokenInRow_40 : decode cX6_brokenInRow 40 = .ok (.getfield 91, 3) := by decide +kernel
theorem dX6_brokenInRow_43 : decode cX6_brokenInRow 43 = .ok (.iload_n 3, 1) := by decide +kernel
theorem dX6_brokenInRow_44 : decode cX6_brokenInRow 44 = .ok (.iaload, 1) := by decide +kernel
theorem dX6_brokenInRow_45 : decode cX6_brokenInRow 45 = .ok (.iadd, 1) := by decide +kernel
theorem dX6_brokenInRow_46 : decode cX6_brokenInRow 46 = .ok (.iaload, 1) := by decide +kernel
theorem dX6_brokenInRow_47 : decode cX6_brokenInRow 47 = .ok (.iconst 1, 1) := by decide +kernel
theorem dX6_brokenInRow_48 : decode cX6_brokenInRow 48 = .ok (.isub, 1) := by decide +kernel
theorem dX6_brokenInRow_49 : decode cX6_brokenInRow 49 = .ok (.istore 5, 2) := by decide +kernel
theorem dX6_brokenInRow_51 : decode cX6_brokenInRow 51 = .ok (.iload_n 1, 1) := by decide +kernel
theorem dX6_brokenInRow_52 : decode cX6_brokenInRow 52 = .ok (.aload_n 0, 1) := by decide +kernel
theorem dX6_brokenInRow_53 : decode cX6_brokenInRow 53 = .ok (.getfield 18, 3) := by decide +kernel
theorem dX6_brokenInRow_56 : decode cX6_brokenInRow 56 = .ok (.iload_n 3, 1) := by decide +kernel
theorem dX6_brokenInRow_57 : decode cX6_brokenInRow 57 = .ok (.iload 4, 2) := by decide +kernel
theorem dX6_brokenInRow_59 : decode cX6_brokenInRow 59 = .ok (.aload_n 0, 1) := by decide +kernel
theorem dX6_brokenInRow_60 : decode cX6_brokenInRow 60 = .ok (.getfield 28, 3) := by decide +kernel
theorem dX6_brokenInRow_63 : decode cX6_brokenInRow 63 = .ok (.iload 4, 2) := by decide +kernel
theorem dX6_brokenInRow_65 : decode cX6_brokenInRow 65 = .ok (.iaload, 1) := by decide +kernel
theorem dX6_brokenInRow_66 : decode cX6_brokenInRow 66 = .ok (.iconst 1, 1) := by decide +kernel
theorem dX6_brokenInRow_67 : decode cX6_brokenInRow 67 = .ok (.isub, 1) := by decide +kernel
theorem dX6_brokenInRow_68 : decode cX6_brokenInRow 68 = .ok (.iload 5, 2) := by decide +kernel
theorem dX6_brokenInRow_70 : decode cX6_brokenInRow 70 = .ok (.invokestatic 110, 3) := by decide +kernel
theorem dX6_brokenInRow_73 : decode cX6_brokenInRow 73 = .ok (.iaload, 1) := by decide +kernel
theorem dX6_brokenInRow_74 : decode cX6_brokenInRow 74 = .ok (.ior, 1) := by decide +kernel
theorem dX6_brokenInRow_75 : decode cX6_brokenInRow 75 = .ok (.istore_n 1, 1) := by decide +kernel
theorem dX6_brokenInRow_76 : decode cX6_brokenInRow 76 = .ok (.iinc 2 1, 3) := by decide +kernel
theorem dX6_brokenInRow_79 : decode cX6_brokenInRow 79 = .ok (.goto (-75), 3) := by decide +kernel
theorem dX6_brokenInRow_82 : decode cX6_brokenInRow 82 = .ok (.iload_n 1, 1) := by decide +kernel
theorem dX6_brokenInRow_83 : decode cX6_brokenInRow 83 = .ok (.ireturn, 1) := by decide +kernel
theorem dX6_keepRow_0 : decode cX6_keepRow 0 = .ok (.aload_n 0, 1) := by decide +kernel
theorem dX6_keepRow_1 : decode cX6_keepRow 1 = .ok (.invokevirtual 123, 3) := by decide +kernel
theorem dX6_keepRow_4 : decode cX6_keepRow 4 = .ok (.istore_n 3, 1) := by decide +kernel
theorem dX6_keepRow_5 : decode cX6_keepRow 5 = .ok (.aload_n 0, 1) := by decide +kernel
theorem dX6_keepRow_6 : decode cX6_keepRow 6 = .ok (.dup, 1) := by decide +kernel
theorem dX6_keepRow_7 : decode cX6_keepRow 7 = .ok (.getfield 67, 3) := by decide +kernel
theorem dX6_keepRow_10 : decode cX6_keepRow 10 = .ok (.lconst 1, 1) := by decide +kernel
theorem dX6_keepRow_11 : decode cX6_keepRow 11 = .ok (.iload_n 3, 1) := by decide +kernel
theorem dX6_keepRow_12 : decode cX6_keepRow 12 = .ok (.lshl, 1) := by decide +kernel
theorem dX6_keepRow_13 : decode cX6_keepRow 13 = .ok (.lor, 1) := by decide +kernel
theorem dX6_keepRow_14 : decode cX6_keepRow 14 = .ok (.putfield 67, 3) := by decide +kernel
theorem dX6_keepRow_17 : decode cX6_keepRow 17 = .ok (.iload_n 1, 1) := by decide +kernel
theorem dX6_keepRow_18 : decode cX6_keepRow 18 = .ok (.bipush 6, 2) := by decide +kernel
theorem dX6_keepRow_20 : decode cX6_keepRow 20 = .ok (.ishr, 1) := by decide +kernel
theorem dX6_keepRow_21 : decode cX6_keepRow 21 = .ok (.istore 4, 2) := by decide +kernel
theorem dX6_keepRow_23 : decode cX6_keepRow 23 = .ok (.iload 4, 2) := by decide +kernel
theorem dX6_keepRow_25 : decode cX6_keepRow 25 = .ok (.ifCond .lt 11, 3) := by decide +kernel
theorem dX6_keepRow_28 : decode cX6_keepRow 28 = .ok (.iload 4, 2) := by decide +kernel
theorem dX6_keepRow_30 : decode cX6_keepRow 30 = .ok (.sipush 625, 3) := by decide +kernel
theorem dX6_keepRow_33 : decode cX6_keepRow 33 = .ok (.if_icmp .lt 4, 3) := by decide +kernel
theorem dX6_keepRow_36 : decode cX6_keepRow 36 = .ok (.return_, 1) := by decide +kernel
theorem dX6_keepRow_37 : decode cX6_keepRow 37 = .ok (.lconst 1, 1) := by decide +kernel
theorem dX6_keepRow_38 : decode cX6_keepRow 38 = .ok (.iload_n 1, 1) := by decide +kernel
theorem dX6_keepRow_39 : decode cX6_keepRow 39 = .ok (.bipush 63, 2) := by decide +kernel
theorem dX6_keepRow_41 : decode cX6_keepRow 41 = .ok (.iand, 1) := by decide +kernel
theorem dX6_keepRow_42 : decode cX6_keepRow 42 = .ok (.lshl, 1) := by decide +kernel
theorem dX6_keepRow_43 : decode cX6_keepRow 43 = .ok (.lstore 5, 2) := by decide +kernel
theorem dX6_keepRow_45 : decode cX6_keepRow 45 = .ok (.aload_n 0, 1) := by decide +kernel
theorem dX6_keepRow_46 : decode cX6_keepRow 46 = .ok (.getfield 11, 3) := by decide +kernel
theorem dX6_keepRow_49 : decode cX6_keepRow 49 = .ok (.iload 4, 2) := by decide +kernel
theorem dX6_keepRow_51 : decode cX6_keepRow 51 = .ok (.dup2, 1) := by decide +kernel
theorem dX6_keepRow_52 : decode cX6_keepRow 52 = .ok (.laload, 1) := by decide +kernel
theorem dX6_keepRow_53 : decode cX6_keepRow 53 = .ok (.lload 5, 2) := by decide +kernel
theorem dX6_keepRow_55 : decode cX6_keepRow 55 = .ok (.lor, 1) := by decide +kernel
theorem dX6_keepRow_56 : decode cX6_keepRow 56 = .ok (.lastore, 1) := by decide +kernel
theorem dX6_keepRow_57 : decode cX6_keepRow 57 = .ok (.iload_n 3, 1) := by decide +kernel
theorem dX6_keepRow_58 : decode cX6_keepRow 58 = .ok (.ifCond .eq 4, 3) := by decide +kernel
theorem dX6_keepRow_61 : decode cX6_keepRow 61 = .ok (.return_, 1) := by decide +kernel
theorem dX6_keepRow_62 : decode cX6_keepRow 62 = .ok (.aload_n 0, 1) := by decide +kernel
theorem dX6_keepRow_63 : decode cX6_keepRow 63 = .ok (.getfield 15, 3) := by decide +kernel
theorem dX6_keepRow_66 : decode cX6_keepRow 66 = .ok (.iload 4, 2) := by decide +kernel
theorem dX6_keepRow_68 : decode cX6_keepRow 68 = .ok (.dup2, 1) := by decide +kernel
theorem dX6_keepRow_69 : decode cX6_keepRow 69 = .ok (.laload, 1) := by decide +kernel
theorem dX6_keepRow_70 : decode cX6_keepRow 70 = .ok (.lload 5, 2) := by decide +kernel
theorem dX6_keepRow_72 : decode cX6_keepRow 72 = .ok (.lor, 1) := by decide +kernel
theorem dX6_keepRow_73 : decode cX6_keepRow 73 = .ok (.lastore, 1) := by decide +kernel
theorem dX6_keepRow_74 : decode cX6_keepRow 74 = .ok (.aload_n 0, 1) := by decide +kernel
theorem dX6_keepRow_75 : decode cX6_keepRow 75 = .ok (.dup, 1) := by decide +kernel
theorem dX6_keepRow_76 : decode cX6_keepRow 76 = .ok (.getfield 51, 3) := by decide +kernel
theorem dX6_keepRow_79 : decode cX6_keepRow 79 = .ok (.iconst 1, 1) := by decide +kernel
theorem dX6_keepRow_80 : decode cX6_keepRow 80 = .ok (.iadd, 1) := by decide +kernel
theorem dX6_keepRow_81 : decode cX6_keepRow 81 = .ok (.putfield 51, 3) := by decide +kernel
theorem dX6_keepRow_84 : decode cX6_keepRow 84 = .ok (.iload_n 2, 1) := by decide +kernel
theorem dX6_keepRow_85 : decode cX6_keepRow 85 = .ok (.aload_n 0, 1) := by decide +kernel
theorem dX6_keepRow_86 : decode cX6_keepRow 86 = .ok (.getfield 55, 3) := by decide +kernel
theorem dX6_keepRow_89 : decode cX6_keepRow 89 = .ok (.if_icmp .ge 23, 3) := by decide +kernel
theorem dX6_keepRow_92 : decode cX6_keepRow 92 = .ok (.aload_n 0, 1) := by decide +kernel
theorem dX6_keepRow_93 : decode cX6_keepRow 93 = .ok (.iload_n 2, 1) := by decide +kernel
theorem dX6_keepRow_94 : decode cX6_keepRow 94 = .ok (.putfield 55, 3) := by decide +kernel
theorem dX6_keepRow_97 : decode cX6_keepRow 97 = .ok (.aload_n 0, 1) := by decide +kernel
theorem dX6_keepRow_98 : decode cX6_keepRow 98 = .ok (.getfield 22, 3) := by decide +kernel
theorem dX6_keepRow_101 : decode cX6_keepRow 101 = .ok (.iconst 0, 1) := by decide +kernel
theorem dX6_keepRow_102 : decode cX6_keepRow 102 = .ok (.aload_n 0, 1) := by decide +kernel
theorem dX6_keepRow_103 : decode cX6_keepRow 103 = .ok (.getfield 25, 3) := by decide +kernel
theorem dX6_keepRow_106 : decode cX6_keepRow 106 = .ok (.iconst 0, 1) := by decide +kernel
theorem dX6_keepRow_107 : decode cX6_keepRow 107 = .ok (.bipush 6, 2) := by decide +kernel
theorem dX6_keepRow_109 : decode cX6_keepRow 109 = .ok (.invokestatic 127, 3) := by decide +kernel
theorem dX6_keepRow_112 : decode cX6_keepRow 112 = .ok (.return_, 1) := by decide +kernel
theorem dX6_hang_0 : decode cX6_hang 0 = .ok (.iload_n 1, 1) := by decide +kernel
theorem dX6_hang_1 : decode cX6_hang 1 = .ok (.aload_n 0, 1) := by decide +kernel
theorem dX6_hang_2 : decode cX6_hang 2 = .ok (.getfield 47, 3) := by decide +kernel
theorem dX6_hang_5 : decode cX6_hang 5 = .ok (.getfield 74, 3) := by decide +kernel
theorem dX6_hang_8 : decode cX6_hang 8 = .ok (.if_icmp .ge 9, 3) := by decide +kernel
theorem dX6_hang_11 : decode cX6_hang 11 = .ok (.iload_n 1, 1) := by decide +kernel
theorem dX6_hang_12 : decode cX6_hang 12 = .ok (.bipush 6, 2) := by decide +kernel
theorem dX6_hang_14 : decode cX6_hang 14 = .ok (.if_icmp .lt 10, 3) := by decide +kernel
theorem dX6_hang_17 : decode cX6_hang 17 = .ok (.aload_n 0, 1) := by decide +kernel
theorem dX6_hang_18 : decode cX6_hang 18 = .ok (.iload_n 2, 1) := by decide +kernel
theorem dX6_hang_19 : decode cX6_hang 19 = .ok (.iload_n 3, 1) := by decide +kernel
theorem dX6_hang_20 : decode cX6_hang 20 = .ok (.invokevirtual 117, 3) := by decide +kernel
theorem dX6_hang_23 : decode cX6_hang 23 = .ok (.return_, 1) := by decide +kernel
theorem dX6_hang_24 : decode cX6_hang 24 = .ok (.aload_n 0, 1) := by decide +kernel
theorem dX6_hang_25 : decode cX6_hang 25 = .ok (.getfield 47, 3) := by decide +kernel
theorem dX6_hang_28 : decode cX6_hang 28 = .ok (.getfield 91, 3) := by decide +kernel
theorem dX6_hang_31 : decode cX6_hang 31 = .ok (.iload_n 1, 1) := by decide +kernel
theorem dX6_hang_32 : decode cX6_hang 32 = .ok (.iaload, 1) := by decide +kernel
theorem dX6_hang_33 : decode cX6_hang 33 = .ok (.istore 4, 2) := by decide +kernel
theorem dX6_hang_35 : decode cX6_hang 35 = .ok (.iconst 0, 1) := by decide +kernel
theorem dX6_hang_36 : decode cX6_hang 36 = .ok (.istore 5, 2) := by decide +kernel
theorem dX6_hang_38 : decode cX6_hang 38 = .ok (.iload 5, 2) := by decide +kernel
theorem dX6_hang_40 : decode cX6_hang 40 = .ok (.aload_n 0, 1) := by decide +kernel
theorem dX6_hang_41 : decode cX6_hang 41 = .ok (.getfield 47, 3) := by decide +kernel
theorem dX6_hang_44 : decode cX6_hang 44 = .ok (.getfield 94, 3) := by decide +kernel
theorem dX6_hang_47 : decode cX6_hang 47 = .ok (.if_icmp .ge 130, 3) := by decide +kernel
theorem dX6_hang_50 : decode cX6_hang 50 = .ok (.aload_n 0, 1) := by decide +kernel
theorem dX6_hang_51 : decode cX6_hang 51 = .ok (.getfield 28, 3) := by decide +kernel
theorem dX6_hang_54 : decode cX6_hang 54 = .ok (.iload 5, 2) := by decide +kernel
theorem dX6_hang_56 : decode cX6_hang 56 = .ok (.iaload, 1) := by decide +kernel
theorem dX6_hang_57 : decode cX6_hang 57 = .ok (.aload_n 0, 1) := by decide +kernel
theorem dX6_hang_58 : decode cX6_hang 58 = .ok (.getfield 47, 3) := by decide +kernel
theorem dX6_hang_61 : decode cX6_hang 61 = .ok (.getfield 97, 3) := by decide +kernel
theorem dX6_hang_64 : decode cX6_hang 64 = .ok (.iload 5, 2) := by decide +kernel
theorem dX6_hang_66 : decode cX6_hang 66 = .ok (.iaload, 1) := by decide +kernel
theorem dX6_hang_67 : decode cX6_hang 67 = .ok (.if_icmp .ge 104, 3) := by decide +kernel
theorem dX6_hang_70 : decode cX6_hang 70 = .ok (.aload_n 0, 1) := by decide +kernel
theorem dX6_hang_71 : decode cX6_hang 71 = .ok (.getfield 22, 3) := by decide +kernel
theorem dX6_hang_74 : decode cX6_hang 74 = .ok (.iload_n 1, 1) := by decide +kernel
theorem dX6_hang_75 : decode cX6_hang 75 = .ok (.iload 5, 2) := by decide +kernel
theorem dX6_hang_77 : decode cX6_hang 77 = .ok (.iastore, 1) := by decide +kernel
theorem dX6_hang_78 : decode cX6_hang 78 = .ok (.aload_n 0, 1) := by decide +kernel
theorem dX6_hang_79 : decode cX6_hang 79 = .ok (.getfield 28, 3) := by decide +kernel
theorem dX6_hang_82 : decode cX6_hang 82 = .ok (.iload 5, 2) := by decide +kernel
theorem dX6_hang_84 : decode cX6_hang 84 = .ok (.dup2, 1) := by decide +kernel
theorem dX6_hang_85 : decode cX6_hang 85 = .ok (.iaload, 1) := by decide +kernel
theorem dX6_hang_86 : decode cX6_hang 86 = .ok (.iconst 1, 1) := by decide +kernel
theorem dX6_hang_87 : decode cX6_hang 87 = .ok (.iadd, 1) := by decide +kernel
theorem dX6_hang_88 : decode cX6_hang 88 = .ok (.iastore, 1) := by decide +kernel
theorem dX6_hang_89 : decode cX6_hang 89 = .ok (.aload_n 0, 1) := by decide +kernel
theorem dX6_hang_90 : decode cX6_hang 90 = .ok (.getfield 31, 3) := by decide +kernel
theorem dX6_hang_93 : decode cX6_hang 93 = .ok (.iload 5, 2) := by decide +kernel
theorem dX6_hang_95 : decode cX6_hang 95 = .ok (.bipush 10, 2) := by decide +kernel
theorem dX6_hang_97 : decode cX6_hang 97 = .ok (.imul, 1) := by decide +kernel
theorem dX6_hang_98 : decode cX6_hang 98 = .ok (.iload 4, 2) := by decide +kernel
theorem dX6_hang_100 : decode cX6_hang 100 = .ok (.iadd, 1) := by decide +kernel
theorem dX6_hang_101 : decode cX6_hang 101 = .ok (.dup2, 1) := by decide +kernel
theorem dX6_hang_102 : decode cX6_hang 102 = .ok (.iaload, 1) := by decide +kernel
theorem dX6_hang_103 : decode cX6_hang 103 = .ok (.iconst 1, 1) := by decide +kernel
theorem dX6_hang_104 : decode cX6_hang 104 = .ok (.iadd, 1) := by decide +kernel
theorem dX6_hang_105 : decode cX6_hang 105 = .ok (.iastore, 1) := by decide +kernel
theorem dX6_hang_106 : decode cX6_hang 106 = .ok (.aload_n 0, 1) := by decide +kernel
theorem dX6_hang_107 : decode cX6_hang 107 = .ok (.iload_n 1, 1) := by decide +kernel
theorem dX6_hang_108 : decode cX6_hang 108 = .ok (.iconst 1, 1) := by decide +kernel
theorem dX6_hang_109 : decode cX6_hang 109 = .ok (.iadd, 1) := by decide +kernel
theorem dX6_hang_110 : decode cX6_hang 110 = .ok (.iload_n 2, 1) := by decide +kernel
theorem dX6_hang_111 : decode cX6_hang 111 = .ok (.getstatic 48, 3) := by decide +kernel
theorem dX6_hang_114 : decode cX6_hang 114 = .ok (.iload_n 1, 1) := by decide +kernel
theorem dX6_hang_115 : decode cX6_hang 115 = .ok (.iaload, 1) := by decide +kernel
theorem dX6_hang_116 : decode cX6_hang 116 = .ok (.iload 5, 2) := by decide +kernel
theorem dX6_hang_118 : decode cX6_hang 118 = .ok (.imul, 1) := by decide +kernel
theorem dX6_hang_119 : decode cX6_hang 119 = .ok (.iadd, 1) := by decide +kernel
theorem dX6_hang_120 : decode cX6_hang 120 = .ok (.aload_n 0, 1) := by decide +kernel
theorem dX6_hang_121 : decode cX6_hang 121 = .ok (.getfield 37, 3) := by decide +kernel
theorem dX6_hang_124 : decode cX6_hang 124 = .ok (.iload_n 1, 1) := by decide +kernel
theorem dX6_hang_125 : decode cX6_hang 125 = .ok (.invokevirtual 120, 3) := by decide +kernel
theorem dX6_hang_128 : decode cX6_hang 128 = .ok (.iload 5, 2) := by decide +kernel
theorem dX6_hang_130 : decode cX6_hang 130 = .ok (.if_icmp .ne 7, 3) := by decide +kernel
theorem dX6_hang_133 : decode cX6_hang 133 = .ok (.iload_n 3, 1) := by decide +kernel
theorem dX6_hang_134 : decode cX6_hang 134 = .ok (.goto 6, 3) := by decide +kernel
theorem dX6_hang_137 : decode cX6_hang 137 = .ok (.iload_n 3, 1) := by decide +kernel
theorem dX6_hang_138 : decode cX6_hang 138 = .ok (.iconst 1, 1) := by decide +kernel
theorem dX6_hang_139 : decode cX6_hang 139 = .ok (.iadd, 1) := by decide +kernel
theorem dX6_hang_140 : decode cX6_hang 140 = .ok (.invokevirtual 87, 3) := by decide +kernel
theorem dX6_hang_143 : decode cX6_hang 143 = .ok (.aload_n 0, 1) := by decide +kernel
theorem dX6_hang_144 : decode cX6_hang 144 = .ok (.getfield 28, 3) := by decide +kernel
theorem dX6_hang_147 : decode cX6_hang 147 = .ok (.iload 5, 2) := by decide +kernel
theorem dX6_hang_149 : decode cX6_hang 149 = .ok (.dup2, 1) := by decide +kernel
theorem dX6_hang_150 : decode cX6_hang 150 = .ok (.iaload, 1) := by decide +kernel
theorem dX6_hang_151 : decode cX6_hang 151 = .ok (.iconst 1, 1) := by decide +kernel
theorem dX6_hang_152 : decode cX6_hang 152 = .ok (.isub, 1) := by decide +kernel
theorem dX6_hang_153 : decode cX6_hang 153 = .ok (.iastore, 1) := by decide +kernel
theorem dX6_hang_154 : decode cX6_hang 154 = .ok (.aload_n 0, 1) := by decide +kernel
theorem dX6_hang_155 : decode cX6_hang 155 = .ok (.getfield 31, 3) := by decide +kernel
theorem dX6_hang_158 : decode cX6_hang 158 = .ok (.iload 5, 2) := by decide +kernel
theorem dX6_hang_160 : decode cX6_hang 160 = .ok (.bipush 10, 2) := by decide +kernel
theorem dX6_hang_162 : decode cX6_hang 162 = .ok (.imul, 1) := by decide +kernel
theorem dX6_hang_163 : decode cX6_hang 163 = .ok (.iload 4, 2) := by decide +kernel
theorem dX6_hang_165 : decode cX6_hang 165 = .ok (.iadd, 1) := by decide +kernel
theorem dX6_hang_166 : decode cX6_hang 166 = .ok (.dup2, 1) := by decide +kernel
theorem dX6_hang_167 : decode cX6_hang 167 = .ok (.iaload, 1) := by decide +kernel
theorem dX6_hang_168 : decode cX6_hang 168 = .ok (.iconst 1, 1) := by decide +kernel
theorem dX6_hang_169 : decode cX6_hang 169 = .ok (.isub, 1) := by decide +kernel
theorem dX6_hang_170 : decode cX6_hang 170 = .ok (.iastore, 1) := by decide +kernel
theorem dX6_hang_171 : decode cX6_hang 171 = .ok (.iinc 5 1, 3) := by decide +kernel
theorem dX6_hang_174 : decode cX6_hang 174 = .ok (.goto (-136), 3) := by decide +kernel
theorem dX6_hang_177 : decode cX6_hang 177 = .ok (.return_, 1) := by decide +kernel
theorem dX6_make_0 : decode cX6_make 0 = .ok (.aload_n 0, 1) := by decide +kernel
theorem dX6_make_1 : decode cX6_make 1 = .ok (.aload_n 1, 1) := by decide +kernel
theorem dX6_make_2 : decode cX6_make 2 = .ok (.putfield 47, 3) := by decide +kernel
theorem dX6_make_5 : decode cX6_make 5 = .ok (.aload_n 0, 1) := by decide +kernel
theorem dX6_make_6 : decode cX6_make 6 = .ok (.iload_n 2, 1) := by decide +kernel
theorem dX6_make_7 : decode cX6_make 7 = .ok (.putfield 58, 3) := by decide +kernel
theorem dX6_make_10 : decode cX6_make 10 = .ok (.aload_n 0, 1) := by decide +kernel
theorem dX6_make_11 : decode cX6_make 11 = .ok (.getfield 11, 3) := by decide +kernel
theorem dX6_make_14 : decode cX6_make 14 = .ok (.lconst 0, 1) := by decide +kernel
theorem dX6_make_15 : decode cX6_make 15 = .ok (.invokestatic 61, 3) := by decide +kernel
theorem dX6_make_18 : decode cX6_make 18 = .ok (.aload_n 0, 1) := by decide +kernel
theorem dX6_make_19 : decode cX6_make 19 = .ok (.getfield 15, 3) := by decide +kernel
theorem dX6_make_22 : decode cX6_make 22 = .ok (.lconst 0, 1) := by decide +kernel
theorem dX6_make_23 : decode cX6_make 23 = .ok (.invokestatic 61, 3) := by decide +kernel
theorem dX6_make_26 : decode cX6_make 26 = .ok (.aload_n 0, 1) := by decide +kernel
theorem dX6_make_27 : decode cX6_make 27 = .ok (.lconst 0, 1) := by decide +kernel
theorem dX6_make_28 : decode cX6_make 28 = .ok (.putfield 67, 3) := by decide +kernel
theorem dX6_make_31 : decode cX6_make 31 = .ok (.aload_n 0, 1) := by decide +kernel
theorem dX6_make_32 : decode cX6_make 32 = .ok (.iconst 0, 1) := by decide +kernel
theorem dX6_make_33 : decode cX6_make 33 = .ok (.putfield 51, 3) := by decide +kernel
theorem dX6_make_36 : decode cX6_make 36 = .ok (.aload_n 0, 1) := by decide +kernel
theorem dX6_make_37 : decode cX6_make 37 = .ok (.bipush 7, 2) := by decide +kernel
theorem dX6_make_39 : decode cX6_make 39 = .ok (.putfield 55, 3) := by decide +kernel
theorem dX6_make_42 : decode cX6_make 42 = .ok (.aload_n 0, 1) := by decide +kernel
theorem dX6_make_43 : decode cX6_make 43 = .ok (.iconst 0, 1) := by decide +kernel
theorem dX6_make_44 : decode cX6_make 44 = .ok (.putfield 71, 3) := by decide +kernel
theorem dX6_make_47 : decode cX6_make 47 = .ok (.iconst 0, 1) := by decide +kernel
theorem dX6_make_48 : decode cX6_make 48 = .ok (.istore_n 3, 1) := by decide +kernel
theorem dX6_make_49 : decode cX6_make 49 = .ok (.iload_n 3, 1) := by decide +kernel
theorem dX6_make_50 : decode cX6_make 50 = .ok (.aload_n 0, 1) := by decide +kernel
theorem dX6_make_51 : decode cX6_make 51 = .ok (.getfield 47, 3) := by decide +kernel
theorem dX6_make_54 : decode cX6_make 54 = .ok (.getfield 74, 3) := by decide +kernel
theorem dX6_make_57 : decode cX6_make 57 = .ok (.if_icmp .ge 56, 3) := by decide +kernel
theorem dX6_make_60 : decode cX6_make 60 = .ok (.aload_n 0, 1) := by decide +kernel
theorem dX6_make_61 : decode cX6_make 61 = .ok (.getfield 47, 3) := by decide +kernel
theorem dX6_make_64 : decode cX6_make 64 = .ok (.iload_n 3, 1) := by decide +kernel
theorem dX6_make_65 : decode cX6_make 65 = .ok (.invokevirtual 79, 3) := by decide +kernel
theorem dX6_make_68 : decode cX6_make 68 = .ok (.aload_n 0, 1) := by decide +kernel
theorem dX6_make_69 : decode cX6_make 69 = .ok (.getfield 58, 3) := by decide +kernel
theorem dX6_make_72 : decode cX6_make 72 = .ok (.iand, 1) := by decide +kernel
theorem dX6_make_73 : decode cX6_make 73 = .ok (.istore 4, 2) := by decide +kernel
theorem dX6_make_75 : decode cX6_make 75 = .ok (.iload 4, 2) := by decide +kernel
theorem dX6_make_77 : decode cX6_make 77 = .ok (.ifCond .eq 30, 3) := by decide +kernel
theorem dX6_make_80 : decode cX6_make 80 = .ok (.aload_n 0, 1) := by decide +kernel
theorem dX6_make_81 : decode cX6_make 81 = .ok (.getfield 34, 3) := by decide +kernel
theorem dX6_make_84 : decode cX6_make 84 = .ok (.aload_n 0, 1) := by decide +kernel
theorem dX6_make_85 : decode cX6_make 85 = .ok (.getfield 71, 3) := by decide +kernel
theorem dX6_make_88 : decode cX6_make 88 = .ok (.iload_n 3, 1) := by decide +kernel
theorem dX6_make_89 : decode cX6_make 89 = .ok (.iastore, 1) := by decide +kernel
theorem dX6_make_90 : decode cX6_make 90 = .ok (.aload_n 0, 1) := by decide +kernel
theorem dX6_make_91 : decode cX6_make 91 = .ok (.dup, 1) := by decide +kernel
theorem dX6_make_92 : decode cX6_make 92 = .ok (.getfield 71, 3) := by decide +kernel
theorem dX6_make_95 : decode cX6_make 95 = .ok (.iconst 1, 1) := by decide +kernel
theorem dX6_make_96 : decode cX6_make 96 = .ok (.iadd, 1) := by decide +kernel
theorem dX6_make_97 : decode cX6_make 97 = .ok (.putfield 71, 3) := by decide +kernel
theorem dX6_make_100 : decode cX6_make 100 = .ok (.aload_n 0, 1) := by decide +kernel
theorem dX6_make_101 : decode cX6_make 101 = .ok (.iload_n 3, 1) := by decide +kernel
theorem dX6_make_102 : decode cX6_make 102 = .ok (.iload 4, 2) := by decide +kernel
theorem dX6_make_104 : decode cX6_make 104 = .ok (.invokevirtual 83, 3) := by decide +kernel
theorem dX6_make_107 : decode cX6_make 107 = .ok (.iinc 3 1, 3) := by decide +kernel
theorem dX6_make_110 : decode cX6_make 110 = .ok (.goto (-61), 3) := by decide +kernel
theorem dX6_make_113 : decode cX6_make 113 = .ok (.aload_n 0, 1) := by decide +kernel
theorem dX6_make_114 : decode cX6_make 114 = .ok (.iconst 0, 1) := by decide +kernel
theorem dX6_make_115 : decode cX6_make 115 = .ok (.iconst 0, 1) := by decide +kernel
theorem dX6_make_116 : decode cX6_make 116 = .ok (.iconst 0, 1) := by decide +kernel
theorem dX6_make_117 : decode cX6_make 117 = .ok (.invokevirtual 87, 3) := by decide +kernel
theorem dX6_make_120 : decode cX6_make 120 = .ok (.return_, 1) := by decide +kernel
theorem dX6_canKeep_0 : decode cX6_canKeep 0 = .ok (.iconst 0, 1) := by decide +kernel
theorem dX6_canKeep_1 : decode cX6_canKeep 1 = .ok (.istore_n 2, 1) := by decide +kernel
theorem dX6_canKeep_2 : decode cX6_canKeep 2 = .ok (.iload_n 2, 1) := by decide +kernel
theorem dX6_canKeep_3 : decode cX6_canKeep 3 = .ok (.bipush 64, 2) := by decide +kernel
theorem dX6_canKeep_5 : decode cX6_canKeep 5 = .ok (.if_icmp .ge 30, 3) := by decide +kernel
theorem dX6_canKeep_8 : decode cX6_canKeep 8 = .ok (.aload_n 0, 1) := by decide +kernel
theorem dX6_canKeep_9 : decode cX6_canKeep 9 = .ok (.getfield 67, 3) := by decide +kernel
theorem dX6_canKeep_12 : decode cX6_canKeep 12 = .ok (.iload_n 2, 1) := by decide +kernel
theorem dX6_canKeep_13 : decode cX6_canKeep 13 = .ok (.lshr, 1) := by decide +kernel
theorem dX6_canKeep_14 : decode cX6_canKeep 14 = .ok (.lconst 1, 1) := by decide +kernel
theorem dX6_canKeep_15 : decode cX6_canKeep 15 = .ok (.land, 1) := by decide +kernel
theorem dX6_canKeep_16 : decode cX6_canKeep 16 = .ok (.lconst 1, 1) := by decide +kernel
theorem dX6_canKeep_17 : decode cX6_canKeep 17 = .ok (.lcmp, 1) := by decide +kernel
theorem dX6_canKeep_18 : decode cX6_canKeep 18 = .ok (.ifCond .ne 11, 3) := by decide +kernel
theorem dX6_canKeep_21 : decode cX6_canKeep 21 = .ok (.iload_n 2, 1) := by decide +kernel
theorem dX6_canKeep_22 : decode cX6_canKeep 22 = .ok (.iload_n 1, 1) := by decide +kernel
theorem dX6_canKeep_23 : decode cX6_canKeep 23 = .ok (.iand, 1) := by decide +kernel
theorem dX6_canKeep_24 : decode cX6_canKeep 24 = .ok (.ifCond .ne 5, 3) := by decide +kernel
theorem dX6_canKeep_27 : decode cX6_canKeep 27 = .ok (.iconst 1, 1) := by decide +kernel
theorem dX6_canKeep_28 : decode cX6_canKeep 28 = .ok (.ireturn, 1) := by decide +kernel
theorem dX6_canKeep_29 : decode cX6_canKeep 29 = .ok (.iinc 2 1, 3) := by decide +kernel
theorem dX6_canKeep_32 : decode cX6_canKeep 32 = .ok (.goto (-30), 3) := by decide +kernel
theorem dX6_canKeep_35 : decode cX6_canKeep 35 = .ok (.iconst 0, 1) := by decide +kernel
theorem dX6_canKeep_36 : decode cX6_canKeep 36 = .ok (.ireturn, 1) := by decide +kernel
theorem dX6_smallestQuarrel_0 : decode cX6_smallestQuarrel 0 = .ok (.aload_n 0, 1) := by decide +kernel
theorem dX6_smallestQuarrel_1 : decode cX6_smallestQuarrel 1 = .ok (.getfield 58, 3) := by decide +kernel
theorem dX6_smallestQuarrel_4 : decode cX6_smallestQuarrel 4 = .ok (.istore_n 1, 1) := by decide +kernel
theorem dX6_smallestQuarrel_5 : decode cX6_smallestQuarrel 5 = .ok (.bipush 63, 2) := by decide +kernel
theorem dX6_smallestQuarrel_7 : decode cX6_smallestQuarrel 7 = .ok (.istore_n 2, 1) := by decide +kernel
theorem dX6_smallestQuarrel_8 : decode cX6_smallestQuarrel 8 = .ok (.iload_n 2, 1) := by decide +kernel
theorem dX6_smallestQuarrel_9 : decode cX6_smallestQuarrel 9 = .ok (.ifCond .lt 51, 3) := by decide +kernel
theorem dX6_smallestQuarrel_12 : decode cX6_smallestQuarrel 12 = .ok (.iload_n 2, 1) := by decide +kernel
theorem dX6_smallestQuarrel_13 : decode cX6_smallestQuarrel 13 = .ok (.invokestatic 133, 3) := by decide +kernel
theorem dX6_smallestQuarrel_16 : decode cX6_smallestQuarrel 16 = .ok (.iload_n 1, 1) := by decide +kernel
theorem dX6_smallestQuarrel_17 : decode cX6_smallestQuarrel 17 = .ok (.invokestatic 133, 3) := by decide +kernel
theorem dX6_smallestQuarrel_20 : decode cX6_smallestQuarrel 20 = .ok (.if_icmp .gt 7, 3) := by decide +kernel
theorem dX6_smallestQuarrel_23 : decode cX6_smallestQuarrel 23 = .ok (.iconst 1, 1) := by decide +kernel
theorem dX6_smallestQuarrel_24 : decode cX6_smallestQuarrel 24 = .ok (.goto 4, 3) := by decide +kernel
theorem dX6_smallestQuarrel_27 : decode cX6_smallestQuarrel 27 = .ok (.iconst 0, 1) := by decide +kernel
theorem dX6_smallestQuarrel_28 : decode cX6_smallestQuarrel 28 = .ok (.istore_n 3, 1) := by decide +kernel
theorem dX6_smallestQuarrel_29 : decode cX6_smallestQuarrel 29 = .ok (.iload_n 2, 1) := by decide +kernel
theorem dX6_smallestQuarrel_30 : decode cX6_smallestQuarrel 30 = .ok (.aload_n 0, 1) := by decide +kernel
theorem dX6_smallestQuarrel_31 : decode cX6_smallestQuarrel 31 = .ok (.getfield 58, 3) := by decide +kernel
theorem dX6_smallestQuarrel_34 : decode cX6_smallestQuarrel 34 = .ok (.iconst (-1), 1) := by decide +kernel
theorem dX6_smallestQuarrel_35 : decode cX6_smallestQuarrel 35 = .ok (.ixor, 1) := by decide +kernel
theorem dX6_smallestQuarrel_36 : decode cX6_smallestQuarrel 36 = .ok (.iand, 1) := by decide +kernel
theorem dX6_smallestQuarrel_37 : decode cX6_smallestQuarrel 37 = .ok (.ifCond .ne 17, 3) := by decide +kernel
theorem dX6_smallestQuarrel_40 : decode cX6_smallestQuarrel 40 = .ok (.iload_n 3, 1) := by decide +kernel
theorem dX6_smallestQuarrel_41 : decode cX6_smallestQuarrel 41 = .ok (.ifCond .eq 13, 3) := by decide +kernel
theorem dX6_smallestQuarrel_44 : decode cX6_smallestQuarrel 44 = .ok (.aload_n 0, 1) := by decide +kernel
theorem dX6_smallestQuarrel_45 : decode cX6_smallestQuarrel 45 = .ok (.iload_n 2, 1) := by decide +kernel
theorem dX6_smallestQuarrel_46 : decode cX6_smallestQuarrel 46 = .ok (.invokevirtual 138, 3) := by decide +kernel
theorem dX6_smallestQuarrel_49 : decode cX6_smallestQuarrel 49 = .ok (.ifCond .ne 5, 3) := by decide +kernel
theorem dX6_smallestQuarrel_52 : decode cX6_smallestQuarrel 52 = .ok (.iload_n 2, 1) := by decide +kernel
theorem dX6_smallestQuarrel_53 : decode cX6_smallestQuarrel 53 = .ok (.istore_n 1, 1) := by decide +kernel
theorem dX6_smallestQuarrel_54 : decode cX6_smallestQuarrel 54 = .ok (.iinc 2 (-1), 3) := by decide +kernel
theorem dX6_smallestQuarrel_57 : decode cX6_smallestQuarrel 57 = .ok (.goto (-49), 3) := by decide +kernel
theorem dX6_smallestQuarrel_60 : decode cX6_smallestQuarrel 60 = .ok (.iload_n 1, 1) := by decide +kernel
theorem dX6_smallestQuarrel_61 : decode cX6_smallestQuarrel 61 = .ok (.ireturn, 1) := by decide +kernel
theorem dX7_withLetter_0 : decode cX7_withLetter 0 = .ok (.lload_n 0, 1) := by decide +kernel
theorem dX7_withLetter_1 : decode cX7_withLetter 1 = .ok (.ldc2_w 76, 3) := by decide +kernel
theorem dX7_withLetter_4 : decode cX7_withLetter 4 = .ok (.lmul, 1) := by decide +kernel
theorem dX7_withLetter_5 : decode cX7_withLetter 5 = .ok (.iload_n 2, 1) := by decide +kernel
theorem dX7_withLetter_6 : decode cX7_withLetter 6 = .ok (.bipush 97, 2) := by decide +kernel
theorem dX7_withLetter_8 : decode cX7_withLetter 8 = .ok (.isub, 1) := by decide +kernel
theorem dX7_withLetter_9 : decode cX7_withLetter 9 = .ok (.iconst 1, 1) := by decide +kernel
theorem dX7_withLetter_10 : decode cX7_withLetter 10 = .ok (.iadd, 1) := by decide +kernel
theorem dX7_withLetter_11 : decode cX7_withLetter 11 = .ok (.i2l, 1) := by decide +kernel
theorem dX7_withLetter_12 : decode cX7_withLetter 12 = .ok (.ladd, 1) := by decide +kernel
theorem dX7_withLetter_13 : decode cX7_withLetter 13 = .ok (.lreturn, 1) := by decide +kernel
theorem dX7_isBlank_0 : decode cX7_isBlank 0 = .ok (.iload_n 0, 1) := by decide +kernel
theorem dX7_isBlank_1 : decode cX7_isBlank 1 = .ok (.bipush 9, 2) := by decide +kernel
theorem dX7_isBlank_3 : decode cX7_isBlank 3 = .ok (.if_icmp .eq 21, 3) := by decide +kernel
theorem dX7_isBlank_6 : decode cX7_isBlank 6 = .ok (.iload_n 0, 1) := by decide +kernel
theorem dX7_isBlank_7 : decode cX7_isBlank 7 = .ok (.bipush 10, 2) := by decide +kernel
theorem dX7_isBlank_9 : decode cX7_isBlank 9 = .ok (.if_icmp .eq 15, 3) := by decide +kernel
theorem dX7_isBlank_12 : decode cX7_isBlank 12 = .ok (.iload_n 0, 1) := by decide +kernel
theorem dX7_isBlank_13 : decode cX7_isBlank 13 = .ok (.bipush 13, 2) := by decide +kernel
theorem dX7_isBlank_15 : decode cX7_isBlank 15 = .ok (.if_icmp .eq 9, 3) := by decide +kernel
theorem dX7_isBlank_18 : decode cX7_isBlank 18 = .ok (.iload_n 0, 1) := by decide +kernel
theorem dX7_isBlank_19 : decode cX7_isBlank 19 = .ok (.bipush 32, 2) := by decide +kernel
theorem dX7_isBlank_21 : decode cX7_isBlank 21 = .ok (.if_icmp .ne 7, 3) := by decide +kernel
theorem dX7_isBlank_24 : decode cX7_isBlank 24 = .ok (.iconst 1, 1) := by decide +kernel
theorem dX7_isBlank_25 : decode cX7_isBlank 25 = .ok (.goto 4, 3) := by decide +kernel
theorem dX7_isBlank_28 : decode cX7_isBlank 28 = .ok (.iconst 0, 1) := by decide +kernel
theorem dX7_isBlank_29 : decode cX7_isBlank 29 = .ok (.ireturn, 1) := by decide +kernel
theorem dX7_isLetter_0 : decode cX7_isLetter 0 = .ok (.iload_n 0, 1) := by decide +kernel
theorem dX7_isLetter_1 : decode cX7_isLetter 1 = .ok (.bipush 97, 2) := by decide +kernel
theorem dX7_isLetter_3 : decode cX7_isLetter 3 = .ok (.if_icmp .lt 13, 3) := by decide +kernel
theorem dX7_isLetter_6 : decode cX7_isLetter 6 = .ok (.iload_n 0, 1) := by decide +kernel
theorem dX7_isLetter_7 : decode cX7_isLetter 7 = .ok (.bipush 122, 2) := by decide +kernel
theorem dX7_isLetter_9 : decode cX7_isLetter 9 = .ok (.if_icmp .gt 7, 3) := by decide +kernel
theorem dX7_isLetter_12 : decode cX7_isLetter 12 = .ok (.iconst 1, 1) := by decide +kernel
theorem dX7_isLetter_13 : decode cX7_isLetter 13 = .ok (.goto 4, 3) := by decide +kernel
theorem dX7_isLetter_16 : decode cX7_isLetter 16 = .ok (.iconst 0, 1) := by decide +kernel
theorem dX7_isLetter_17 : decode cX7_isLetter 17 = .ok (.ireturn, 1) := by decide +kernel
theorem dX7_sortOf_0 : decode cX7_sortOf 0 = .ok (.iconst 0, 1) := by decide +kernel
theorem dX7_sortOf_1 : decode cX7_sortOf 1 = .ok (.istore_n 3, 1) := by decide +kernel
theorem dX7_sortOf_2 : decode cX7_sortOf 2 = .ok (.iload_n 3, 1) := by decide +kernel
theorem dX7_sortOf_3 : decode cX7_sortOf 3 = .ok (.bipush 20, 2) := by decide +kernel
theorem dX7_sortOf_5 : decode cX7_sortOf 5 = .ok (.if_icmp .ge 26, 3) := by decide +kernel
theorem dX7_sortOf_8 : decode cX7_sortOf 8 = .ok (.aload_n 0, 1) := by decide +kernel
theorem dX7_sortOf_9 : decode cX7_sortOf 9 = .ok (.getfield 22, 3) := by decide +kernel
theorem dX7_sortOf_12 : decode cX7_sortOf 12 = .ok (.iload_n 3, 1) := by decide +kernel
theorem dX7_sortOf_13 : decode cX7_sortOf 13 = .ok (.laload, 1) := by decide +kernel
theorem dX7_sortOf_14 : decode cX7_sortOf 14 = .ok (.lload_n 1, 1) := by decide +kernel
theorem dX7_sortOf_15 : decode cX7_sortOf 15 = .ok (.lcmp, 1) := by decide +kernel
theorem dX7_sortOf_16 : decode cX7_sortOf 16 = .ok (.ifCond .ne 9, 3) := by decide +kernel
theorem dX7_sortOf_19 : decode cX7_sortOf 19 = .ok (.sipush 256, 3) := by decide +kernel
theorem dX7_sortOf_22 : decode cX7_sortOf 22 = .ok (.iload_n 3, 1) := by decide +kernel
theorem dX7_sortOf_23 : decode cX7_sortOf 23 = .ok (.iadd, 1) := by decide +kernel
theorem dX7_sortOf_24 : decode cX7_sortOf 24 = .ok (.ireturn, 1) := by decide +kernel
theorem dX7_sortOf_25 : decode cX7_sortOf 25 = .ok (.iinc 3 1, 3) := by decide +kernel
theorem dX7_sortOf_28 : decode cX7_sortOf 28 = .ok (.goto (-26), 3) := by decide +kernel
theorem dX7_sortOf_31 : decode cX7_sortOf 31 = .ok (.iconst 2, 1) := by decide +kernel
theorem dX7_sortOf_32 : decode cX7_sortOf 32 = .ok (.ireturn, 1) := by decide +kernel
theorem dX7_add_0 : decode cX7_add 0 = .ok (.aload_n 0, 1) := by decide +kernel
theorem dX7_add_1 : decode cX7_add 1 = .ok (.getfield 41, 3) := by decide +kernel
theorem dX7_add_4 : decode cX7_add 4 = .ok (.sipush 401, 3) := by decide +kernel
theorem dX7_add_7 : decode cX7_add 7 = .ok (.if_icmp .gt 43, 3) := by decide +kernel
theorem dX7_add_10 : decode cX7_add 10 = .ok (.aload_n 0, 1) := by decide +kernel
theorem dX7_add_11 : decode cX7_add 11 = .ok (.getfield 11, 3) := by decide +kernel
theorem dX7_add_14 : decode cX7_add 14 = .ok (.aload_n 0, 1) := by decide +kernel
theorem dX7_add_15 : decode cX7_add 15 = .ok (.getfield 41, 3) := by decide +kernel
theorem dX7_add_18 : decode cX7_add 18 = .ok (.iload_n 1, 1) := by decide +kernel
theorem dX7_add_19 : decode cX7_add 19 = .ok (.iastore, 1) := by decide +kernel
theorem dX7_add_20 : decode cX7_add 20 = .ok (.aload_n 0, 1) := by decide +kernel
theorem dX7_add_21 : decode cX7_add 21 = .ok (.getfield 15, 3) := by decide +kernel
theorem dX7_add_24 : decode cX7_add 24 = .ok (.aload_n 0, 1) := by decide +kernel
theorem dX7_add_25 : decode cX7_add 25 = .ok (.getfield 41, 3) := by decide +kernel
theorem dX7_add_28 : decode cX7_add 28 = .ok (.iload_n 2, 1) := by decide +kernel
theorem dX7_add_29 : decode cX7_add 29 = .ok (.iastore, 1) := by decide +kernel
theorem dX7_add_30 : decode cX7_add 30 = .ok (.aload_n 0, 1) := by decide +kernel
theorem dX7_add_31 : decode cX7_add 31 = .ok (.getfield 18, 3) := by decide +kernel
theorem dX7_add_34 : decode cX7_add 34 = .ok (.aload_n 0, 1) := by decide +kernel
theorem dX7_add_35 : decode cX7_add 35 = .ok (.getfield 41, 3) := by decide +kernel
theorem dX7_add_38 : decode cX7_add 38 = .ok (.lload_n 3, 1) := by decide +kernel
theorem dX7_add_39 : decode cX7_add 39 = .ok (.lastore, 1) := by decide +kernel
theorem dX7_add_40 : decode cX7_add 40 = .ok (.aload_n 0, 1) := by decide +kernel
theorem dX7_add_41 : decode cX7_add 41 = .ok (.dup, 1) := by decide +kernel
theorem dX7_add_42 : decode cX7_add 42 = .ok (.getfield 41, 3) := by decide +kernel
theorem dX7_add_45 : decode cX7_add 45 = .ok (.iconst 1, 1) := by decide +kernel
theorem dX7_add_46 : decode cX7_add 46 = .ok (.iadd, 1) := by decide +kernel
theorem dX7_add_47 : decode cX7_add 47 = .ok (.putfield 41, 3) := by decide +kernel
theorem dX7_add_50 : decode cX7_add 50 = .ok (.return_, 1) := by decide +kernel
theorem dX7_cutWord_0 : decode cX7_cutWord 0 = .ok (.lconst 0, 1) := by decide +kernel
theorem dX7_cutWord_1 : decode cX7_cutWord 1 = .ok (.lstore 4, 2) := by decide +kernel
theorem dX7_cutWord_3 : decode cX7_cutWord 3 = .ok (.iload_n 3, 1) := by decide +kernel
theorem dX7_cutWord_4 : decode cX7_cutWord 4 = .ok (.istore 6, 2) := by decide +kernel
theorem dX7_cutWord_6 : decode cX7_cutWord 6 = .ok (.iload 6, 2) := by decide +kernel
theorem dX7_cutWord_8 : decode cX7_cutWord 8 = .ok (.iload_n 2, 1) := by decide +kernel
theorem dX7_cutWord_9 : decode cX7_cutWord 9 = .ok (.if_icmp .ge 48, 3) := by decide +kernel
theorem dX7_cutWord_12 : decode cX7_cutWord 12 = .ok (.aload_n 1, 1) := by decide +kernel
theorem dX7_cutWord_13 : decode cX7_cutWord 13 = .ok (.iload 6, 2) := by decide +kernel
theorem dX7_cutWord_15 : decode cX7_cutWord 15 = .ok (.baload, 1) := by decide +kernel
theorem dX7_cutWord_16 : decode cX7_cutWord 16 = .ok (.sipush 255, 3) := by decide +kernel
theorem dX7_cutWord_19 : decode cX7_cutWord 19 = .ok (.iand, 1) := by decide +kernel
theorem dX7_cutWord_20 : decode cX7_cutWord 20 = .ok (.invokestatic 49, 3) := by decide +kernel
theorem dX7_cutWord_23 : decode cX7_cutWord 23 = .ok (.ifCond .eq 34, 3) := by decide +kernel
theorem dX7_cutWord_26 : decode cX7_cutWord 26 = .ok (.iload 6, 2) := by decide +kernel
theorem dX7_cutWord_28 : decode cX7_cutWord 28 = .ok (.iload_n 3, 1) := by decide +kernel
theorem dX7_cutWord_29 : decode cX7_cutWord 29 = .ok (.isub, 1) := by decide +kernel
theorem dX7_cutWord_30 : decode cX7_cutWord 30 = .ok (.bipush 8, 2) := by decide +kernel
theorem dX7_cutWord_32 : decode cX7_cutWord 32 = .ok (.if_icmp .ge 19, 3) := by decide +kernel
theorem dX7_cutWord_35 : decode cX7_cutWord 35 = .ok (.lload 4, 2) := by decide +kernel
theorem dX7_cutWord_37 : decode cX7_cutWord 37 = .ok (.aload_n 1, 1) := by decide +kernel
theorem dX7_cutWord_38 : decode cX7_cutWord 38 = .ok (.iload 6, 2) := by decide +kernel
theorem dX7_cutWord_40 : decode cX7_cutWord 40 = .ok (.baload, 1) := by decide +kernel
theorem dX7_cutWord_41 : decode cX7_cutWord 41 = .ok (.sipush 255, 3) := by decide +kernel
theorem dX7_cutWord_44 : decode cX7_cutWord 44 = .ok (.iand, 1) := by decide +kernel
theorem dX7_cutWord_45 : decode cX7_cutWord 45 = .ok (.i2c, 1) := by decide +kernel
theorem dX7_cutWord_46 : decode cX7_cutWord 46 = .ok (.invokestatic 37, 3) := by decide +kernel
theorem dX7_cutWord_49 : decode cX7_cutWord 49 = .ok (.lstore 4, 2) := by decide +kernel
theorem dX7_cutWord_51 : decode cX7_cutWord 51 = .ok (.iinc 6 1, 3) := by decide +kernel
theorem dX7_cutWord_54 : decode cX7_cutWord 54 = .ok (.goto (-48), 3) := by decide +kernel
theorem dX7_cutWord_57 : decode cX7_cutWord 57 = .ok (.aload_n 0, 1) := by decide +kernel
theorem dX7_cutWord_58 : decode cX7_cutWord 58 = .ok (.iload 6, 2) := by decide +kernel
theorem dX7_cutWord_60 : decode cX7_cutWord 60 = .ok (.iload_n 3, 1) := by decide +kernel
theorem dX7_cutWord_61 : decode cX7_cutWord 61 = .ok (.isub, 1) := by decide +kernel
theorem dX7_cutWord_62 : decode cX7_cutWord 62 = .ok (.bipush 8, 2) := by decide +kernel
theorem dX7_cutWord_64 : decode cX7_cutWord 64 = .ok (.if_icmp .le 7, 3) := by decide +kernel
theorem dX7_cutWord_67 : decode cX7_cutWord 67 = .ok (.iconst 1, 1) := by decide +kernel
theorem dX7_cutWord_68 : decode cX7_cutWord 68 = .ok (.goto 9, 3) := by decide +kernel
theorem dX7_cutWord_71 : decode cX7_cutWord 71 = .ok (.aload_n 0, 1) := by decide +kernel
theorem dX7_cutWord_72 : decode cX7_cutWord 72 = .ok (.lload 4, 2) := by decide +kernel
theorem dX7_cutWord_74 : decode cX7_cutWord 74 = .ok (.invokevirtual 72, 3) := by decide +kernel
theorem dX7_cutWord_77 : decode cX7_cutWord 77 = .ok (.iload_n 3, 1) := by decide +kernel
theorem dX7_cutWord_78 : decode cX7_cutWord 78 = .ok (.lload 4, 2) := by decide +kernel
theorem dX7_cutWord_80 : decode cX7_cutWord 80 = .ok (.invokevirtual 68, 3) := by decide +kernel
theorem dX7_cutWord_83 : decode cX7_cutWord 83 = .ok (.iload 6, 2) := by decide +kernel
theorem dX7_cutWord_85 : decode cX7_cutWord 85 = .ok (.ireturn, 1) := by decide +kernel
theorem dX7_isDigit_0 : decode cX7_isDigit 0 = .ok (.iload_n 0, 1) := by decide +kernel
theorem dX7_isDigit_1 : decode cX7_isDigit 1 = .ok (.bipush 48, 2) := by decide +kernel
theorem dX7_isDigit_3 : decode cX7_isDigit 3 = .ok (.if_icmp .lt 13, 3) := by decide +kernel
theorem dX7_isDigit_6 : decode cX7_isDigit 6 = .ok (.iload_n 0, 1) := by decide +kernel
theorem dX7_isDigit_7 : decode cX7_isDigit 7 = .ok (.bipush 57, 2) := by decide +kernel
theorem dX7_isDigit_9 : decode cX7_isDigit 9 = .ok (.if_icmp .gt 7, 3) := by decide +kernel
theorem dX7_isDigit_12 : decode cX7_isDigit 12 = .ok (.iconst 1, 1) := by decide +kernel
theorem dX7_isDigit_13 : decode cX7_isDigit 13 = .ok (.goto 4, 3) := by decide +kernel
theorem dX7_isDigit_16 : decode cX7_isDigit 16 = .ok (.iconst 0, 1) := by decide +kernel
theorem dX7_isDigit_17 : decode cX7_isDigit 17 = .ok (.ireturn, 1) := by decide +kernel
theorem dX7_cutNumber_0 : decode cX7_cutNumber 0 = .ok (.iconst 0, 1) := by decide +kernel
theorem dX7_cutNumber_1 : decode cX7_cutNumber 1 = .ok (.istore 4, 2) := by decide +kernel
theorem dX7_cutNumber_3 : decode cX7_cutNumber 3 = .ok (.iload_n 3, 1) := by decide +kernel
theorem dX7_cutNumber_4 : decode cX7_cutNumber 4 = .ok (.istore 5, 2) := by decide +kernel
theorem dX7_cutNumber_6 : decode cX7_cutNumber 6 = .ok (.iload 5, 2) := by decide +kernel
theorem dX7_cutNumber_8 : decode cX7_cutNumber 8 = .ok (.iload_n 2, 1) := by decide +kernel
theorem dX7_cutNumber_9 : decode cX7_cutNumber 9 = .ok (.if_icmp .ge 46, 3) := by decide +kernel
theorem dX7_cutNumber_12 : decode cX7_cutNumber 12 = .ok (.aload_n 1, 1) := by decide +kernel
theorem dX7_cutNumber_13 : decode cX7_cutNumber 13 = .ok (.iload 5, 2) := by decide +kernel
theorem dX7_cutNumber_15 : decode cX7_cutNumber 15 = .ok (.baload, 1) := by decide +kernel
theorem dX7_cutNumber_16 : decode cX7_cutNumber 16 = .ok (.sipush 255, 3) := by decide +kernel
theorem dX7_cutNumber_19 : decode cX7_cutNumber 19 = .ok (.iand, 1) := by decide +kernel
theorem dX7_cutNumber_20 : decode cX7_cutNumber 20 = .ok (.invokestatic 56, 3) := by decide +kernel
theorem dX7_cutNumber_23 : decode cX7_cutNumber 23 = .ok (.ifCond .eq 32, 3) := by decide +kernel
theorem dX7_cutNumber_26 : decode cX7_cutNumber 26 = .ok (.iload 5, 2) := by decide +kernel
theorem dX7_cutNumber_28 : decode cX7_cutNumber 28 = .ok (.iload_n 3, 1) := by decide +kernel
theorem dX7_cutNumber_29 : decode cX7_cutNumber 29 = .ok (.isub, 1) := by decide +kernel
theorem dX7_cutNumber_30 : decode cX7_cutNumber 30 = .ok (.iconst 4, 1) := by decide +kernel
theorem dX7_cutNumber_31 : decode cX7_cutNumber 31 = .ok (.if_icmp .ge 18, 3) := by decide +kernel
theorem dX7_cutNumber_34 : decode cX7_cutNumber 34 = .ok (.iload 4, 2) := by decide +kernel
theorem dX7_cutNumber_36 : decode cX7_cutNumber 36 = .ok (.bipush 10, 2) := by decide +kernel
theorem dX7_cutNumber_38 : decode cX7_cutNumber 38 = .ok (.imul, 1) := by decide +kernel
theorem dX7_cutNumber_39 : decode cX7_cutNumber 39 = .ok (.aload_n 1, 1) := by decide +kernel
theorem dX7_cutNumber_40 : decode cX7_cutNumber 40 = .ok (.iload 5, 2) := by decide +kernel
theorem dX7_cutNumber_42 : decode cX7_cutNumber 42 = .ok (.baload, 1) := by decide +kernel
theorem dX7_cutNumber_43 : decode cX7_cutNumber 43 = .ok (.bipush 48, 2) := by decide +kernel
theorem dX7_cutNumber_45 : decode cX7_cutNumber 45 = .ok (.isub, 1) := by decide +kernel
theorem dX7_cutNumber_46 : decode cX7_cutNumber 46 = .ok (.iadd, 1) := by decide +kernel
theorem dX7_cutNumber_47 : decode cX7_cutNumber 47 = .ok (.istore 4, 2) := by decide +kernel
theorem dX7_cutNumber_49 : decode cX7_cutNumber 49 = .ok (.iinc 5 1, 3) := by decide +kernel
theorem dX7_cutNumber_52 : decode cX7_cutNumber 52 = .ok (.goto (-46), 3) := by decide +kernel
theorem dX7_cutNumber_55 : decode cX7_cutNumber 55 = .ok (.aload_n 0, 1) := by decide +kernel
theorem dX7_cutNumber_56 : decode cX7_cutNumber 56 = .ok (.iload 5, 2) := by decide +kernel
theorem dX7_cutNumber_58 : decode cX7_cutNumber 58 = .ok (.iload_n 3, 1) := by decide +kernel
theorem dX7_cutNumber_59 : decode cX7_cutNumber 59 = .ok (.isub, 1) := by decide +kernel
theorem dX7_cutNumber_60 : decode cX7_cutNumber 60 = .ok (.iconst 4, 1) := by decide +kernel
theorem dX7_cutNumber_61 : decode cX7_cutNumber 61 = .ok (.if_icmp .le 7, 3) := by decide +kernel
theorem dX7_cutNumber_64 : decode cX7_cutNumber 64 = .ok (.iconst 1, 1) := by decide +kernel
theorem dX7_cutNumber_65 : decode cX7_cutNumber 65 = .ok (.goto 4, 3) := by decide +kernel
theorem dX7_cutNumber_68 : decode cX7_cutNumber 68 = .ok (.iconst 3, 1) := by decide +kernel
theorem dX7_cutNumber_69 : decode cX7_cutNumber 69 = .ok (.iload_n 3, 1) := by decide +kernel
theorem dX7_cutNumber_70 : decode cX7_cutNumber 70 = .ok (.iload 4, 2) := by decide +kernel
theorem dX7_cutNumber_72 : decode cX7_cutNumber 72 = .ok (.i2l, 1) := by decide +kernel
theorem dX7_cutNumber_73 : decode cX7_cutNumber 73 = .ok (.invokevirtual 68, 3) := by decide +kernel
theorem dX7_cutNumber_76 : decode cX7_cutNumber 76 = .ok (.iload 5, 2) := by decide +kernel
theorem dX7_cutNumber_78 : decode cX7_cutNumber 78 = .ok (.ireturn, 1) := by decide +kernel
theorem dX7_cut_0 : decode cX7_cut 0 = .ok (.aload_n 0, 1) := by decide +kernel
theorem dX7_cut_1 : decode cX7_cut 1 = .ok (.iconst 0, 1) := by decide +kernel
theorem dX7_cut_2 : decode cX7_cut 2 = .ok (.putfield 41, 3) := by decide +kernel
theorem dX7_cut_5 : decode cX7_cut 5 = .ok (.iconst 0, 1) := by decide +kernel
theorem dX7_cut_6 : decode cX7_cut 6 = .ok (.istore_n 3, 1) := by decide +kernel
theorem dX7_cut_7 : decode cX7_cut 7 = .ok (.iconst 0, 1) := by decide +kernel
theorem dX7_cut_8 : decode cX7_cut 8 = .ok (.istore 4, 2) := by decide +kernel
theorem dX7_cut_10 : decode cX7_cut 10 = .ok (.iload 4, 2) := by decide +kernel
theorem dX7_cut_12 : decode cX7_cut 12 = .ok (.iload_n 2, 1) := by decide +kernel
theorem dX7_cut_13 : decode cX7_cut 13 = .ok (.if_icmp .ge 111, 3) := by decide +kernel
theorem dX7_cut_16 : decode cX7_cut 16 = .ok (.iload_n 3, 1) := by decide +kernel
theorem dX7_cut_17 : decode cX7_cut 17 = .ok (.iload_n 2, 1) := by decide +kernel
theorem dX7_cut_18 : decode cX7_cut 18 = .ok (.if_icmp .ge 106, 3) := by decide +kernel
theorem dX7_cut_21 : decode cX7_cut 21 = .ok (.aload_n 0, 1) := by decide +kernel
theorem dX7_cut_22 : decode cX7_cut 22 = .ok (.getfield 41, 3) := by decide +kernel
theorem dX7_cut_25 : decode cX7_cut 25 = .ok (.sipush 401, 3) := by decide +kernel
theorem dX7_cut_28 : decode cX7_cut 28 = .ok (.if_icmp .ge 96, 3) := by decide +kernel
theorem dX7_cut_31 : decode cX7_cut 31 = .ok (.aload_n 1, 1) := by decide +kernel
theorem dX7_cut_32 : decode cX7_cut 32 = .ok (.iload_n 3, 1) := by decide +kernel
theorem dX7_cut_33 : decode cX7_cut 33 = .ok (.baload, 1) := by decide +kernel
theorem dX7_cut_34 : decode cX7_cut 34 = .ok (.sipush 255, 3) := by decide +kernel
theorem dX7_cut_37 : decode cX7_cut 37 = .ok (.iand, 1) := by decide +kernel
theorem dX7_cut_38 : decode cX7_cut 38 = .ok (.istore 5, 2) := by decide +kernel
theorem dX7_cut_40 : decode cX7_cut 40 = .ok (.iload 5, 2) := by decide +kernel
theorem dX7_cut_42 : decode cX7_cut 42 = .ok (.invokestatic 45, 3) := by decide +kernel
theorem dX7_cut_45 : decode cX7_cut 45 = .ok (.ifCond .eq 9, 3) := by decide +kernel
theorem dX7_cut_48 : decode cX7_cut 48 = .ok (.iinc 3 1, 3) := by decide +kernel
theorem dX7_cut_51 : decode cX7_cut 51 = .ok (.goto 67, 3) := by decide +kernel
theorem dX7_cut_54 : decode cX7_cut 54 = .ok (.iload 5, 2) := by decide +kernel
theorem dX7_cut_56 : decode cX7_cut 56 = .ok (.invokestatic 49, 3) := by decide +kernel
theorem dX7_cut_59 : decode cX7_cut 59 = .ok (.ifCond .eq 14, 3) := by decide +kernel
theorem dX7_cut_62 : decode cX7_cut 62 = .ok (.aload_n 0, 1) := by decide +kernel
theorem dX7_cut_63 : decode cX7_cut 63 = .ok (.aload_n 1, 1) := by decide +kernel
theorem dX7_cut_64 : decode cX7_cut 64 = .ok (.iload_n 2, 1) := by decide +kernel
theorem dX7_cut_65 : decode cX7_cut 65 = .ok (.iload_n 3, 1) := by decide +kernel
theorem dX7_cut_66 : decode cX7_cut 66 = .ok (.invokevirtual 52, 3) := by decide +kernel
theorem dX7_cut_69 : decode cX7_cut 69 = .ok (.istore_n 3, 1) := by decide +kernel
theorem dX7_cut_70 : decode cX7_cut 70 = .ok (.goto 48, 3) := by decide +kernel
theorem dX7_cut_73 : decode cX7_cut 73 = .ok (.iload 5, 2) := by decide +kernel
theorem dX7_cut_75 : decode cX7_cut 75 = .ok (.invokestatic 56, 3) := by decide +kernel
theorem dX7_cut_78 : decode cX7_cut 78 = .ok (.ifCond .eq 14, 3) := by decide +kernel
theorem dX7_cut_81 : decode cX7_cut 81 = .ok (.aload_n 0, 1) := by decide +kernel
theorem dX7_cut_82 : decode cX7_cut 82 = .ok (.aload_n 1, 1) := by decide +kernel
theorem dX7_cut_83 : decode cX7_cut 83 = .ok (.iload_n 2, 1) := by decide +kernel
theorem dX7_cut_84 : decode cX7_cut 84 = .ok (.iload_n 3, 1) := by decide +kernel
theorem dX7_cut_85 : decode cX7_cut 85 = .ok (.invokevirtual 59, 3) := by decide +kernel
theorem dX7_cut_88 : decode cX7_cut 88 = .ok (.istore_n 3, 1) := by decide +kernel
theorem dX7_cut_89 : decode cX7_cut 89 = .ok (.goto 29, 3) := by decide +kernel
theorem dX7_cut_92 : decode cX7_cut 92 = .ok (.aload_n 0, 1) := by decide +kernel
theorem dX7_cut_93 : decode cX7_cut 93 = .ok (.ldc 62, 2) := by decide +kernel
theorem dX7_cut_95 : decode cX7_cut 95 = .ok (.iload 5, 2) := by decide +kernel
theorem dX7_cut_97 : decode cX7_cut 97 = .ok (.i2c, 1) := by decide +kernel
theorem dX7_cut_98 : decode cX7_cut 98 = .ok (.invokevirtual 64, 3) := by decide +kernel
theorem dX7_cut_101 : decode cX7_cut 101 = .ok (.ifCond .lt 8, 3) := by decide +kernel
theorem dX7_cut_104 : decode cX7_cut 104 = .ok (.iload 5, 2) := by decide +kernel
theorem dX7_cut_106 : decode cX7_cut 106 = .ok (.goto 4, 3) := by decide +kernel
theorem dX7_cut_109 : decode cX7_cut 109 = .ok (.iconst 1, 1) := by decide +kernel
theorem dX7_cut_110 : decode cX7_cut 110 = .ok (.iload_n 3, 1) := by decide +kernel
theorem dX7_cut_111 : decode cX7_cut 111 = .ok (.lconst 0, 1) := by decide +kernel
theorem dX7_cut_112 : decode cX7_cut 112 = .ok (.invokevirtual 68, 3) := by decide +kernel
theorem dX7_cut_115 : decode cX7_cut 115 = .ok (.iinc 3 1, 3) := by decide +kernel
theorem dX7_cut_118 : decode cX7_cut 118 = .ok (.iinc 4 1, 3) := by decide +kernel
theorem dX7_cut_121 : decode cX7_cut 121 = .ok (.goto (-111), 3) := by decide +kernel
theorem dX7_cut_124 : decode cX7_cut 124 = .ok (.aload_n 0, 1) := by decide +kernel
theorem dX7_cut_125 : decode cX7_cut 125 = .ok (.iconst 0, 1) := by decide +kernel
theorem dX7_cut_126 : decode cX7_cut 126 = .ok (.iload_n 2, 1) := by decide +kernel
theorem dX7_cut_127 : decode cX7_cut 127 = .ok (.lconst 0, 1) := by decide +kernel
theorem dX7_cut_128 : decode cX7_cut 128 = .ok (.invokevirtual 68, 3) := by decide +kernel
theorem dX7_cut_131 : decode cX7_cut 131 = .ok (.return_, 1) := by decide +kernel
