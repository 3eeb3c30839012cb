theorem dX8_withPlacement_10 : decode cX8_withPlacement 10 = .ok (.iload 4, 2) := by decide +kernel
theorem dX8_withPlacement_12 : decode cX8_withPlacement 12 = .ok (.lshl, 1) := by decide +kernel
theorem dX8_withPlacement_13 : decode cX8_withPlacement 13 = .ok (.ldc2_w 274, 3) := by decide +kernel
theorem dX8_withPlacement_16 : decode cX8_withPlacement 16 = .ok (.lxor, 1) := by decide +kernel
theorem dX8_withPlacement_17 : decode cX8_withPlacement 17 = .ok (.land, 1) := by decide +kernel
theorem dX8_withPlacement_18 : decode cX8_withPlacement 18 = .ok (.iload_n 3, 1) := by decide +kernel
theorem dX8_withPlacement_19 : decode cX8_withPlacement 19 = .ok (.i2l, 1) := by decide +kernel
theorem dX8_withPlacement_20 : decode cX8_withPlacement 20 = .ok (.iload 4, 2) := by decide +kernel
theorem dX8_withPlacement_22 : decode cX8_withPlacement 22 = .ok (.lshl, 1) := by decide +kernel
theorem dX8_withPlacement_23 : decode cX8_withPlacement 23 = .ok (.lor, 1) := by decide +kernel
theorem dX8_withPlacement_24 : decode cX8_withPlacement 24 = .ok (.lreturn, 1) := by decide +kernel
theorem dX9_init_0 : decode cX9_init 0 = .ok (.aload_n 0, 1) := by decide +kernel
theorem dX9_init_1 : decode cX9_init 1 = .ok (.invokespecial 1, 3) := by decide +kernel
theorem dX9_init_4 : decode cX9_init 4 = .ok (.aload_n 0, 1) := by decide +kernel
theorem dX9_init_5 : decode cX9_init 5 = .ok (.iconst 4, 1) := by decide +kernel
theorem dX9_init_6 : decode cX9_init 6 = .ok (.newarray .int, 2) := by decide +kernel
theorem dX9_init_8 : decode cX9_init 8 = .ok (.putfield 7, 3) := by decide +kernel
theorem dX9_init_11 : decode cX9_init 11 = .ok (.aload_n 0, 1) := by decide +kernel
theorem dX9_init_12 : decode cX9_init 12 = .ok (.bipush 64, 2) := by decide +kernel
theorem dX9_init_14 : decode cX9_init 14 = .ok (.newarray .int, 2) := by decide +kernel
theorem dX9_init_16 : decode cX9_init 16 = .ok (.putfield 13, 3) := by decide +kernel
theorem dX9_init_19 : decode cX9_init 19 = .ok (.aload_n 0, 1) := by decide +kernel
theorem dX9_init_20 : decode cX9_init 20 = .ok (.iconst 5, 1) := by decide +kernel
theorem dX9_init_21 : decode cX9_init 21 = .ok (.newarray .int, 2) := by decide +kernel
theorem dX9_init_23 : decode cX9_init 23 = .ok (.putfield 16, 3) := by decide +kernel
theorem dX9_init_26 : decode cX9_init 26 = .ok (.aload_n 0, 1) := by decide +kernel
theorem dX9_init_27 : decode cX9_init 27 = .ok (.bipush 25, 2) := by decide +kernel
theorem dX9_init_29 : decode cX9_init 29 = .ok (.newarray .int, 2) := by decide +kernel
theorem dX9_init_31 : decode cX9_init 31 = .ok (.putfield 19, 3) := by decide +kernel
theorem dX9_init_34 : decode cX9_init 34 = .ok (.aload_n 0, 1) := by decide +kernel
theorem dX9_init_35 : decode cX9_init 35 = .ok (.bipush 25, 2) := by decide +kernel
theorem dX9_init_37 : decode cX9_init 37 = .ok (.newarray .int, 2) := by decide +kernel
theorem dX9_init_39 : decode cX9_init 39 = .ok (.putfield 22, 3) := by decide +kernel
theorem dX9_init_42 : decode cX9_init 42 = .ok (.aload_n 0, 1) := by decide +kernel
theorem dX9_init_43 : decode cX9_init 43 = .ok (.iconst 5, 1) := by decide +kernel
theorem dX9_init_44 : decode cX9_init 44 = .ok (.newarray .int, 2) := by decide +kernel
theorem dX9_init_46 : decode cX9_init 46 = .ok (.putfield 25, 3) := by decide +kernel
theorem dX9_init_49 : decode cX9_init 49 = .ok (.aload_n 0, 1) := by decide +kernel
theorem dX9_init_50 : decode cX9_init 50 = .ok (.iconst 5, 1) := by decide +kernel
theorem dX9_init_51 : decode cX9_init 51 = .ok (.newarray .int, 2) := by decide +kernel
theorem dX9_init_53 : decode cX9_init 53 = .ok (.putfield 28, 3) := by decide +kernel
theorem dX9_init_56 : decode cX9_init 56 = .ok (.aload_n 0, 1) := by decide +kernel
theorem dX9_init_57 : decode cX9_init 57 = .ok (.iconst 5, 1) := by decide +kernel
theorem dX9_init_58 : decode cX9_init 58 = .ok (.newarray .int, 2) := by decide +kernel
theorem dX9_init_60 : decode cX9_init 60 = .ok (.putfield 31, 3) := by decide +kernel
theorem dX9_init_63 : decode cX9_init 63 = .ok (.aload_n 0, 1) := by decide +kernel
theorem dX9_init_64 : decode cX9_init 64 = .ok (.iconst 5, 1) := by decide +kernel
theorem dX9_init_65 : decode cX9_init 65 = .ok (.newarray .int, 2) := by decide +kernel
theorem dX9_init_67 : decode cX9_init 67 = .ok (.putfield 34, 3) := by decide +kernel
theorem dX9_init_70 : decode cX9_init 70 = .ok (.aload_n 0, 1) := by decide +kernel
theorem dX9_init_71 : decode cX9_init 71 = .ok (.iconst 5, 1) := by decide +kernel
theorem dX9_init_72 : decode cX9_init 72 = .ok (.newarray .int, 2) := by decide +kernel
theorem dX9_init_74 : decode cX9_init 74 = .ok (.putfield 37, 3) := by decide +kernel
theorem dX9_init_77 : decode cX9_init 77 = .ok (.aload_n 0, 1) := by decide +kernel
theorem dX9_init_78 : decode cX9_init 78 = .ok (.bipush 80, 2) := by decide +kernel
theorem dX9_init_80 : decode cX9_init 80 = .ok (.newarray .char, 2) := by decide +kernel
theorem dX9_init_82 : decode cX9_init 82 = .ok (.putfield 40, 3) := by decide +kernel
theorem dX9_init_85 : decode cX9_init 85 = .ok (.aload_n 0, 1) := by decide +kernel
theorem dX9_init_86 : decode cX9_init 86 = .ok (.bipush 64, 2) := by decide +kernel
theorem dX9_init_88 : decode cX9_init 88 = .ok (.newarray .int, 2) := by decide +kernel
theorem dX9_init_90 : decode cX9_init 90 = .ok (.putfield 44, 3) := by decide +kernel
theorem dX9_init_93 : decode cX9_init 93 = .ok (.aload_n 0, 1) := by decide +kernel
theorem dX9_init_94 : decode cX9_init 94 = .ok (.iconst 5, 1) := by decide +kernel
theorem dX9_init_95 : decode cX9_init 95 = .ok (.newarray .int, 2) := by decide +kernel
theorem dX9_init_97 : decode cX9_init 97 = .ok (.putfield 47, 3) := by decide +kernel
theorem dX9_init_100 : decode cX9_init 100 = .ok (.aload_n 0, 1) := by decide +kernel
theorem dX9_init_101 : decode cX9_init 101 = .ok (.bipush 25, 2) := by decide +kernel
theorem dX9_init_103 : decode cX9_init 103 = .ok (.newarray .int, 2) := by decide +kernel
theorem dX9_init_105 : decode cX9_init 105 = .ok (.putfield 50, 3) := by decide +kernel
theorem dX9_init_108 : decode cX9_init 108 = .ok (.aload_n 0, 1) := by decide +kernel
theorem dX9_init_109 : decode cX9_init 109 = .ok (.bipush 25, 2) := by decide +kernel
theorem dX9_init_111 : decode cX9_init 111 = .ok (.newarray .int, 2) := by decide +kernel
theorem dX9_init_113 : decode cX9_init 113 = .ok (.putfield 53, 3) := by decide +kernel
theorem dX9_init_116 : decode cX9_init 116 = .ok (.aload_n 0, 1) := by decide +kernel
theorem dX9_init_117 : decode cX9_init 117 = .ok (.iconst 5, 1) := by decide +kernel
theorem dX9_init_118 : decode cX9_init 118 = .ok (.newarray .int, 2) := by decide +kernel
theorem dX9_init_120 : decode cX9_init 120 = .ok (.putfield 56, 3) := by decide +kernel
theorem dX9_init_123 : decode cX9_init 123 = .ok (.aload_n 0, 1) := by decide +kernel
theorem dX9_init_124 : decode cX9_init 124 = .ok (.iconst 5, 1) := by decide +kernel
theorem dX9_init_125 : decode cX9_init 125 = .ok (.newarray .int, 2) := by decide +kernel
theorem dX9_init_127 : decode cX9_init 127 = .ok (.putfield 59, 3) := by decide +kernel
theorem dX9_init_130 : decode cX9_init 130 = .ok (.aload_n 0, 1) := by decide +kernel
theorem dX9_init_131 : decode cX9_init 131 = .ok (.iconst 5, 1) := by decide +kernel
theorem dX9_init_132 : decode cX9_init 132 = .ok (.newarray .int, 2) := by decide +kernel
theorem dX9_init_134 : decode cX9_init 134 = .ok (.putfield 62, 3) := by decide +kernel
theorem dX9_init_137 : decode cX9_init 137 = .ok (.aload_n 0, 1) := by decide +kernel
theorem dX9_init_138 : decode cX9_init 138 = .ok (.bipush 64, 2) := by decide +kernel
theorem dX9_init_140 : decode cX9_init 140 = .ok (.newarray .int, 2) := by decide +kernel
theorem dX9_init_142 : decode cX9_init 142 = .ok (.putfield 65, 3) := by decide +kernel
theorem dX9_init_145 : decode cX9_init 145 = .ok (.aload_n 0, 1) := by decide +kernel
theorem dX9_init_146 : decode cX9_init 146 = .ok (.iconst 4, 1) := by decide +kernel
theorem dX9_init_147 : decode cX9_init 147 = .ok (.newarray .int, 2) := by decide +kernel
theorem dX9_init_149 : decode cX9_init 149 = .ok (.putfield 68, 3) := by decide +kernel
theorem dX9_init_152 : decode cX9_init 152 = .ok (.aload_n 0, 1) := by decide +kernel
theorem dX9_init_153 : decode cX9_init 153 = .ok (.sipush 200, 3) := by decide +kernel
theorem dX9_init_156 : decode cX9_init 156 = .ok (.newarray .int, 2) := by decide +kernel
theorem dX9_init_158 : decode cX9_init 158 = .ok (.putfield 71, 3) := by decide +kernel
theorem dX9_init_161 : decode cX9_init 161 = .ok (.aload_n 0, 1) := by decide +kernel
theorem dX9_init_162 : decode cX9_init 162 = .ok (.sipush 200, 3) := by decide +kernel
theorem dX9_init_165 : decode cX9_init 165 = .ok (.newarray .int, 2) := by decide +kernel
theorem dX9_init_167 : decode cX9_init 167 = .ok (.putfield 74, 3) := by decide +kernel
theorem dX9_init_170 : decode cX9_init 170 = .ok (.aload_n 0, 1) := by decide +kernel
theorem dX9_init_171 : decode cX9_init 171 = .ok (.sipush 200, 3) := by decide +kernel
theorem dX9_init_174 : decode cX9_init 174 = .ok (.newarray .long, 2) := by decide +kernel
theorem dX9_init_176 : decode cX9_init 176 = .ok (.putfield 77, 3) := by decide +kernel
theorem dX9_init_179 : decode cX9_init 179 = .ok (.aload_n 0, 1) := by decide +kernel
theorem dX9_init_180 : decode cX9_init 180 = .ok (.sipush 200, 3) := by decide +kernel
theorem dX9_init_183 : decode cX9_init 183 = .ok (.newarray .long, 2) := by decide +kernel
theorem dX9_init_185 : decode cX9_init 185 = .ok (.putfield 81, 3) := by decide +kernel
theorem dX9_init_188 : decode cX9_init 188 = .ok (.aload_n 0, 1) := by decide +kernel
theorem dX9_init_189 : decode cX9_init 189 = .ok (.iconst 4, 1) := by decide +kernel
theorem dX9_init_190 : decode cX9_init 190 = .ok (.newarray .boolean, 2) := by decide +kernel
theorem dX9_init_192 : decode cX9_init 192 = .ok (.putfield 84, 3) := by decide +kernel
theorem dX9_init_195 : decode cX9_init 195 = .ok (.aload_n 0, 1) := by decide +kernel
theorem dX9_init_196 : decode cX9_init 196 = .ok (.iconst 4, 1) := by decide +kernel
theorem dX9_init_197 : decode cX9_init 197 = .ok (.newarray .long, 2) := by decide +kernel
theorem dX9_init_199 : decode cX9_init 199 = .ok (.putfield 88, 3) := by decide +kernel
theorem dX9_init_202 : decode cX9_init 202 = .ok (.aload_n 0, 1) := by decide +kernel
theorem dX9_init_203 : decode cX9_init 203 = .ok (.sipush 1536, 3) := by decide +kernel
theorem dX9_init_206 : decode cX9_init 206 = .ok (.newarray .int, 2) := by decide +kernel
theorem dX9_init_208 : decode cX9_init 208 = .ok (.putfield 91, 3) := by decide +kernel
theorem dX9_init_211 : decode cX9_init 211 = .ok (.aload_n 0, 1) := by decide +kernel
theorem dX9_init_212 : decode cX9_init 212 = .ok (.sipush 1280, 3) := by decide +kernel
theorem dX9_init_215 : decode cX9_init 215 = .ok (.newarray .int, 2) := by decide +kernel
theorem dX9_init_217 : decode cX9_init 217 = .ok (.putfield 94, 3) := by decide +kernel
theorem dX9_init_220 : decode cX9_init 220 = .ok (.aload_n 0, 1) := by decide +kernel
theorem dX9_init_221 : decode cX9_init 221 = .ok (.sipush 1200, 3) := by decide +kernel
theorem dX9_init_224 : decode cX9_init 224 = .ok (.newarray .long, 2) := by decide +kernel
theorem dX9_init_226 : decode cX9_init 226 = .ok (.putfield 97, 3) := by decide +kernel
theorem dX9_init_229 : decode cX9_init 229 = .ok (.aload_n 0, 1) := by decide +kernel
theorem dX9_init_230 : decode cX9_init 230 = .ok (.sipush 1200, 3) := by decide +kernel
theorem dX9_init_233 : decode cX9_init 233 = .ok (.newarray .int, 2) := by decide +kernel
theorem dX9_init_235 : decode cX9_init 235 = .ok (.putfield 100, 3) := by decide +kernel
theorem dX9_init_238 : decode cX9_init 238 = .ok (.aload_n 0, 1) := by decide +kernel
theorem dX9_init_239 : decode cX9_init 239 = .ok (.sipush 1200, 3) := by decide +kernel
theorem dX9_init_242 : decode cX9_init 242 = .ok (.newarray .int, 2) := by decide +kernel
theorem dX9_init_244 : decode cX9_init 244 = .ok (.putfield 103, 3) := by decide +kernel
theorem dX9_init_247 : decode cX9_init 247 = .ok (.aload_n 0, 1) := by decide +kernel
theorem dX9_init_248 : decode cX9_init 248 = .ok (.sipush 1200, 3) := by decide +kernel
theorem dX9_init_251 : decode cX9_init 251 = .ok (.newarray .int, 2) := by decide +kernel
theorem dX9_init_253 : decode cX9_init 253 = .ok (.putfield 106, 3) := by decide +kernel
theorem dX9_init_256 : decode cX9_init 256 = .ok (.aload_n 0, 1) := by decide +kernel
theorem dX9_init_257 : decode cX9_init 257 = .ok (.iconst 3, 1) := by decide +kernel
theorem dX9_init_258 : decode cX9_init 258 = .ok (.putfield 109, 3) := by decide +kernel
theorem dX9_init_261 : decode cX9_init 261 = .ok (.aload_n 0, 1) := by decide +kernel
theorem dX9_init_262 : decode cX9_init 262 = .ok (.iconst 3, 1) := by decide +kernel
theorem dX9_init_263 : decode cX9_init 263 = .ok (.putfield 113, 3) := by decide +kernel
theorem dX9_init_266 : decode cX9_init 266 = .ok (.aload_n 0, 1) := by decide +kernel
theorem dX9_init_267 : decode cX9_init 267 = .ok (.bipush 45, 2) := by decide +kernel
theorem dX9_init_269 : decode cX9_init 269 = .ok (.putfield 116, 3) := by decide +kernel
theorem dX9_init_272 : decode cX9_init 272 = .ok (.iconst 0, 1) := by decide +kernel
theorem dX9_init_273 : decode cX9_init 273 = .ok (.istore_n 1, 1) := by decide +kernel
theorem dX9_init_274 : decode cX9_init 274 = .ok (.iload_n 1, 1) := by decide +kernel
theorem dX9_init_275 : decode cX9_init 275 = .ok (.iconst 4, 1) := by decide +kernel
theorem dX9_init_276 : decode cX9_init 276 = .ok (.if_icmp .ge 16, 3) := by decide +kernel
theorem dX9_init_279 : decode cX9_init 279 = .ok (.aload_n 0, 1) := by decide +kernel
theorem dX9_init_280 : decode cX9_init 280 = .ok (.getfield 7, 3) := by decide +kernel
theorem dX9_init_283 : decode cX9_init 283 = .ok (.iload_n 1, 1) := by decide +kernel
theorem dX9_init_284 : decode cX9_init 284 = .ok (.iconst 1, 1) := by decide +kernel
theorem dX9_init_285 : decode cX9_init 285 = .ok (.iastore, 1) := by decide +kernel
theorem dX9_init_286 : decode cX9_init 286 = .ok (.iinc 1 1, 3) := by decide +kernel
theorem dX9_init_289 : decode cX9_init 289 = .ok (.goto (-15), 3) := by decide +kernel
theorem dX9_init_292 : decode cX9_init 292 = .ok (.return_, 1) := by decide +kernel
theorem dX9_in_0 : decode cX9_in 0 = .ok (.iload_n 0, 1) := by decide +kernel
theorem dX9_in_1 : decode cX9_in 1 = .ok (.iload_n 1, 1) := by decide +kernel
theorem dX9_in_2 : decode cX9_in 2 = .ok (.if_icmp .lt 12, 3) := by decide +kernel
theorem dX9_in_5 : decode cX9_in 5 = .ok (.iload_n 0, 1) := by decide +kernel
theorem dX9_in_6 : decode cX9_in 6 = .ok (.iload_n 2, 1) := by decide +kernel
theorem dX9_in_7 : decode cX9_in 7 = .ok (.if_icmp .gt 7, 3) := by decide +kernel
theorem dX9_in_10 : decode cX9_in 10 = .ok (.iconst 1, 1) := by decide +kernel
theorem dX9_in_11 : decode cX9_in 11 = .ok (.goto 4, 3) := by decide +kernel
theorem dX9_in_14 : decode cX9_in 14 = .ok (.iconst 0, 1) := by decide +kernel
theorem dX9_in_15 : decode cX9_in 15 = .ok (.ireturn, 1) := by decide +kernel
theorem dX9_noBlock_0 : decode cX9_noBlock 0 = .ok (.iload_n 1, 1) := by decide +kernel
theorem dX9_noBlock_1 : decode cX9_noBlock 1 = .ok (.iconst 0, 1) := by decide +kernel
theorem dX9_noBlock_2 : decode cX9_noBlock 2 = .ok (.iconst 4, 1) := by decide +kernel
theorem dX9_noBlock_3 : decode cX9_noBlock 3 = .ok (.invokestatic 119, 3) := by decide +kernel
theorem dX9_noBlock_6 : decode cX9_noBlock 6 = .ok (.ifCond .eq 12, 3) := by decide +kernel
theorem dX9_noBlock_9 : decode cX9_noBlock 9 = .ok (.aload_n 0, 1) := by decide +kernel
theorem dX9_noBlock_10 : decode cX9_noBlock 10 = .ok (.getfield 16, 3) := by decide +kernel
theorem dX9_noBlock_13 : decode cX9_noBlock 13 = .ok (.iload_n 1, 1) := by decide +kernel
theorem dX9_noBlock_14 : decode cX9_noBlock 14 = .ok (.iaload, 1) := by decide +kernel
theorem dX9_noBlock_15 : decode cX9_noBlock 15 = .ok (.ifCond .ne 7, 3) := by decide +kernel
theorem dX9_noBlock_18 : decode cX9_noBlock 18 = .ok (.iconst 1, 1) := by decide +kernel
theorem dX9_noBlock_19 : decode cX9_noBlock 19 = .ok (.goto 4, 3) := by decide +kernel
theorem dX9_noBlock_22 : decode cX9_noBlock 22 = .ok (.iconst 0, 1) := by decide +kernel
theorem dX9_noBlock_23 : decode cX9_noBlock 23 = .ok (.ireturn, 1) := by decide +kernel
theorem dX9_isInYard_0 : decode cX9_isInYard 0 = .ok (.iload_n 1, 1) := by decide +kernel
theorem dX9_isInYard_1 : decode cX9_isInYard 1 = .ok (.iconst 0, 1) := by decide +kernel
theorem dX9_isInYard_2 : decode cX9_isInYard 2 = .ok (.aload_n 0, 1) := by decide +kernel
theorem dX9_isInYard_3 : decode cX9_isInYard 3 = .ok (.getfield 109, 3) := by decide +kernel
theorem dX9_isInYard_6 : decode cX9_isInYard 6 = .ok (.iconst 1, 1) := by decide +kernel
theorem dX9_isInYard_7 : decode cX9_isInYard 7 = .ok (.isub, 1) := by decide +kernel
theorem dX9_isInYard_8 : decode cX9_isInYard 8 = .ok (.invokestatic 119, 3) := by decide +kernel
theorem dX9_isInYard_11 : decode cX9_isInYard 11 = .ok (.ifCond .eq 21, 3) := by decide +kernel
theorem dX9_isInYard_14 : decode cX9_isInYard 14 = .ok (.iload_n 2, 1) := by decide +kernel
theorem dX9_isInYard_15 : decode cX9_isInYard 15 = .ok (.iconst 0, 1) := by decide +kernel
theorem dX9_isInYard_16 : decode cX9_isInYard 16 = .ok (.aload_n 0, 1) := by decide +kernel
theorem dX9_isInYard_17 : decode cX9_isInYard 17 = .ok (.getfield 113, 3) := by decide +kernel
theorem dX9_isInYard_20 : decode cX9_isInYard 20 = .ok (.iconst 1, 1) := by decide +kernel
theorem dX9_isInYard_21 : decode cX9_isInYard 21 = .ok (.isub, 1) := by decide +kernel
theorem dX9_isInYard_22 : decode cX9_isInYard 22 = .ok (.invokestatic 119, 3) := by decide +kernel
theorem dX9_isInYard_25 : decode cX9_isInYard 25 = .ok (.ifCond .eq 7, 3) := by decide +kernel
theorem dX9_isInYard_28 : decode cX9_isInYard 28 = .ok (.iconst 1, 1) := by decide +kernel
theorem dX9_isInYard_29 : decode cX9_isInYard 29 = .ok (.goto 4, 3) := by decide +kernel
theorem dX9_isInYard_32 : decode cX9_isInYard 32 = .ok (.iconst 0, 1) := by decide +kernel
theorem dX9_isInYard_33 : decode cX9_isInYard 33 = .ok (.ireturn, 1) := by decide +kernel
theorem dX9_kindAt_0 : decode cX9_kindAt 0 = .ok (.aload_n 0, 1) := by decide +kernel
theorem dX9_kindAt_1 : decode cX9_kindAt 1 = .ok (.getfield 13, 3) := by decide +kernel
theorem dX9_kindAt_4 : decode cX9_kindAt 4 = .ok (.bipush 8, 2) := by decide +kernel
theorem dX9_kindAt_6 : decode cX9_kindAt 6 = .ok (.iload_n 2, 1) := by decide +kernel
theorem dX9_kindAt_7 : decode cX9_kindAt 7 = .ok (.imul, 1) := by decide +kernel
theorem dX9_kindAt_8 : decode cX9_kindAt 8 = .ok (.iload_n 1, 1) := by decide +kernel
theorem dX9_kindAt_9 : decode cX9_kindAt 9 = .ok (.iadd, 1) := by decide +kernel
theorem dX9_kindAt_10 : decode cX9_kindAt 10 = .ok (.iaload, 1) := by decide +kernel
theorem dX9_kindAt_11 : decode cX9_kindAt 11 = .ok (.ireturn, 1) := by decide +kernel
theorem dX9_turnedX_0 : decode cX9_turnedX 0 = .ok (.iload_n 2, 1) := by decide +kernel
theorem dX9_turnedX_1 : decode cX9_turnedX 1 = .ok (.ifCond .ne 7, 3) := by decide +kernel
theorem dX9_turnedX_4 : decode cX9_turnedX 4 = .ok (.iload_n 0, 1) := by decide +kernel
theorem dX9_turnedX_5 : decode cX9_turnedX 5 = .ok (.goto 24, 3) := by decide +kernel
theorem dX9_turnedX_8 : decode cX9_turnedX 8 = .ok (.iload_n 2, 1) := by decide +kernel
theorem dX9_turnedX_9 : decode cX9_turnedX 9 = .ok (.iconst 1, 1) := by decide +kernel
theorem dX9_turnedX_10 : decode cX9_turnedX 10 = .ok (.if_icmp .ne 8, 3) := by decide +kernel
theorem dX9_turnedX_13 : decode cX9_turnedX 13 = .ok (.iload_n 1, 1) := by decide +kernel
theorem dX9_turnedX_14 : decode cX9_turnedX 14 = .ok (.ineg, 1) := by decide +kernel
theorem dX9_turnedX_15 : decode cX9_turnedX 15 = .ok (.goto 14, 3) := by decide +kernel
theorem dX9_turnedX_18 : decode cX9_turnedX 18 = .ok (.iload_n 2, 1) := by decide +kernel
theorem dX9_turnedX_19 : decode cX9_turnedX 19 = .ok (.iconst 2, 1) := by decide +kernel
theorem dX9_turnedX_20 : decode cX9_turnedX 20 = .ok (.if_icmp .ne 8, 3) := by decide +kernel
theorem dX9_turnedX_23 : decode cX9_turnedX 23 = .ok (.iload_n 0, 1) := by decide +kernel
theorem dX9_turnedX_24 : decode cX9_turnedX 24 = .ok (.ineg, 1) := by decide +kernel
theorem dX9_turnedX_25 : decode cX9_turnedX 25 = .ok (.goto 4, 3) := by decide +kernel
theorem dX9_turnedX_28 : decode cX9_turnedX 28 = .ok (.iload_n 1, 1) := by decide +kernel
theorem dX9_turnedX_29 : decode cX9_turnedX 29 = .ok (.ireturn, 1) := by decide +kernel
theorem dX9_turnedY_0 : decode cX9_turnedY 0 = .ok (.iload_n 2, 1) := by decide +kernel
theorem dX9_turnedY_1 : decode cX9_turnedY 1 = .ok (.ifCond .ne 7, 3) := by decide +kernel
theorem dX9_turnedY_4 : decode cX9_turnedY 4 = .ok (.iload_n 1, 1) := by decide +kernel
theorem dX9_turnedY_5 : decode cX9_turnedY 5 = .ok (.goto 24, 3) := by decide +kernel
theorem dX9_turnedY_8 : decode cX9_turnedY 8 = .ok (.iload_n 2, 1) := by decide +kernel
theorem dX9_turnedY_9 : decode cX9_turnedY 9 = .ok (.iconst 1, 1) := by decide +kernel
theorem dX9_turnedY_10 : decode cX9_turnedY 10 = .ok (.if_icmp .ne 7, 3) := by decide +kernel
theorem dX9_turnedY_13 : decode cX9_turnedY 13 = .ok (.iload_n 0, 1) := by decide +kernel
theorem dX9_turnedY_14 : decode cX9_turnedY 14 = .ok (.goto 15, 3) := by decide +kernel
theorem dX9_turnedY_17 : decode cX9_turnedY 17 = .ok (.iload_n 2, 1) := by decide +kernel
theorem dX9_turnedY_18 : decode cX9_turnedY 18 = .ok (.iconst 2, 1) := by decide +kernel
theorem dX9_turnedY_19 : decode cX9_turnedY 19 = .ok (.if_icmp .ne 8, 3) := by decide +kernel
theorem dX9_turnedY_22 : decode cX9_turnedY 22 = .ok (.iload_n 1, 1) := by decide +kernel
theorem dX9_turnedY_23 : decode cX9_turnedY 23 = .ok (.ineg, 1) := by decide +kernel
theorem dX9_turnedY_24 : decode cX9_turnedY 24 = .ok (.goto 5, 3) := by decide +kernel
theorem dX9_turnedY_27 : decode cX9_turnedY 27 = .ok (.iload_n 0, 1) := by decide +kernel
theorem dX9_turnedY_28 : decode cX9_turnedY 28 = .ok (.ineg, 1) := by decide +kernel
theorem dX9_turnedY_29 : decode cX9_turnedY 29 = .ok (.ireturn, 1) := by decide +kernel
theorem dX9_cellX_0 : decode cX9_cellX 0 = .ok (.iload_n 3, 1) := by decide +kernel
theorem dX9_cellX_1 : decode cX9_cellX 1 = .ok (.bipush 8, 2) := by decide +kernel
theorem dX9_cellX_3 : decode cX9_cellX 3 = .ok (.irem, 1) := by decide +kernel
theorem dX9_cellX_4 : decode cX9_cellX 4 = .ok (.aload_n 0, 1) := by decide +kernel
theorem dX9_cellX_5 : decode cX9_cellX 5 = .ok (.getfield 19, 3) := by decide +kernel
theorem dX9_cellX_8 : decode cX9_cellX 8 = .ok (.iconst 5, 1) := by decide +kernel
theorem dX9_cellX_9 : decode cX9_cellX 9 = .ok (.iload_n 1, 1) := by decide +kernel
theorem dX9_cellX_10 : decode cX9_cellX 10 = .ok (.imul, 1) := by decide +kernel
theorem dX9_cellX_11 : decode cX9_cellX 11 = .ok (.iload_n 2, 1) := by decide +kernel
theorem dX9_cellX_12 : decode cX9_cellX 12 = .ok (.iadd, 1) := by decide +kernel
theorem dX9_cellX_13 : decode cX9_cellX 13 = .ok (.iaload, 1) := by decide +kernel
theorem dX9_cellX_14 : decode cX9_cellX 14 = .ok (.aload_n 0, 1) := by decide +kernel
theorem dX9_cellX_15 : decode cX9_cellX 15 = .ok (.getfield 22, 3) := by decide +kernel
theorem dX9_cellX_18 : decode cX9_cellX 18 = .ok (.iconst 5, 1) := by decide +kernel
theorem dX9_cellX_19 : decode cX9_cellX 19 = .ok (.iload_n 1, 1) := by decide +kernel
theorem dX9_cellX_20 : decode cX9_cellX 20 = .ok (.imul, 1) := by decide +kernel
theorem dX9_cellX_21 : decode cX9_cellX 21 = .ok (.iload_n 2, 1) := by decide +kernel
theorem dX9_cellX_22 : decode cX9_cellX 22 = .ok (.iadd, 1) := by decide +kernel
theorem dX9_cellX_23 : decode cX9_cellX 23 = .ok (.iaload, 1) := by decide +kernel
theorem dX9_cellX_24 : decode cX9_cellX 24 = .ok (.iload_n 3, 1) := by decide +kernel
theorem dX9_cellX_25 : decode cX9_cellX 25 = .ok (.bipush 64, 2) := by decide +kernel
theorem dX9_cellX_27 : decode cX9_cellX 27 = .ok (.idiv, 1) := by decide +kernel
theorem dX9_cellX_28 : decode cX9_cellX 28 = .ok (.invokestatic 123, 3) := by decide +kernel
theorem dX9_cellX_31 : decode cX9_cellX 31 = .ok (.iadd, 1) := by decide +kernel
theorem dX9_cellX_32 : decode cX9_cellX 32 = .ok (.ireturn, 1) := by decide +kernel
theorem dX9_cellY_0 : decode cX9_cellY 0 = .ok (.iload_n 3, 1) := by decide +kernel
theorem dX9_cellY_1 : decode cX9_cellY 1 = .ok (.bipush 8, 2) := by decide +kernel
theorem dX9_cellY_3 : decode cX9_cellY 3 = .ok (.idiv, 1) := by decide +kernel
theorem dX9_cellY_4 : decode cX9_cellY 4 = .ok (.bipush 8, 2) := by decide +kernel
theorem dX9_cellY_6 : decode cX9_cellY 6 = .ok (.irem, 1) := by decide +kernel
theorem dX9_cellY_7 : decode cX9_cellY 7 = .ok (.aload_n 0, 1) := by decide +kernel
theorem dX9_cellY_8 : decode cX9_cellY 8 = .ok (.getfield 19, 3) := by decide +kernel
theorem dX9_cellY_11 : decode cX9_cellY 11 = .ok (.iconst 5, 1) := by decide +kernel
theorem dX9_cellY_12 : decode cX9_cellY 12 = .ok (.iload_n 1, 1) := by decide +kernel
theorem dX9_cellY_13 : decode cX9_cellY 13 = .ok (.imul, 1) := by decide +kernel
theorem dX9_cellY_14 : decode cX9_cellY 14 = .ok (.iload_n 2, 1) := by decide +kernel
theorem dX9_cellY_15 : decode cX9_cellY 15 = .ok (.iadd, 1) := by decide +kernel
theorem dX9_cellY_16 : decode cX9_cellY 16 = .ok (.iaload, 1) := by decide +kernel
theorem dX9_cellY_17 : decode cX9_cellY 17 = .ok (.aload_n 0, 1) := by decide +kernel
theorem dX9_cellY_18 : decode cX9_cellY 18 = .ok (.getfield 22, 3) := by decide +kernel
theorem dX9_cellY_21 : decode cX9_cellY 21 = .ok (.iconst 5, 1) := by decide +kernel
theorem dX9_cellY_22 : decode cX9_cellY 22 = .ok (.iload_n 1, 1) := by decide +kernel
theorem dX9_cellY_23 : decode cX9_cellY 23 = .ok (.imul, 1) := by decide +kernel
theorem dX9_cellY_24 : decode cX9_cellY 24 = .ok (.iload_n 2, 1) := by decide +kernel
theorem dX9_cellY_25 : decode cX9_cellY 25 = .ok (.iadd, 1) := by decide +kernel
theorem dX9_cellY_26 : decode cX9_cellY 26 = .ok (.iaload, 1) := by decide +kernel
theorem dX9_cellY_27 : decode cX9_cellY 27 = .ok (.iload_n 3, 1) := by decide +kernel
theorem dX9_cellY_28 : decode cX9_cellY 28 = .ok (.bipush 64, 2) := by decide +kernel
theorem dX9_cellY_30 : decode cX9_cellY 30 = .ok (.idiv, 1) := by decide +kernel
theorem dX9_cellY_31 : decode cX9_cellY 31 = .ok (.invokestatic 127, 3) := by decide +kernel
theorem dX9_cellY_34 : decode cX9_cellY 34 = .ok (.iadd, 1) := by decide +kernel
theorem dX9_cellY_35 : decode cX9_cellY 35 = .ok (.ireturn, 1) := by decide +kernel
theorem dX9_stepX_0 : decode cX9_stepX 0 = .ok (.iload_n 0, 1) := by decide +kernel
theorem dX9_stepX_1 : decode cX9_stepX 1 = .ok (.ifCond .ne 7, 3) := by decide +kernel
theorem dX9_stepX_4 : decode cX9_stepX 4 = .ok (.iconst 1, 1) := by decide +kernel
theorem dX9_stepX_5 : decode cX9_stepX 5 = .ok (.goto 13, 3) := by decide +kernel
theorem dX9_stepX_8 : decode cX9_stepX 8 = .ok (.iload_n 0, 1) := by decide +kernel
theorem dX9_stepX_9 : decode cX9_stepX 9 = .ok (.iconst 2, 1) := by decide +kernel
theorem dX9_stepX_10 : decode cX9_stepX 10 = .ok (.if_icmp .ne 7, 3) := by decide +kernel
theorem dX9_stepX_13 : decode cX9_stepX 13 = .ok (.iconst (-1), 1) := by decide +kernel
theorem dX9_stepX_14 : decode cX9_stepX 14 = .ok (.goto 4, 3) := by decide +kernel
theorem dX9_stepX_17 : decode cX9_stepX 17 = .ok (.iconst 0, 1) := by decide +kernel
theorem dX9_stepX_18 : decode cX9_stepX 18 = .ok (.ireturn, 1) := by decide +kernel
theorem dX9_stepY_0 : decode cX9_stepY 0 = .ok (.iload_n 0, 1) := by decide +kernel
theorem dX9_stepY_1 : decode cX9_stepY 1 = .ok (.iconst 1, 1) := by decide +kernel
theorem dX9_stepY_2 : decode cX9_stepY 2 = .ok (.if_icmp .ne 7, 3) := by decide +kernel
theorem dX9_stepY_5 : decode cX9_stepY 5 = .ok (.iconst 1, 1) := by decide +kernel
theorem dX9_stepY_6 : decode cX9_stepY 6 = .ok (.goto 13, 3) := by decide +kernel
theorem dX9_stepY_9 : decode cX9_stepY 9 = .ok (.iload_n 0, 1) := by decide +kernel
theorem dX9_stepY_10 : decode cX9_stepY 10 = .ok (.iconst 3, 1) := by decide +kernel
theorem dX9_stepY_11 : decode cX9_stepY 11 = .ok (.if_icmp .ne 7, 3) := by decide +kernel
theorem dX9_stepY_14 : decode cX9_stepY 14 = .ok (.iconst (-1), 1) := by decide +kernel
theorem dX9_stepY_15 : decode cX9_stepY 15 = .ok (.goto 4, 3) := by decide +kernel
theorem dX9_stepY_18 : decode cX9_stepY 18 = .ok (.iconst 0, 1) := by decide +kernel
theorem dX9_stepY_19 : decode cX9_stepY 19 = .ok (.ireturn, 1) := by decide +kernel
theorem dX9_type_0 : decode cX9_type 0 = .ok (.aload_n 0, 1) := by decide +kernel
theorem dX9_type_1 : decode cX9_type 1 = .ok (.getfield 130, 3) := by decide +kernel
theorem dX9_type_4 : decode cX9_type 4 = .ok (.bipush 80, 2) := by decide +kernel
theorem dX9_type_6 : decode cX9_type 6 = .ok (.if_icmp .ne 6, 3) := by decide +kernel
theorem dX9_type_9 : decode cX9_type 9 = .ok (.bipush (-5), 2) := by decide +kernel
theorem dX9_type_11 : decode cX9_type 11 = .ok (.ireturn, 1) := by decide +kernel
theorem dX9_type_12 : decode cX9_type 12 = .ok (.aload_n 0, 1) := by decide +kernel
theorem dX9_type_13 : decode cX9_type 13 = .ok (.getfield 40, 3) := by decide +kernel
theorem dX9_type_16 : decode cX9_type 16 = .ok (.aload_n 0, 1) := by decide +kernel
theorem dX9_type_17 : decode cX9_type 17 = .ok (.getfield 130, 3) := by decide +kernel
theorem dX9_type_20 : decode cX9_type 20 = .ok (.iload_n 1, 1) := by decide +kernel
theorem dX9_type_21 : decode cX9_type 21 = .ok (.castore, 1) := by decide +kernel
theorem dX9_type_22 : decode cX9_type 22 = .ok (.aload_n 0, 1) := by decide +kernel
theorem dX9_type_23 : decode cX9_type 23 = .ok (.dup, 1) := by decide +kernel
theorem dX9_type_24 : decode cX9_type 24 = .ok (.getfield 130, 3) := by decide +kernel
theorem dX9_type_27 : decode cX9_type 27 = .ok (.iconst 1, 1) := by decide +kernel
theorem dX9_type_28 : decode cX9_type 28 = .ok (.iadd, 1) := by decide +kernel
theorem dX9_type_29 : decode cX9_type 29 = .ok (.putfield 130, 3) := by decide +kernel
theorem dX9_type_32 : decode cX9_type 32 = .ok (.aload_n 0, 1) := by decide +kernel
theorem dX9_type_33 : decode cX9_type 33 = .ok (.getfield 130, 3) := by decide +kernel
theorem dX9_type_36 : decode cX9_type 36 = .ok (.ireturn, 1) := by decide +kernel
theorem dX9_clearText_0 : decode cX9_clearText 0 = .ok (.aload_n 0, 1) := by decide +kernel
theorem dX9_clearText_1 : decode cX9_clearText 1 = .ok (.getfield 130, 3) := by decide +kernel
theorem dX9_clearText_4 : decode cX9_clearText 4 = .ok (.istore_n 1, 1) := by decide +kernel
theorem dX9_clearText_5 : decode cX9_clearText 5 = .ok (.aload_n 0, 1) := by decide +kernel
theorem dX9_clearText_6 : decode cX9_clearText 6 = .ok (.iconst 0, 1) := by decide +kernel
theorem dX9_clearText_7 : decode cX9_clearText 7 = .ok (.putfield 130, 3) := by decide +kernel
theorem dX9_clearText_10 : decode cX9_clearText 10 = .ok (.iload_n 1, 1) := by decide +kernel
theorem dX9_clearText_11 : decode cX9_clearText 11 = .ok (.ireturn, 1) := by decide +kernel
theorem dX9_kindBy_0 : decode cX9_kindBy 0 = .ok (.iload_n 0, 1) := by decide +kernel
theorem dX9_kindBy_1 : decode cX9_kindBy 1 = .ok (.bipush 48, 2) := by decide +kernel
theorem dX9_kindBy_3 : decode cX9_kindBy 3 = .ok (.if_icmp .lt 17, 3) := by decide +kernel
theorem dX9_kindBy_6 : decode cX9_kindBy 6 = .ok (.iload_n 0, 1) := by decide +kernel
theorem dX9_kindBy_7 : decode cX9_kindBy 7 = .ok (.bipush 51, 2) := by decide +kernel
theorem dX9_kindBy_9 : decode cX9_kindBy 9 = .ok (.if_icmp .gt 11, 3) := by decide +kernel
theorem dX9_kindBy_12 : decode cX9_kindBy 12 = .ok (.bipush 6, 2) := by decide +kernel
theorem dX9_kindBy_14 : decode cX9_kindBy 14 = .ok (.iload_n 0, 1) := by decide +kernel
theorem dX9_kindBy_15 : decode cX9_kindBy 15 = .ok (.iadd, 1) := by decide +kernel
theorem dX9_kindBy_16 : decode cX9_kindBy 16 = .ok (.bipush 48, 2) := by decide +kernel
theorem dX9_kindBy_18 : decode cX9_kindBy 18 = .ok (.isub, 1) := by decide +kernel
theorem dX9_kindBy_19 : decode cX9_kindBy 19 = .ok (.ireturn, 1) := by decide +kernel
theorem dX9_kindBy_20 : decode cX9_kindBy 20 = .ok (.iload_n 0, 1) := by decide +kernel
theorem dX9_kindBy_21 : decode cX9_kindBy 21 = .ok (.bipush 119, 2) := by decide +kernel
theorem dX9_kindBy_23 : decode cX9_kindBy 23 = .ok (.if_icmp .lt 17, 3) := by decide +kernel
theorem dX9_kindBy_26 : decode cX9_kindBy 26 = .ok (.iload_n 0, 1) := by decide +kernel
theorem dX9_kindBy_27 : decode cX9_kindBy 27 = .ok (.bipush 122, 2) := by decide +kernel
theorem dX9_kindBy_29 : decode cX9_kindBy 29 = .ok (.if_icmp .gt 11, 3) := by decide +kernel
theorem dX9_kindBy_32 : decode cX9_kindBy 32 = .ok (.bipush 10, 2) := by decide +kernel
theorem dX9_kindBy_34 : decode cX9_kindBy 34 = .ok (.iload_n 0, 1) := by decide +kernel
theorem dX9_kindBy_35 : decode cX9_kindBy 35 = .ok (.iadd, 1) := by decide +kernel
theorem dX9_kindBy_36 : decode cX9_kindBy 36 = .ok (.bipush 119, 2) := by decide +kernel
theorem dX9_kindBy_38 : decode cX9_kindBy 38 = .ok (.isub, 1) := by decide +kernel
theorem dX9_kindBy_39 : decode cX9_kindBy 39 = .ok (.ireturn, 1) := by decide +kernel
theorem dX9_kindBy_40 : decode cX9_kindBy 40 = .ok (.iload_n 0, 1) := by decide +kernel
theorem dX9_kindBy_41 : decode cX9_kindBy 41 = .ok (.bipush 46, 2) := by decide +kernel
theorem dX9_kindBy_43 : decode cX9_kindBy 43 = .ok (.if_icmp .eq 10, 3) := by decide +kernel
theorem dX9_kindBy_46 : decode cX9_kindBy 46 = .ok (.iload_n 0, 1) := by decide +kernel
theorem dX9_kindBy_47 : decode cX9_kindBy 47 = .ok (.invokestatic 133, 3) := by decide +kernel
theorem dX9_kindBy_50 : decode cX9_kindBy 50 = .ok (.ifCond .lt 7, 3) := by decide +kernel
theorem dX9_kindBy_53 : decode cX9_kindBy 53 = .ok (.iconst 0, 1) := by decide +kernel
theorem dX9_kindBy_54 : decode cX9_kindBy 54 = .ok (.goto 54, 3) := by decide +kernel
theorem dX9_kindBy_57 : decode cX9_kindBy 57 = .ok (.iload_n 0, 1) := by decide +kernel
theorem dX9_kindBy_58 : decode cX9_kindBy 58 = .ok (.bipush 35, 2) := by decide +kernel
theorem dX9_kindBy_60 : decode cX9_kindBy 60 = .ok (.if_icmp .ne 7, 3) := by decide +kernel
theorem dX9_kindBy_63 : decode cX9_kindBy 63 = .ok (.iconst 1, 1) := by decide +kernel
theorem dX9_kindBy_64 : decode cX9_kindBy 64 = .ok (.goto 44, 3) := by decide +kernel
theorem dX9_kindBy_67 : decode cX9_kindBy 67 = .ok (.iload_n 0, 1) := by decide +kernel
theorem dX9_kindBy_68 : decode cX9_kindBy 68 = .ok (.bipush 62, 2) := by decide +kernel
theorem dX9_kindBy_70 : decode cX9_kindBy 70 = .ok (.if_icmp .ne 7, 3) := by decide +kernel
theorem dX9_kindBy_73 : decode cX9_kindBy 73 = .ok (.iconst 2, 1) := by decide +kernel
theorem dX9_kindBy_74 : decode cX9_kindBy 74 = .ok (.goto 34, 3) := by decide +kernel
theorem dX9_kindBy_77 : decode cX9_kindBy 77 = .ok (.iload_n 0, 1) := by decide +kernel
theorem dX9_kindBy_78 : decode cX9_kindBy 78 = .ok (.bipush 118, 2) := by decide +kernel
theorem dX9_kindBy_80 : decode cX9_kindBy 80 = .ok (.if_icmp .ne 7, 3) := by decide +kernel
theorem dX9_kindBy_83 : decode cX9_kindBy 83 = .ok (.iconst 3, 1) := by decide +kernel
theorem dX9_kindBy_84 : decode cX9_kindBy 84 = .ok (.goto 24, 3) := by decide +kernel
theorem dX9_kindBy_87 : decode cX9_kindBy 87 = .ok (.iload_n 0, 1) := by decide +kernel
theorem dX9_kindBy_88 : decode cX9_kindBy 88 = .ok (.bipush 60, 2) := by decide +kernel
theorem dX9_kindBy_90 : decode cX9_kindBy 90 = .ok (.if_icmp .ne 7, 3) := by decide +kernel
theorem dX9_kindBy_93 : decode cX9_kindBy 93 = .ok (.iconst 4, 1) := by decide +kernel
theorem dX9_kindBy_94 : decode cX9_kindBy 94 = .ok (.goto 14, 3) := by decide +kernel
theorem dX9_kindBy_97 : decode cX9_kindBy 97 = .ok (.iload_n 0, 1) := by decide +kernel
theorem dX9_kindBy_98 : decode cX9_kindBy 98 = .ok (.bipush 94, 2) := by decide +kernel
theorem dX9_kindBy_100 : decode cX9_kindBy 100 = .ok (.if_icmp .ne 7, 3) := by decide +kernel
theorem dX9_kindBy_103 : decode cX9_kindBy 103 = .ok (.iconst 5, 1) := by decide +kernel
theorem dX9_kindBy_104 : decode cX9_kindBy 104 = .ok (.goto 4, 3) := by decide +kernel
theorem dX9_kindBy_107 : decode cX9_kindBy 107 = .ok (.iconst (-1), 1) := by decide +kernel
theorem dX9_kindBy_108 : decode cX9_kindBy 108 = .ok (.ireturn, 1) := by decide +kernel
theorem dX9_blockBy_0 : decode cX9_blockBy 0 = .ok (.iload_n 0, 1) := by decide +kernel
theorem dX9_blockBy_1 : decode cX9_blockBy 1 = .ok (.bipush 97, 2) := by decide +kernel
theorem dX9_blockBy_3 : decode cX9_blockBy 3 = .ok (.if_icmp .lt 16, 3) := by decide +kernel
theorem dX9_blockBy_6 : decode cX9_blockBy 6 = .ok (.iload_n 0, 1) := by decide +kernel
theorem dX9_blockBy_7 : decode cX9_blockBy 7 = .ok (.bipush 101, 2) := by decide +kernel
theorem dX9_blockBy_9 : decode cX9_blockBy 9 = .ok (.if_icmp .gt 10, 3) := by decide +kernel
theorem dX9_blockBy_12 : decode cX9_blockBy 12 = .ok (.iload_n 0, 1) := by decide +kernel
theorem dX9_blockBy_13 : decode cX9_blockBy 13 = .ok (.bipush 97, 2) := by decide +kernel
theorem dX9_blockBy_15 : decode cX9_blockBy 15 = .ok (.isub, 1) := by decide +kernel
theorem dX9_blockBy_16 : decode cX9_blockBy 16 = .ok (.goto 23, 3) := by decide +kernel
theorem dX9_blockBy_19 : decode cX9_blockBy 19 = .ok (.iload_n 0, 1) := by decide +kernel
theorem dX9_blockBy_20 : decode cX9_blockBy 20 = .ok (.bipush 65, 2) := by decide +kernel
theorem dX9_blockBy_22 : decode cX9_blockBy 22 = .ok (.if_icmp .lt 16, 3) := by decide +kernel
theorem dX9_blockBy_25 : decode cX9_blockBy 25 = .ok (.iload_n 0, 1) := by decide +kernel
theorem dX9_blockBy_26 : decode cX9_blockBy 26 = .ok (.bipush 69, 2) := by decide +kernel
theorem dX9_blockBy_28 : decode cX9_blockBy 28 = .ok (.if_icmp .gt 10, 3) := by decide +kernel
theorem dX9_blockBy_31 : decode cX9_blockBy 31 = .ok (.iload_n 0, 1) := by decide +kernel
theorem dX9_blockBy_32 : decode cX9_blockBy 32 = .ok (.bipush 65, 2) := by decide +kernel
theorem dX9_blockBy_34 : decode cX9_blockBy 34 = .ok (.isub, 1) := by decide +kernel
theorem dX9_blockBy_35 : decode cX9_blockBy 35 = .ok (.goto 4, 3) := by decide +kernel
theorem dX9_blockBy_38 : decode cX9_blockBy 38 = .ok (.iconst (-1), 1) := by decide +kernel
theorem dX9_blockBy_39 : decode cX9_blockBy 39 = .ok (.ireturn, 1) := by decide +kernel
theorem dX9_readsCell_0 : decode cX9_readsCell 0 = .ok (.aload_n 0, 1) := by decide +kernel
theorem dX9_readsCell_1 : decode cX9_readsCell 1 = .ok (.getfield 40, 3) := by decide +kernel
theorem dX9_readsCell_4 : decode cX9_readsCell 4 = .ok (.iload_n 3, 1) := by decide +kernel
theorem dX9_readsCell_5 : decode cX9_readsCell 5 = .ok (.caload, 1) := by decide +kernel
theorem dX9_readsCell_6 : decode cX9_readsCell 6 = .ok (.istore 4, 2) := by decide +kernel
theorem dX9_readsCell_8 : decode cX9_readsCell 8 = .ok (.iload 4, 2) := by decide +kernel
theorem dX9_readsCell_10 : decode cX9_readsCell 10 = .ok (.invokestatic 137, 3) := by decide +kernel
theorem dX9_readsCell_13 : decode cX9_readsCell 13 = .ok (.istore 5, 2) := by decide +kernel
theorem dX9_readsCell_15 : decode cX9_readsCell 15 = .ok (.iload 5, 2) := by decide +kernel
theorem dX9_readsCell_17 : decode cX9_readsCell 17 = .ok (.ifCond .ge 5, 3) := by decide +kernel
theorem dX9_readsCell_20 : decode cX9_readsCell 20 = .ok (.iconst 0, 1) := by decide +kernel
theorem dX9_readsCell_21 : decode cX9_readsCell 21 = .ok (.ireturn, 1) := by decide +kernel
theorem dX9_readsCell_22 : decode cX9_readsCell 22 = .ok (.iload 4, 2) := by decide +kernel
theorem dX9_readsCell_24 : decode cX9_readsCell 24 = .ok (.invokestatic 133, 3) := by decide +kernel
theorem dX9_readsCell_27 : decode cX9_readsCell 27 = .ok (.istore 6, 2) := by decide +kernel
theorem dX9_readsCell_29 : decode cX9_readsCell 29 = .ok (.aload_n 0, 1) := by decide +kernel
theorem dX9_readsCell_30 : decode cX9_readsCell 30 = .ok (.getfield 44, 3) := by decide +kernel
theorem dX9_readsCell_33 : decode cX9_readsCell 33 = .ok (.bipush 8, 2) := by decide +kernel
theorem dX9_readsCell_35 : decode cX9_readsCell 35 = .ok (.iload_n 2, 1) := by decide +kernel
theorem dX9_readsCell_36 : decode cX9_readsCell 36 = .ok (.imul, 1) := by decide +kernel
theorem dX9_readsCell_37 : decode cX9_readsCell 37 = .ok (.iload_n 1, 1) := by decide +kernel
theorem dX9_readsCell_38 : decode cX9_readsCell 38 = .ok (.iadd, 1) := by decide +kernel
theorem dX9_readsCell_39 : decode cX9_readsCell 39 = .ok (.iload 5, 2) := by decide +kernel
theorem dX9_readsCell_41 : decode cX9_readsCell 41 = .ok (.iastore, 1) := by decide +kernel
theorem dX9_readsCell_42 : decode cX9_readsCell 42 = .ok (.iload 6, 2) := by decide +kernel
theorem dX9_readsCell_44 : decode cX9_readsCell 44 = .ok (.ifCond .ge 5, 3) := by decide +kernel
theorem dX9_readsCell_47 : decode cX9_readsCell 47 = .ok (.iconst 1, 1) := by decide +kernel
theorem dX9_readsCell_48 : decode cX9_readsCell 48 = .ok (.ireturn, 1) := by decide +kernel
theorem dX9_readsCell_49 : decode cX9_readsCell 49 = .ok (.iload 4, 2) := by decide +kernel
theorem dX9_readsCell_51 : decode cX9_readsCell 51 = .ok (.bipush 69, 2) := by decide +kernel
theorem dX9_readsCell_53 : decode cX9_readsCell 53 = .ok (.if_icmp .gt 7, 3) := by decide +kernel
theorem dX9_readsCell_56 : decode cX9_readsCell 56 = .ok (.iconst 1, 1) := by decide +kernel
theorem dX9_readsCell_57 : decode cX9_readsCell 57 = .ok (.goto 4, 3) := by decide +kernel
theorem dX9_readsCell_60 : decode cX9_readsCell 60 = .ok (.iconst 0, 1) := by decide +kernel
theorem dX9_readsCell_61 : decode cX9_readsCell 61 = .ok (.istore 7, 2) := by decide +kernel
theorem dX9_readsCell_63 : decode cX9_readsCell 63 = .ok (.aload_n 0, 1) := by decide +kernel
theorem dX9_readsCell_64 : decode cX9_readsCell 64 = .ok (.getfield 47, 3) := by decide +kernel
theorem dX9_readsCell_67 : decode cX9_readsCell 67 = .ok (.iload 6, 2) := by decide +kernel
theorem dX9_readsCell_69 : decode cX9_readsCell 69 = .ok (.iaload, 1) := by decide +kernel
theorem dX9_readsCell_70 : decode cX9_readsCell 70 = .ok (.iconst 5, 1) := by decide +kernel
theorem dX9_readsCell_71 : decode cX9_readsCell 71 = .ok (.if_icmp .eq 18, 3) := by decide +kernel
theorem dX9_readsCell_74 : decode cX9_readsCell 74 = .ok (.iload 7, 2) := by decide +kernel
theorem dX9_readsCell_76 : decode cX9_readsCell 76 = .ok (.ifCond .eq 15, 3) := by decide +kernel
theorem dX9_readsCell_79 : decode cX9_readsCell 79 = .ok (.aload_n 0, 1) := by decide +kernel
theorem dX9_readsCell_80 : decode cX9_readsCell 80 = .ok (.getfield 59, 3) := by decide +kernel
theorem dX9_readsCell_83 : decode cX9_readsCell 83 = .ok (.iload 6, 2) := by decide +kernel
theorem dX9_readsCell_85 : decode cX9_readsCell 85 = .ok (.iaload, 1) := by decide +kernel
theorem dX9_readsCell_86 : decode cX9_readsCell 86 = .ok (.ifCond .lt 5, 3) := by decide +kernel
theorem dX9_readsCell_89 : decode cX9_readsCell 89 = .ok (.iconst 0, 1) := by decide +kernel
theorem dX9_readsCell_90 : decode cX9_readsCell 90 = .ok (.ireturn, 1) := by decide +kernel
theorem dX9_readsCell_91 : decode cX9_readsCell 91 = .ok (.aload_n 0, 1) := by decide +kernel
theorem dX9_readsCell_92 : decode cX9_readsCell 92 = .ok (.getfield 56, 3) := by decide +kernel
theorem dX9_readsCell_95 : decode cX9_readsCell 95 = .ok (.iload 6, 2) := by decide +kernel
theorem dX9_readsCell_97 : decode cX9_readsCell 97 = .ok (.aload_n 0, 1) := by decide +kernel
theorem dX9_readsCell_98 : decode cX9_readsCell 98 = .ok (.getfield 47, 3) := by decide +kernel
theorem dX9_readsCell_101 : decode cX9_readsCell 101 = .ok (.iload 6, 2) := by decide +kernel
theorem dX9_readsCell_103 : decode cX9_readsCell 103 = .ok (.iaload, 1) := by decide +kernel
theorem dX9_readsCell_104 : decode cX9_readsCell 104 = .ok (.ifCond .ne 7, 3) := by decide +kernel
theorem dX9_readsCell_107 : decode cX9_readsCell 107 = .ok (.iload_n 3, 1) := by decide +kernel
theorem dX9_readsCell_108 : decode cX9_readsCell 108 = .ok (.goto 10, 3) := by decide +kernel
theorem dX9_readsCell_111 : decode cX9_readsCell 111 = .ok (.aload_n 0, 1) := by decide +kernel
theorem dX9_readsCell_112 : decode cX9_readsCell 112 = .ok (.getfield 56, 3) := by decide +kernel
theorem dX9_readsCell_115 : decode cX9_readsCell 115 = .ok (.iload 6, 2) := by decide +kernel
theorem dX9_readsCell_117 : decode cX9_readsCell 117 = .ok (.iaload, 1) := by decide +kernel
theorem dX9_readsCell_118 : decode cX9_readsCell 118 = .ok (.iastore, 1) := by decide +kernel
theorem dX9_readsCell_119 : decode cX9_readsCell 119 = .ok (.aload_n 0, 1) := by decide +kernel
theorem dX9_readsCell_120 : decode cX9_readsCell 120 = .ok (.getfield 50, 3) := by decide +kernel
theorem dX9_readsCell_123 : decode cX9_readsCell 123 = .ok (.iconst 5, 1) := by decide +kernel
theorem dX9_readsCell_124 : decode cX9_readsCell 124 = .ok (.iload 6, 2) := by decide +kernel
theorem dX9_readsCell_126 : decode cX9_readsCell 126 = .ok (.imul, 1) := by decide +kernel
theorem dX9_readsCell_127 : decode cX9_readsCell 127 = .ok (.aload_n 0, 1) := by decide +kernel
theorem dX9_readsCell_128 : decode cX9_readsCell 128 = .ok (.getfield 47, 3) := by decide +kernel
theorem dX9_readsCell_131 : decode cX9_readsCell 131 = .ok (.iload 6, 2) := by decide +kernel
theorem dX9_readsCell_133 : decode cX9_readsCell 133 = .ok (.iaload, 1) := by decide +kernel
theorem dX9_readsCell_134 : decode cX9_readsCell 134 = .ok (.iadd, 1) := by decide +kernel
theorem dX9_readsCell_135 : decode cX9_readsCell 135 = .ok (.iload_n 1, 1) := by decide +kernel
theorem dX9_readsCell_136 : decode cX9_readsCell 136 = .ok (.iastore, 1) := by decide +kernel
theorem dX9_readsCell_137 : decode cX9_readsCell 137 = .ok (.aload_n 0, 1) := by decide +kernel
theorem dX9_readsCell_138 : decode cX9_readsCell 138 = .ok (.getfield 53, 3) := by decide +kernel
theorem dX9_readsCell_141 : decode cX9_readsCell 141 = .ok (.iconst 5, 1) := by decide +kernel
theorem dX9_readsCell_142 : decode cX9_readsCell 142 = .ok (.iload 6, 2) := by decide +kernel
theorem dX9_readsCell_144 : decode cX9_readsCell 144 = .ok (.imul, 1) := by decide +kernel
theorem dX9_readsCell_145 : decode cX9_readsCell 145 = .ok (.aload_n 0, 1) := by decide +kernel
theorem dX9_readsCell_146 : decode cX9_readsCell 146 = .ok (.getfield 47, 3) := by decide +kernel
theorem dX9_readsCell_149 : decode cX9_readsCell 149 = .ok (.iload 6, 2) := by decide +kernel
theorem dX9_readsCell_151 : decode cX9_readsCell 151 = .ok (.iaload, 1) := by decide +kernel
theorem dX9_readsCell_152 : decode cX9_readsCell 152 = .ok (.iadd, 1) := by decide +kernel
theorem dX9_readsCell_153 : decode cX9_readsCell 153 = .ok (.iload_n 2, 1) := by decide +kernel
theorem dX9_readsCell_154 : decode cX9_readsCell 154 = .ok (.iastore, 1) := by decide +kernel
theorem dX9_readsCell_155 : decode cX9_readsCell 155 = .ok (.aload_n 0, 1) := by decide +kernel
theorem dX9_readsCell_156 : decode cX9_readsCell 156 = .ok (.getfield 47, 3) := by decide +kernel
theorem dX9_readsCell_159 : decode cX9_readsCell 159 = .ok (.iload 6, 2) := by decide +kernel
theorem dX9_readsCell_161 : decode cX9_readsCell 161 = .ok (.dup2, 1) := by decide +kernel
theorem dX9_readsCell_162 : decode cX9_readsCell 162 = .ok (.iaload, 1) := by decide +kernel
theorem dX9_readsCell_163 : decode cX9_readsCell 163 = .ok (.iconst 1, 1) := by decide +kernel
theorem dX9_readsCell_164 : decode cX9_readsCell 164 = .ok (.iadd, 1) := by decide +kernel
theorem dX9_readsCell_165 : decode cX9_readsCell 165 = .ok (.iastore, 1) := by decide +kernel
theorem dX9_readsCell_166 : decode cX9_readsCell 166 = .ok (.aload_n 0, 1) := by decide +kernel
theorem dX9_readsCell_167 : decode cX9_readsCell 167 = .ok (.getfield 59, 3) := by decide +kernel
theorem dX9_readsCell_170 : decode cX9_readsCell 170 = .ok (.iload 6, 2) := by decide +kernel
theorem dX9_readsCell_172 : decode cX9_readsCell 172 = .ok (.iload 7, 2) := by decide +kernel
theorem dX9_readsCell_174 : decode cX9_readsCell 174 = .ok (.ifCond .eq 7, 3) := by decide +kernel
theorem dX9_readsCell_177 : decode cX9_readsCell 177 = .ok (.iload_n 1, 1) := by decide +kernel
theorem dX9_readsCell_178 : decode cX9_readsCell 178 = .ok (.goto 10, 3) := by decide +kernel
theorem dX9_readsCell_181 : decode cX9_readsCell 181 = .ok (.aload_n 0, 1) := by decide +kernel
theorem dX9_readsCell_182 : decode cX9_readsCell 182 = .ok (.getfield 59, 3) := by decide +kernel
theorem dX9_readsCell_185 : decode cX9_readsCell 185 = .ok (.iload 6, 2) := by decide +kernel
theorem dX9_readsCell_187 : decode cX9_readsCell 187 = .ok (.iaload, 1) := by decide +kernel
theorem dX9_readsCell_188 : decode cX9_readsCell 188 = .ok (.iastore, 1) := by decide +kernel
theorem dX9_readsCell_189 : decode cX9_readsCell 189 = .ok (.aload_n 0, 1) := by decide +kernel
theorem dX9_readsCell_190 : decode cX9_readsCell 190 = .ok (.getfield 62, 3) := by decide +kernel
theorem dX9_readsCell_193 : decode cX9_readsCell 193 = .ok (.iload 6, 2) := by decide +kernel
theorem dX9_readsCell_195 : decode cX9_readsCell 195 = .ok (.iload 7, 2) := by decide +kernel
theorem dX9_readsCell_197 : decode cX9_readsCell 197 = .ok (.ifCond .eq 7, 3) := by decide +kernel
theorem dX9_readsCell_200 : decode cX9_readsCell 200 = .ok (.iload_n 2, 1) := by decide +kernel
theorem dX9_readsCell_201 : decode cX9_readsCell 201 = .ok (.goto 10, 3) := by decide +kernel
theorem dX9_readsCell_204 : decode cX9_readsCell 204 = .ok (.aload_n 0, 1) := by decide +kernel
theorem dX9_readsCell_205 : decode cX9_readsCell 205 = .ok (.getfield 62, 3) := by decide +kernel
theorem dX9_readsCell_208 : decode cX9_readsCell 208 = .ok (.iload 6, 2) := by decide +kernel
theorem dX9_readsCell_210 : decode cX9_readsCell 210 = .ok (.iaload, 1) := by decide +kernel
theorem dX9_readsCell_211 : decode cX9_readsCell 211 = .ok (.iastore, 1) := by decide +kernel
theorem dX9_readsCell_212 : decode cX9_readsCell 212 = .ok (.iconst 1, 1) := by decide +kernel
theorem dX9_readsCell_213 : decode cX9_readsCell 213 = .ok (.ireturn, 1) := by decide +kernel
theorem dX9_findFault_0 : decode cX9_findFault 0 = .ok (.iconst 0, 1) := by decide +kernel
theorem dX9_findFault_1 : decode cX9_findFault 1 = .ok (.istore_n 1, 1) := by decide +kernel
theorem dX9_findFault_2 : decode cX9_findFault 2 = .ok (.iconst 0, 1) := by decide +kernel
theorem dX9_findFault_3 : decode cX9_findFault 3 = .ok (.istore_n 2, 1) := by decide +kernel
theorem dX9_findFault_4 : decode cX9_findFault 4 = .ok (.aload_n 0, 1) := by decide +kernel
theorem dX9_findFault_5 : decode cX9_findFault 5 = .ok (.iconst 0, 1) := by decide +kernel
theorem dX9_findFault_6 : decode cX9_findFault 6 = .ok (.putfield 140, 3) := by decide +kernel
theorem dX9_findFault_9 : decode cX9_findFault 9 = .ok (.iconst 0, 1) := by decide +kernel
theorem dX9_findFault_10 : decode cX9_findFault 10 = .ok (.istore_n 3, 1) := by decide +kernel
theorem dX9_findFault_11 : decode cX9_findFault 11 = .ok (.iload_n 3, 1) := by decide +kernel
theorem dX9_findFault_12 : decode cX9_findFault 12 = .ok (.iconst 5, 1) := by decide +kernel
theorem dX9_findFault_13 : decode cX9_findFault 13 = .ok (.if_icmp .ge 23, 3) := by decide +kernel
theorem dX9_findFault_16 : decode cX9_findFault 16 = .ok (.aload_n 0, 1) := by decide +kernel
theorem dX9_findFault_17 : decode cX9_findFault 17 = .ok (.getfield 47, 3) := by decide +kernel
theorem dX9_findFault_20 : decode cX9_findFault 20 = .ok (.iload_n 3, 1) := by decide +kernel
theorem dX9_findFault_21 : decode cX9_findFault 21 = .ok (.iconst 0, 1) := by decide +kernel
theorem dX9_findFault_22 : decode cX9_findFault 22 = .ok (.iastore, 1) := by decide +kernel
theorem dX9_findFault_23 : decode cX9_findFault 23 = .ok (.aload_n 0, 1) := by decide +kernel
theorem dX9_findFault_24 : decode cX9_findFault 24 = .ok (.getfield 59, 3) := by decide +kernel
theorem dX9_findFault_27 : decode cX9_findFault 27 = .ok (.iload_n 3, 1) := by decide +kernel
theorem dX9_findFault_28 : decode cX9_findFault 28 = .ok (.iconst (-1), 1) := by decide +kernel
theorem dX9_findFault_29 : decode cX9_findFault 29 = .ok (.iastore, 1) := by decide +kernel
theorem dX9_findFault_30 : decode cX9_findFault 30 = .ok (.iinc 3 1, 3) := by decide +kernel
theorem dX9_findFault_33 : decode cX9_findFault 33 = .ok (.goto (-22), 3) := by decide +kernel
theorem dX9_findFault_36 : decode cX9_findFault 36 = .ok (.iconst 0, 1) := by decide +kernel
theorem dX9_findFault_37 : decode cX9_findFault 37 = .ok (.istore_n 3, 1) := by decide +kernel
theorem dX9_findFault_38 : decode cX9_findFault 38 = .ok (.iload_n 3, 1) := by decide +kernel
theorem dX9_findFault_39 : decode cX9_findFault 39 = .ok (.aload_n 0, 1) := by decide +kernel
theorem dX9_findFault_40 : decode cX9_findFault 40 = .ok (.getfield 130, 3) := by decide +kernel
theorem dX9_findFault_43 : decode cX9_findFault 43 = .ok (.if_icmp .ge 110, 3) := by decide +kernel
theorem dX9_findFault_46 : decode cX9_findFault 46 = .ok (.aload_n 0, 1) := by decide +kernel
theorem dX9_findFault_47 : decode cX9_findFault 47 = .ok (.getfield 40, 3) := by decide +kernel
theorem dX9_findFault_50 : decode cX9_findFault 50 = .ok (.iload_n 3, 1) := by decide +kernel
theorem dX9_findFault_51 : decode cX9_findFault 51 = .ok (.caload, 1) := by decide +kernel
theorem dX9_findFault_52 : decode cX9_findFault 52 = .ok (.bipush 47, 2) := by decide +kernel
theorem dX9_findFault_54 : decode cX9_findFault 54 = .ok (.if_icmp .ne 61, 3) := by decide +kernel
theorem dX9_findFault_57 : decode cX9_findFault 57 = .ok (.iload_n 2, 1) := by decide +kernel
theorem dX9_findFault_58 : decode cX9_findFault 58 = .ok (.ifCond .ne 16, 3) := by decide +kernel
theorem dX9_findFault_61 : decode cX9_findFault 61 = .ok (.iload_n 1, 1) := by decide +kernel
theorem dX9_findFault_62 : decode cX9_findFault 62 = .ok (.iconst 3, 1) := by decide +kernel
theorem dX9_findFault_63 : decode cX9_findFault 63 = .ok (.if_icmp .lt 7, 3) := by decide +kernel
theorem dX9_findFault_66 : decode cX9_findFault 66 = .ok (.iconst 1, 1) := by decide +kernel
theorem dX9_findFault_67 : decode cX9_findFault 67 = .ok (.goto 20, 3) := by decide +kernel
theorem dX9_findFault_70 : decode cX9_findFault 70 = .ok (.iconst 0, 1) := by decide +kernel
theorem dX9_findFault_71 : decode cX9_findFault 71 = .ok (.goto 16, 3) := by decide +kernel
theorem dX9_findFault_74 : decode cX9_findFault 74 = .ok (.iload_n 1, 1) := by decide +kernel
theorem dX9_findFault_75 : decode cX9_findFault 75 = .ok (.aload_n 0, 1) := by decide +kernel
theorem dX9_findFault_76 : decode cX9_findFault 76 = .ok (.getfield 140, 3) := by decide +kernel
theorem dX9_findFault_79 : decode cX9_findFault 79 = .ok (.if_icmp .ne 7, 3) := by decide +kernel
theorem dX9_findFault_82 : decode cX9_findFault 82 = .ok (.iconst 1, 1) := by decide +kernel
theorem dX9_findFault_83 : decode cX9_findFault 83 = .ok (.goto 4, 3) := by decide +kernel
theorem dX9_findFault_86 : decode cX9_findFault 86 = .ok (.iconst 0, 1) := by decide +kernel
theorem dX9_findFault_87 : decode cX9_findFault 87 = .ok (.istore 4, 2) := by decide +kernel
theorem dX9_findFault_89 : decode cX9_findFault 89 = .ok (.iload 4, 2) := by decide +kernel
theorem dX9_findFault_91 : decode cX9_findFault 91 = .ok (.ifCond .eq 9, 3) := by decide +kernel
theorem dX9_findFault_94 : decode cX9_findFault 94 = .ok (.iload_n 2, 1) := by decide +kernel
theorem dX9_findFault_95 : decode cX9_findFault 95 = .ok (.bipush 7, 2) := by decide +kernel
theorem dX9_findFault_97 : decode cX9_findFault 97 = .ok (.if_icmp .ne 5, 3) := by decide +kernel
theorem dX9_findFault_100 : decode cX9_findFault 100 = .ok (.iload_n 3, 1) := by decide +kernel
theorem dX9_findFault_101 : decode cX9_findFault 101 = .ok (.ireturn, 1) := by decide +kernel
theorem dX9_findFault_102 : decode cX9_findFault 102 = .ok (.aload_n 0, 1) := by decide +kernel
theorem dX9_findFault_103 : decode cX9_findFault 103 = .ok (.iload_n 1, 1) := by decide +kernel
theorem dX9_findFault_104 : decode cX9_findFault 104 = .ok (.putfield 140, 3) := by decide +kernel
theorem dX9_findFault_107 : decode cX9_findFault 107 = .ok (.iconst 0, 1) := by decide +kernel
theorem dX9_findFault_108 : decode cX9_findFault 108 = .ok (.istore_n 1, 1) := by decide +kernel
theorem dX9_findFault_109 : decode cX9_findFault 109 = .ok (.iinc 2 1, 3) := by decide +kernel
theorem dX9_findFault_112 : decode cX9_findFault 112 = .ok (.goto 35, 3) := by decide +kernel
theorem dX9_findFault_115 : decode cX9_findFault 115 = .ok (.iload_n 1, 1) := by decide +kernel
theorem dX9_findFault_116 : decode cX9_findFault 116 = .ok (.iload_n 2, 1) := by decide +kernel
theorem dX9_findFault_117 : decode cX9_findFault 117 = .ok (.ifCond .ne 8, 3) := by decide +kernel
theorem dX9_findFault_120 : decode cX9_findFault 120 = .ok (.bipush 8, 2) := by decide +kernel
theorem dX9_findFault_122 : decode cX9_findFault 122 = .ok (.goto 7, 3) := by decide +kernel
theorem dX9_findFault_125 : decode cX9_findFault 125 = .ok (.aload_n 0, 1) := by decide +kernel
theorem dX9_findFault_126 : decode cX9_findFault 126 = .ok (.getfield 140, 3) := by decide +kernel
theorem dX9_findFault_129 : decode cX9_findFault 129 = .ok (.if_icmp .eq 13, 3) := by decide +kernel
theorem dX9_findFault_132 : decode cX9_findFault 132 = .ok (.aload_n 0, 1) := by decide +kernel
theorem dX9_findFault_133 : decode cX9_findFault 133 = .ok (.iload_n 1, 1) := by decide +kernel
theorem dX9_findFault_134 : decode cX9_findFault 134 = .ok (.iload_n 2, 1) := by decide +kernel
theorem dX9_findFault_135 : decode cX9_findFault 135 = .ok (.iload_n 3, 1) := by decide +kernel
theorem dX9_findFault_136 : decode cX9_findFault 136 = .ok (.invokevirtual 143, 3) := by decide +kernel
theorem dX9_findFault_139 : decode cX9_findFault 139 = .ok (.ifCond .ne 5, 3) := by decide +kernel
theorem dX9_findFault_142 : decode cX9_findFault 142 = .ok (.iload_n 3, 1) := by decide +kernel
theorem dX9_findFault_143 : decode cX9_findFault 143 = .ok (.ireturn, 1) := by decide +kernel
theorem dX9_findFault_144 : decode cX9_findFault 144 = .ok (.iinc 1 1, 3) := by decide +kernel
theorem dX9_findFault_147 : decode cX9_findFault 147 = .ok (.iinc 3 1, 3) := by decide +kernel
theorem dX9_findFault_150 : decode cX9_findFault 150 = .ok (.goto (-112), 3) := by decide +kernel
theorem dX9_findFault_153 : decode cX9_findFault 153 = .ok (.aload_n 0, 1) := by decide +kernel
theorem dX9_findFault_154 : decode cX9_findFault 154 = .ok (.iload_n 2, 1) := by decide +kernel
theorem dX9_findFault_155 : decode cX9_findFault 155 = .ok (.iconst 1, 1) := by decide +kernel
theorem dX9_findFault_156 : decode cX9_findFault 156 = .ok (.iadd, 1) := by decide +kernel
theorem dX9_findFault_157 : decode cX9_findFault 157 = .ok (.putfield 146, 3) := by decide +kernel
theorem dX9_findFault_160 : decode cX9_findFault 160 = .ok (.iload_n 2, 1) := by decide +kernel
theorem dX9_findFault_161 : decode cX9_findFault 161 = .ok (.iconst 2, 1) := by decide +kernel
theorem dX9_findFault_162 : decode cX9_findFault 162 = .ok (.if_icmp .lt 11, 3) := by decide +kernel
theorem dX9_findFault_165 : decode cX9_findFault 165 = .ok (.iload_n 1, 1) := by decide +kernel
theorem dX9_findFault_166 : decode cX9_findFault 166 = .ok (.aload_n 0, 1) := by decide +kernel
theorem dX9_findFault_167 : decode cX9_findFault 167 = .ok (.getfield 140, 3) := by decide +kernel
theorem dX9_findFault_170 : decode cX9_findFault 170 = .ok (.if_icmp .ge 8, 3) := by decide +kernel
theorem dX9_findFault_173 : decode cX9_findFault 173 = .ok (.aload_n 0, 1) := by decide +kernel
theorem dX9_findFault_174 : decode cX9_findFault 174 = .ok (.getfield 130, 3) := by decide +kernel
theorem dX9_findFault_177 : decode cX9_findFault 177 = .ok (.ireturn, 1) := by decide +kernel
theorem dX9_findFault_178 : decode cX9_findFault 178 = .ok (.iconst (-1), 1) := by decide +kernel
theorem dX9_findFault_179 : decode cX9_findFault 179 = .ok (.istore_n 3, 1) := by decide +kernel
theorem dX9_findFault_180 : decode cX9_findFault 180 = .ok (.iconst 0, 1) := by decide +kernel
theorem dX9_findFault_181 : decode cX9_findFault 181 = .ok (.istore 4, 2) := by decide +kernel
theorem dX9_findFault_183 : decode cX9_findFault 183 = .ok (.iload 4, 2) := by decide +kernel
theorem dX9_findFault_185 : decode cX9_findFault 185 = .ok (.iconst 5, 1) := by decide +kernel
theorem dX9_findFault_186 : decode cX9_findFault 186 = .ok (.if_icmp .ge 68, 3) := by decide +kernel
theorem dX9_findFault_189 : decode cX9_findFault 189 = .ok (.aload_n 0, 1) := by decide +kernel
theorem dX9_findFault_190 : decode cX9_findFault 190 = .ok (.getfield 47, 3) := by decide +kernel
theorem dX9_findFault_193 : decode cX9_findFault 193 = .ok (.iload 4, 2) := by decide +kernel
theorem dX9_findFault_195 : decode cX9_findFault 195 = .ok (.iaload, 1) := by decide +kernel
theorem dX9_findFault_196 : decode cX9_findFault 196 = .ok (.ifCond .le 17, 3) := by decide +kernel
theorem dX9_findFault_199 : decode cX9_findFault 199 = .ok (.aload_n 0, 1) := by decide +kernel
theorem dX9_findFault_200 : decode cX9_findFault 200 = .ok (.getfield 59, 3) := by decide +kernel
theorem dX9_findFault_203 : decode cX9_findFault 203 = .ok (.iload 4, 2) := by decide +kernel
theorem dX9_findFault_205 : decode cX9_findFault 205 = .ok (.iaload, 1) := by decide +kernel
theorem dX9_findFault_206 : decode cX9_findFault 206 = .ok (.ifCond .ge 7, 3) := by decide +kernel
theorem dX9_findFault_209 : decode cX9_findFault 209 = .ok (.iconst 1, 1) := by decide +kernel
theorem dX9_findFault_210 : decode cX9_findFault 210 = .ok (.goto 4, 3) := by decide +kernel
theorem dX9_findFault_213 : decode cX9_findFault 213 = .ok (.iconst 0, 1) := by decide +kernel
theorem dX9_findFault_214 : decode cX9_findFault 214 = .ok (.istore 5, 2) := by decide +kernel
theorem dX9_findFault_216 : decode cX9_findFault 216 = .ok (.iload 5, 2) := by decide +kernel
theorem dX9_findFault_218 : decode cX9_findFault 218 = .ok (.ifCond .eq 28, 3) := by decide +kernel
theorem dX9_findFault_221 : decode cX9_findFault 221 = .ok (.iload_n 3, 1) := by decide +kernel
theorem dX9_findFault_222 : decode cX9_findFault 222 = .ok (.ifCond .lt 14, 3) := by decide +kernel
theorem dX9_findFault_225 : decode cX9_findFault 225 = .ok (.aload_n 0, 1) := by decide +kernel
theorem dX9_findFault_226 : decode cX9_findFault 226 = .ok (.getfield 56, 3) := by decide +kernel
theorem dX9_findFault_229 : decode cX9_findFault 229 = .ok (.iload 4, 2) := by decide +kernel
theorem dX9_findFault_231 : decode cX9_findFault 231 = .ok (.iaload, 1) := by decide +kernel
theorem dX9_findFault_232 : decode cX9_findFault 232 = .ok (.iload_n 3, 1) := by decide +kernel
theorem dX9_findFault_233 : decode cX9_findFault 233 = .ok (.if_icmp .ge 13, 3) := by decide +kernel
theorem dX9_findFault_236 : decode cX9_findFault 236 = .ok (.aload_n 0, 1) := by decide +kernel
theorem dX9_findFault_237 : decode cX9_findFault 237 = .ok (.getfield 56, 3) := by decide +kernel
theorem dX9_findFault_240 : decode cX9_findFault 240 = .ok (.iload 4, 2) := by decide +kernel
theorem dX9_findFault_242 : decode cX9_findFault 242 = .ok (.iaload, 1) := by decide +kernel
theorem dX9_findFault_243 : decode cX9_findFault 243 = .ok (.goto 4, 3) := by decide +kernel
theorem dX9_findFault_246 : decode cX9_findFault 246 = .ok (.iload_n 3, 1) := by decide +kernel
theorem dX9_findFault_247 : decode cX9_findFault 247 = .ok (.istore_n 3, 1) := by decide +kernel
theorem dX9_findFault_248 : decode cX9_findFault 248 = .ok (.iinc 4 1, 3) := by decide +kernel
theorem dX9_findFault_251 : decode cX9_findFault 251 = .ok (.goto (-68), 3) := by decide +kernel
theorem dX9_findFault_254 : decode cX9_findFault 254 = .ok (.iload_n 3, 1) := by decide +kernel
theorem dX9_findFault_255 : decode cX9_findFault 255 = .ok (.ireturn, 1) := by decide +kernel
theorem dX9_readLevel_0 : decode cX9_readLevel 0 = .ok (.aload_n 0, 1) := by decide +kernel
theorem dX9_readLevel_1 : decode cX9_readLevel 1 = .ok (.invokevirtual 149, 3) := by decide +kernel
theorem dX9_readLevel_4 : decode cX9_readLevel 4 = .ok (.istore_n 1, 1) := by decide +kernel
theorem dX9_readLevel_5 : decode cX9_readLevel 5 = .ok (.iload_n 1, 1) := by decide +kernel
theorem dX9_readLevel_6 : decode cX9_readLevel 6 = .ok (.ifCond .lt 8, 3) := by decide +kernel
theorem dX9_readLevel_9 : decode cX9_readLevel 9 = .ok (.bipush (-100), 2) := by decide +kernel
theorem dX9_readLevel_11 : decode cX9_readLevel 11 = .ok (.iload_n 1, 1) := by decide +kernel
theorem dX9_readLevel_12 : decode cX9_readLevel 12 = .ok (.isub, 1) := by decide +kernel
theorem dX9_readLevel_13 : decode cX9_readLevel 13 = .ok (.ireturn, 1) := by decide +kernel
theorem dX9_readLevel_14 : decode cX9_readLevel 14 = .ok (.aload_n 0, 1) := by decide +kernel
theorem dX9_readLevel_15 : decode cX9_readLevel 15 = .ok (.aload_n 0, 1) := by decide +kernel
theorem dX9_readLevel_16 : decode cX9_readLevel 16 = .ok (.getfield 140, 3) := by decide +kernel
theorem dX9_readLevel_19 : decode cX9_readLevel 19 = .ok (.putfield 109, 3) := by decide +kernel
theorem dX9_readLevel_22 : decode cX9_readLevel 22 = .ok (.aload_n 0, 1) := by decide +kernel
theorem dX9_readLevel_23 : decode cX9_readLevel 23 = .ok (.aload_n 0, 1) := by decide +kernel
theorem dX9_readLevel_24 : decode cX9_readLevel 24 = .ok (.getfield 146, 3) := by decide +kernel
theorem dX9_readLevel_27 : decode cX9_readLevel 27 = .ok (.putfield 113, 3) := by decide +kernel
theorem dX9_readLevel_30 : decode cX9_readLevel 30 = .ok (.iconst 0, 1) := by decide +kernel
theorem dX9_readLevel_31 : decode cX9_readLevel 31 = .ok (.istore_n 2, 1) := by decide +kernel
theorem dX9_readLevel_32 : decode cX9_readLevel 32 = .ok (.iload_n 2, 1) := by decide +kernel
theorem dX9_readLevel_33 : decode cX9_readLevel 33 = .ok (.bipush 64, 2) := by decide +kernel
theorem dX9_readLevel_35 : decode cX9_readLevel 35 = .ok (.if_icmp .ge 21, 3) := by decide +kernel
theorem dX9_readLevel_38 : decode cX9_readLevel 38 = .ok (.aload_n 0, 1) := by decide +kernel
theorem dX9_readLevel_39 : decode cX9_readLevel 39 = .ok (.getfield 13, 3) := by decide +kernel
theorem dX9_readLevel_42 : decode cX9_readLevel 42 = .ok (.iload_n 2, 1) := by decide +kernel
theorem dX9_readLevel_43 : decode cX9_readLevel 43 = .ok (.aload_n 0, 1) := by decide +kernel
theorem dX9_readLevel_44 : decode cX9_readLevel 44 = .ok (.getfield 44, 3) := by decide +kernel
theorem dX9_readLevel_47 : decode cX9_readLevel 47 = .ok (.iload_n 2, 1) := by decide +kernel
theorem dX9_readLevel_48 : decode cX9_readLevel 48 = .ok (.iaload, 1) := by decide +kernel
theorem dX9_readLevel_49 : decode cX9_readLevel 49 = .ok (.iastore, 1) := by decide +kernel
theorem dX9_readLevel_50 : decode cX9_readLevel 50 = .ok (.iinc 2 1, 3) := by decide +kernel
theorem dX9_readLevel_53 : decode cX9_readLevel 53 = .ok (.goto (-21), 3) := by decide +kernel
theorem dX9_readLevel_56 : decode cX9_readLevel 56 = .ok (.iconst 0, 1) := by decide +kernel
theorem dX9_readLevel_57 : decode cX9_readLevel 57 = .ok (.istore_n 2, 1) := by decide +kernel
theorem dX9_readLevel_58 : decode cX9_readLevel 58 = .ok (.iconst 0, 1) := by decide +kernel
theorem dX9_readLevel_59 : decode cX9_readLevel 59 = .ok (.istore_n 3, 1) := by decide +kernel
theorem dX9_readLevel_60 : decode cX9_readLevel 60 = .ok (.iload_n 3, 1) := by decide +kernel
theorem dX9_readLevel_61 : decode cX9_readLevel 61 = .ok (.iconst 5, 1) := by decide +kernel
theorem dX9_readLevel_62 : decode cX9_readLevel 62 = .ok (.if_icmp .ge 165, 3) := by decide +kernel
theorem dX9_readLevel_65 : decode cX9_readLevel 65 = .ok (.aload_n 0, 1) := by decide +kernel
theorem dX9_readLevel_66 : decode cX9_readLevel 66 = .ok (.getfield 16, 3) := by decide +kernel
theorem dX9_readLevel_69 : decode cX9_readLevel 69 = .ok (.iload_n 3, 1) := by decide +kernel
theorem dX9_readLevel_70 : decode cX9_readLevel 70 = .ok (.aload_n 0, 1) := by decide +kernel
theorem dX9_readLevel_71 : decode cX9_readLevel 71 = .ok (.getfield 47, 3) := by decide +kernel
theorem dX9_readLevel_74 : decode cX9_readLevel 74 = .ok (.iload_n 3, 1) := by decide +kernel
theorem dX9_readLevel_75 : decode cX9_readLevel 75 = .ok (.iaload, 1) := by decide +kernel
theorem dX9_readLevel_76 : decode cX9_readLevel 76 = .ok (.iastore, 1) := by decide +kernel
theorem dX9_readLevel_77 : decode cX9_readLevel 77 = .ok (.iconst 0, 1) := by decide +kernel
theorem dX9_readLevel_78 : decode cX9_readLevel 78 = .ok (.istore 4, 2) := by decide +kernel
theorem dX9_readLevel_80 : decode cX9_readLevel 80 = .ok (.iload 4, 2) := by decide +kernel
theorem dX9_readLevel_82 : decode cX9_readLevel 82 = .ok (.aload_n 0, 1) := by decide +kernel
theorem dX9_readLevel_83 : decode cX9_readLevel 83 = .ok (.getfield 16, 3) := by decide +kernel
theorem dX9_readLevel_86 : decode cX9_readLevel 86 = .ok (.iload_n 3, 1) := by decide +kernel
theorem dX9_readLevel_87 : decode cX9_readLevel 87 = .ok (.iaload, 1) := by decide +kernel
theorem dX9_readLevel_88 : decode cX9_readLevel 88 = .ok (.if_icmp .ge 67, 3) := by decide +kernel
theorem dX9_readLevel_91 : decode cX9_readLevel 91 = .ok (.aload_n 0, 1) := by decide +kernel
theorem dX9_readLevel_92 : decode cX9_readLevel 92 = .ok (.getfield 19, 3) := by decide +kernel
theorem dX9_readLevel_95 : decode cX9_readLevel 95 = .ok (.iconst 5, 1) := by decide +kernel
theorem dX9_readLevel_96 : decode cX9_readLevel 96 = .ok (.iload_n 3, 1) := by decide +kernel
theorem dX9_readLevel_97 : decode cX9_readLevel 97 = .ok (.imul, 1) := by decide +kernel
theorem dX9_readLevel_98 : decode cX9_readLevel 98 = .ok (.iload 4, 2) := by decide +kernel
theorem dX9_readLevel_100 : decode cX9_readLevel 100 = .ok (.iadd, 1) := by decide +kernel
theorem dX9_readLevel_101 : decode cX9_readLevel 101 = .ok (.aload_n 0, 1) := by decide +kernel
theorem dX9_readLevel_102 : decode cX9_readLevel 102 = .ok (.getfield 50, 3) := by decide +kernel
theorem dX9_readLevel_105 : decode cX9_readLevel 105 = .ok (.iconst 5, 1) := by decide +kernel
theorem dX9_readLevel_106 : decode cX9_readLevel 106 = .ok (.iload_n 3, 1) := by decide +kernel
theorem dX9_readLevel_107 : decode cX9_readLevel 107 = .ok (.imul, 1) := by decide +kernel
theorem dX9_readLevel_108 : decode cX9_readLevel 108 = .ok (.iload 4, 2) := by decide +kernel
theorem dX9_readLevel_110 : decode cX9_readLevel 110 = .ok (.iadd, 1) := by decide +kernel
theorem dX9_readLevel_111 : decode cX9_readLevel 111 = .ok (.iaload, 1) := by decide +kernel
theorem dX9_readLevel_112 : decode cX9_readLevel 112 = .ok (.aload_n 0, 1) := by decide +kernel
theorem dX9_readLevel_113 : decode cX9_readLevel 113 = .ok (.getfield 59, 3) := by decide +kernel
theorem dX9_readLevel_116 : decode cX9_readLevel 116 = .ok (.iload_n 3, 1) := by decide +kernel
theorem dX9_readLevel_117 : decode cX9_readLevel 117 = .ok (.iaload, 1) := by decide +kernel
theorem dX9_readLevel_118 : decode cX9_readLevel 118 = .ok (.isub, 1) := by decide +kernel
theorem dX9_readLevel_119 : decode cX9_readLevel 119 = .ok (.iastore, 1) := by decide +kernel
theorem dX9_readLevel_120 : decode cX9_readLevel 120 = .ok (.aload_n 0, 1) := by decide +kernel
theorem dX9_readLevel_121 : decode cX9_readLevel 121 = .ok (.getfield 22, 3) := by decide +kernel
theorem dX9_readLevel_124 : decode cX9_readLevel 124 = .ok (.iconst 5, 1) := by decide +kernel
theorem dX9_readLevel_125 : decode cX9_readLevel 125 = .ok (.iload_n 3, 1) := by decide +kernel
theorem dX9_readLevel_126 : decode cX9_readLevel 126 = .ok (.imul, 1) := by decide +kernel
theorem dX9_readLevel_127 : decode cX9_readLevel 127 = .ok (.iload 4, 2) := by decide +kernel
theorem dX9_readLevel_129 : decode cX9_readLevel 129 = .ok (.iadd, 1) := by decide +kernel
theorem dX9_readLevel_130 : decode cX9_readLevel 130 = .ok (.aload_n 0, 1) := by decide +kernel
theorem dX9_readLevel_131 : decode cX9_readLevel 131 = .ok (.getfield 53, 3) := by decide +kernel
theorem dX9_readLevel_134 : decode cX9_readLevel 134 = .ok (.iconst 5, 1) := by decide +kernel
theorem dX9_readLevel_135 : decode cX9_readLevel 135 = .ok (.iload_n 3, 1) := by decide +kernel
theorem dX9_readLevel_136 : decode cX9_readLevel 136 = .ok (.imul, 1) := by decide +kernel
theorem dX9_readLevel_137 : decode cX9_readLevel 137 = .ok (.iload 4, 2) := by decide +kernel
theorem dX9_readLevel_139 : decode cX9_readLevel 139 = .ok (.iadd, 1) := by decide +kernel
theorem dX9_readLevel_140 : decode cX9_readLevel 140 = .ok (.iaload, 1) := by decide +kernel
theorem dX9_readLevel_141 : decode cX9_readLevel 141 = .ok (.aload_n 0, 1) := by decide +kernel
theorem dX9_readLevel_142 : decode cX9_readLevel 142 = .ok (.getfield 62, 3) := by decide +kernel
theorem dX9_readLevel_145 : decode cX9_readLevel 145 = .ok (.iload_n 3, 1) := by decide +kernel
theorem dX9_readLevel_146 : decode cX9_readLevel 146 = .ok (.iaload, 1) := by decide +kernel
theorem dX9_readLevel_147 : decode cX9_readLevel 147 = .ok (.isub, 1) := by decide +kernel
theorem dX9_readLevel_148 : decode cX9_readLevel 148 = .ok (.iastore, 1) := by decide +kernel
theorem dX9_readLevel_149 : decode cX9_readLevel 149 = .ok (.iinc 4 1, 3) := by decide +kernel
theorem dX9_readLevel_152 : decode cX9_readLevel 152 = .ok (.goto (-72), 3) := by decide +kernel
theorem dX9_readLevel_155 : decode cX9_readLevel 155 = .ok (.aload_n 0, 1) := by decide +kernel
theorem dX9_readLevel_156 : decode cX9_readLevel 156 = .ok (.getfield 25, 3) := by decide +kernel
theorem dX9_readLevel_159 : decode cX9_readLevel 159 = .ok (.iload_n 3, 1) := by decide +kernel
theorem dX9_readLevel_160 : decode cX9_readLevel 160 = .ok (.iconst 1, 1) := by decide +kernel
theorem dX9_readLevel_161 : decode cX9_readLevel 161 = .ok (.iastore, 1) := by decide +kernel
theorem dX9_readLevel_162 : decode cX9_readLevel 162 = .ok (.aload_n 0, 1) := by decide +kernel
theorem dX9_readLevel_163 : decode cX9_readLevel 163 = .ok (.getfield 34, 3) := by decide +kernel
theorem dX9_readLevel_166 : decode cX9_readLevel 166 = .ok (.iload_n 3, 1) := by decide +kernel
theorem dX9_readLevel_167 : decode cX9_readLevel 167 = .ok (.iconst (-1), 1) := by decide +kernel
theorem dX9_readLevel_168 : decode cX9_readLevel 168 = .ok (.iastore, 1) := by decide +kernel
theorem dX9_readLevel_169 : decode cX9_readLevel 169 = .ok (.aload_n 0, 1) := by decide +kernel
theorem dX9_readLevel_170 : decode cX9_readLevel 170 = .ok (.getfield 37, 3) := by decide +kernel
theorem dX9_readLevel_173 : decode cX9_readLevel 173 = .ok (.iload_n 3, 1) := by decide +kernel
theorem dX9_readLevel_174 : decode cX9_readLevel 174 = .ok (.aload_n 0, 1) := by decide +kernel
theorem dX9_readLevel_175 : decode cX9_readLevel 175 = .ok (.getfield 16, 3) := by decide +kernel
theorem dX9_readLevel_178 : decode cX9_readLevel 178 = .ok (.iload_n 3, 1) := by decide +kernel
theorem dX9_readLevel_179 : decode cX9_readLevel 179 = .ok (.iaload, 1) := by decide +kernel
theorem dX9_readLevel_180 : decode cX9_readLevel 180 = .ok (.ifCond .ne 7, 3) := by decide +kernel
theorem dX9_readLevel_183 : decode cX9_readLevel 183 = .ok (.iconst 0, 1) := by decide +kernel
theorem dX9_readLevel_184 : decode cX9_readLevel 184 = .ok (.goto 19, 3) := by decide +kernel
theorem dX9_readLevel_187 : decode cX9_readLevel 187 = .ok (.bipush 8, 2) := by decide +kernel
theorem dX9_readLevel_189 : decode cX9_readLevel 189 = .ok (.aload_n 0, 1) := by decide +kernel
theorem dX9_readLevel_190 : decode cX9_readLevel 190 = .ok (.getfield 62, 3) := by decide +kernel
theorem dX9_readLevel_193 : decode cX9_readLevel 193 = .ok (.iload_n 3, 1) := by decide +kernel
theorem dX9_readLevel_194 : decode cX9_readLevel 194 = .ok (.iaload, 1) := by decide +kernel
theorem dX9_readLevel_195 : decode cX9_readLevel 195 = .ok (.imul, 1) := by decide +kernel
theorem dX9_readLevel_196 : decode cX9_readLevel 196 = .ok (.aload_n 0, 1) := by decide +kernel
theorem dX9_readLevel_197 : decode cX9_readLevel 197 = .ok (.getfield 59, 3) := by decide +kernel
theorem dX9_readLevel_200 : decode cX9_readLevel 200 = .ok (.iload_n 3, 1) := by decide +kernel
theorem dX9_readLevel_201 : decode cX9_readLevel 201 = .ok (.iaload, 1) := by decide +kernel
theorem dX9_readLevel_202 : decode cX9_readLevel 202 = .ok (.iadd, 1) := by decide +kernel
theorem dX9_readLevel_203 : decode cX9_readLevel 203 = .ok (.iastore, 1) := by decide +kernel
theorem dX9_readLevel_204 : decode cX9_readLevel 204 = .ok (.iload_n 2, 1) := by decide +kernel
theorem dX9_readLevel_205 : decode cX9_readLevel 205 = .ok (.aload_n 0, 1) := by decide +kernel
theorem dX9_readLevel_206 : decode cX9_readLevel 206 = .ok (.getfield 16, 3) := by decide +kernel
theorem dX9_readLevel_209 : decode cX9_readLevel 209 = .ok (.iload_n 3, 1) := by decide +kernel
theorem dX9_readLevel_210 : decode cX9_readLevel 210 = .ok (.iaload, 1) := by decide +kernel
theorem dX9_readLevel_211 : decode cX9_readLevel 211 = .ok (.ifCond .ne 7, 3) := by decide +kernel
theorem dX9_readLevel_214 : decode cX9_readLevel 214 = .ok (.iconst 0, 1) := by decide +kernel
theorem dX9_readLevel_215 : decode cX9_readLevel 215 = .ok (.goto 4, 3) := by decide +kernel
theorem dX9_readLevel_218 : decode cX9_readLevel 218 = .ok (.iconst 1, 1) := by decide +kernel
theorem dX9_readLevel_219 : decode cX9_readLevel 219 = .ok (.iadd, 1) := by decide +kernel
theorem dX9_readLevel_220 : decode cX9_readLevel 220 = .ok (.istore_n 2, 1) := by decide +kernel
theorem dX9_readLevel_221 : decode cX9_readLevel 221 = .ok (.iinc 3 1, 3) := by decide +kernel
theorem dX9_readLevel_224 : decode cX9_readLevel 224 = .ok (.goto (-164), 3) := by decide +kernel
theorem dX9_readLevel_227 : decode cX9_readLevel 227 = .ok (.aload_n 0, 1) := by decide +kernel
theorem dX9_readLevel_228 : decode cX9_readLevel 228 = .ok (.iconst 0, 1) := by decide +kernel
theorem dX9_readLevel_229 : decode cX9_readLevel 229 = .ok (.putfield 153, 3) := by decide +kernel
theorem dX9_readLevel_232 : decode cX9_readLevel 232 = .ok (.aload_n 0, 1) := by decide +kernel
theorem dX9_readLevel_233 : decode cX9_readLevel 233 = .ok (.iconst 0, 1) := by decide +kernel
theorem dX9_readLevel_234 : decode cX9_readLevel 234 = .ok (.putfield 156, 3) := by decide +kernel
theorem dX9_readLevel_237 : decode cX9_readLevel 237 = .ok (.iconst 0, 1) := by decide +kernel
theorem dX9_readLevel_238 : decode cX9_readLevel 238 = .ok (.istore_n 3, 1) := by decide +kernel
theorem dX9_readLevel_239 : decode cX9_readLevel 239 = .ok (.iload_n 3, 1) := by decide +kernel
theorem dX9_readLevel_240 : decode cX9_readLevel 240 = .ok (.iconst 4, 1) := by decide +kernel
theorem dX9_readLevel_241 : decode cX9_readLevel 241 = .ok (.if_icmp .ge 16, 3) := by decide +kernel
theorem dX9_readLevel_244 : decode cX9_readLevel 244 = .ok (.aload_n 0, 1) := by decide +kernel
theorem dX9_readLevel_245 : decode cX9_readLevel 245 = .ok (.getfield 84, 3) := by decide +kernel
theorem dX9_readLevel_248 : decode cX9_readLevel 248 = .ok (.iload_n 3, 1) := by decide +kernel
theorem dX9_readLevel_249 : decode cX9_readLevel 249 = .ok (.iconst 0, 1) := by decide +kernel
theorem dX9_readLevel_250 : decode cX9_readLevel 250 = .ok (.bastore, 1) := by decide +kernel
theorem dX9_readLevel_251 : decode cX9_readLevel 251 = .ok (.iinc 3 1, 3) := by decide +kernel
theorem dX9_readLevel_254 : decode cX9_readLevel 254 = .ok (.goto (-15), 3) := by decide +kernel
theorem dX9_readLevel_257 : decode cX9_readLevel 257 = .ok (.iload_n 2, 1) := by decide +kernel
theorem dX9_readLevel_258 : decode cX9_readLevel 258 = .ok (.ireturn, 1) := by decide +kernel
theorem dX9_packed_0 : decode cX9_packed 0 = .ok (.lconst 0, 1) := by decide +kernel
theorem dX9_packed_1 : decode cX9_packed 1 = .ok (.lstore_n 1, 1) := by decide +kernel
theorem dX9_packed_2 : decode cX9_packed 2 = .ok (.iconst 4, 1) := by decide +kernel
theorem dX9_packed_3 : decode cX9_packed 3 = .ok (.istore_n 3, 1) := by decide +kernel
theorem dX9_packed_4 : decode cX9_packed 4 = .ok (.iload_n 3, 1) := by decide +kernel
theorem dX9_packed_5 : decode cX9_packed 5 = .ok (.ifCond .lt 23, 3) := by decide +kernel
theorem dX9_packed_8 : decode cX9_packed 8 = .ok (.lload_n 1, 1) := by decide +kernel
theorem dX9_packed_9 : decode cX9_packed 9 = .ok (.ldc2_w 159, 3) := by decide +kernel
theorem dX9_packed_12 : decode cX9_packed 12 = .ok (.lmul, 1) := by decide +kernel
theorem dX9_packed_13 : decode cX9_packed 13 = .ok (.aload_n 0, 1) := by decide +kernel
theorem dX9_packed_14 : decode cX9_packed 14 = .ok (.getfield 37, 3) := by decide +kernel
theorem dX9_packed_17 : decode cX9_packed 17 = .ok (.iload_n 3, 1) := by decide +kernel
theorem dX9_packed_18 : decode cX9_packed 18 = .ok (.iaload, 1) := by decide +kernel
theorem dX9_packed_19 : decode cX9_packed 19 = .ok (.i2l, 1) := by decide +kernel
theorem dX9_packed_20 : decode cX9_packed 20 = .ok (.ladd, 1) := by decide +kernel
theorem dX9_packed_21 : decode cX9_packed 21 = .ok (.lstore_n 1, 1) := by decide +kernel
theorem dX9_packed_22 : decode cX9_packed 22 = .ok (.iinc 3 (-1), 3) := by decide +kernel
theorem dX9_packed_25 : decode cX9_packed 25 = .ok (.goto (-21), 3) := by decide +kernel
theorem dX9_packed_28 : decode cX9_packed 28 = .ok (.lload_n 1, 1) := by decide +kernel
theorem dX9_packed_29 : decode cX9_packed 29 = .ok (.lreturn, 1) := by decide +kernel
theorem dX9_unpack_0 : decode cX9_unpack 0 = .ok (.lload_n 1, 1) := by decide +kernel
theorem dX9_unpack_1 : decode cX9_unpack 1 = .ok (.lstore_n 3, 1) := by decide +kernel
theorem dX9_unpack_2 : decode cX9_unpack 2 = .ok (.iconst 0, 1) := by decide +kernel
theorem dX9_unpack_3 : decode cX9_unpack 3 = .ok (.istore 5, 2) := by decide +kernel
theorem dX9_unpack_5 : decode cX9_unpack 5 = .ok (.iload 5, 2) := by decide +kernel
theorem dX9_unpack_7 : decode cX9_unpack 7 = .ok (.iconst 5, 1) := by decide +kernel
theorem dX9_unpack_8 : decode cX9_unpack 8 = .ok (.if_icmp .ge 28, 3) := by decide +kernel
theorem dX9_unpack_11 : decode cX9_unpack 11 = .ok (.aload_n 0, 1) := by decide +kernel
theorem dX9_unpack_12 : decode cX9_unpack 12 = .ok (.getfield 37, 3) := by decide +kernel
theorem dX9_unpack_15 : decode cX9_unpack 15 = .ok (.iload 5, 2) := by decide +kernel
theorem dX9_unpack_17 : decode cX9_unpack 17 = .ok (.lload_n 3, 1) := by decide +kernel
theorem dX9_unpack_18 : decode cX9_unpack 18 = .ok (.ldc2_w 159, 3) := by decide +kernel
theorem dX9_unpack_21 : decode cX9_unpack 21 = .ok (.lrem, 1) := by decide +kernel
theorem dX9_unpack_22 : decode cX9_unpack 22 = .ok (.l2i, 1) := by decide +kernel
theorem dX9_unpack_23 : decode cX9_unpack 23 = .ok (.iastore, 1) := by decide +kernel
theorem dX9_unpack_24 : decode cX9_unpack 24 = .ok (.lload_n 3, 1) := by decide +kernel
theorem dX9_unpack_25 : decode cX9_unpack 25 = .ok (.ldc2_w 159, 3) := by decide +kernel
theorem dX9_unpack_28 : decode cX9_unpack 28 = .ok (.ldiv, 1) := by decide +kernel
theorem dX9_unpack_29 : decode cX9_unpack 29 = .ok (.lstore_n 3, 1) := by decide +kernel
theorem dX9_unpack_30 : decode cX9_unpack 30 = .ok (.iinc 5 1, 3) := by decide +kernel
theorem dX9_unpack_33 : decode cX9_unpack 33 = .ok (.goto (-28), 3) := by decide +kernel
theorem dX9_unpack_36 : decode cX9_unpack 36 = .ok (.return_, 1) := by decide +kernel
theorem dX9_layOwners_0 : decode cX9_layOwners 0 = .ok (.iconst 0, 1) := by decide +kernel
theorem dX9_layOwners_1 : decode cX9_layOwners 1 = .ok (.istore_n 1, 1) := by decide +kernel
theorem dX9_layOwners_2 : decode cX9_layOwners 2 = .ok (.iload_n 1, 1) := by decide +kernel
theorem dX9_layOwners_3 : decode cX9_layOwners 3 = .ok (.bipush 64, 2) := by decide +kernel
theorem dX9_layOwners_5 : decode cX9_layOwners 5 = .ok (.if_icmp .ge 16, 3) := by decide +kernel
theorem dX9_layOwners_8 : decode cX9_layOwners 8 = .ok (.aload_n 0, 1) := by decide +kernel
theorem dX9_layOwners_9 : decode cX9_layOwners 9 = .ok (.getfield 65, 3) := by decide +kernel
theorem dX9_layOwners_12 : decode cX9_layOwners 12 = .ok (.iload_n 1, 1) := by decide +kernel
theorem dX9_layOwners_13 : decode cX9_layOwners 13 = .ok (.iconst (-1), 1) := by decide +kernel
theorem dX9_layOwners_14 : decode cX9_layOwners 14 = .ok (.iastore, 1) := by decide +kernel
theorem dX9_layOwners_15 : decode cX9_layOwners 15 = .ok (.iinc 1 1, 3) := by decide +kernel
theorem dX9_layOwners_18 : decode cX9_layOwners 18 = .ok (.goto (-16), 3) := by decide +kernel
theorem dX9_layOwners_21 : decode cX9_layOwners 21 = .ok (.iconst 0, 1) := by decide +kernel
theorem dX9_layOwners_22 : decode cX9_layOwners 22 = .ok (.istore_n 1, 1) := by decide +kernel
theorem dX9_layOwners_23 : decode cX9_layOwners 23 = .ok (.iload_n 1, 1) := by decide +kernel
theorem dX9_layOwners_24 : decode cX9_layOwners 24 = .ok (.iconst 4, 1) := by decide +kernel
theorem dX9_layOwners_25 : decode cX9_layOwners 25 = .ok (.if_icmp .ge 16, 3) := by decide +kernel
theorem dX9_layOwners_28 : decode cX9_layOwners 28 = .ok (.aload_n 0, 1) := by decide +kernel
theorem dX9_layOwners_29 : decode cX9_layOwners 29 = .ok (.getfield 68, 3) := by decide +kernel
theorem dX9_layOwners_32 : decode cX9_layOwners 32 = .ok (.iload_n 1, 1) := by decide +kernel
theorem dX9_layOwners_33 : decode cX9_layOwners 33 = .ok (.iconst 0, 1) := by decide +kernel
theorem dX9_layOwners_34 : decode cX9_layOwners 34 = .ok (.iastore, 1) := by decide +kernel
theorem dX9_layOwners_35 : decode cX9_layOwners 35 = .ok (.iinc 1 1, 3) := by decide +kernel
theorem dX9_layOwners_38 : decode cX9_layOwners 38 = .ok (.goto (-15), 3) := by decide +kernel
theorem dX9_layOwners_41 : decode cX9_layOwners 41 = .ok (.iconst 0, 1) := by decide +kernel
theorem dX9_layOwners_42 : decode cX9_layOwners 42 = .ok (.istore_n 1, 1) := by decide +kernel
theorem dX9_layOwners_43 : decode cX9_layOwners 43 = .ok (.iload_n 1, 1) := by decide +kernel
theorem dX9_layOwners_44 : decode cX9_layOwners 44 = .ok (.iconst 5, 1) := by decide +kernel
theorem dX9_layOwners_45 : decode cX9_layOwners 45 = .ok (.if_icmp .ge 137, 3) := by decide +kernel
theorem dX9_layOwners_48 : decode cX9_layOwners 48 = .ok (.iconst 0, 1) := by decide +kernel
theorem dX9_layOwners_49 : decode cX9_layOwners 49 = .ok (.istore_n 2, 1) := by decide +kernel
theorem dX9_layOwners_50 : decode cX9_layOwners 50 = .ok (.iconst 0, 1) := by decide +kernel
theorem dX9_layOwners_51 : decode cX9_layOwners 51 = .ok (.istore_n 3, 1) := by decide +kernel
theorem dX9_layOwners_52 : decode cX9_layOwners 52 = .ok (.iload_n 3, 1) := by decide +kernel
theorem dX9_layOwners_53 : decode cX9_layOwners 53 = .ok (.aload_n 0, 1) := by decide +kernel
theorem dX9_layOwners_54 : decode cX9_layOwners 54 = .ok (.getfield 16, 3) := by decide +kernel
theorem dX9_layOwners_57 : decode cX9_layOwners 57 = .ok (.iload_n 1, 1) := by decide +kernel
theorem dX9_layOwners_58 : decode cX9_layOwners 58 = .ok (.iaload, 1) := by decide +kernel
theorem dX9_layOwners_59 : decode cX9_layOwners 59 = .ok (.if_icmp .ge 83, 3) := by decide +kernel
theorem dX9_layOwners_62 : decode cX9_layOwners 62 = .ok (.bipush 8, 2) := by decide +kernel
theorem dX9_layOwners_64 : decode cX9_layOwners 64 = .ok (.aload_n 0, 1) := by decide +kernel
theorem dX9_layOwners_65 : decode cX9_layOwners 65 = .ok (.iload_n 1, 1) := by decide +kernel
theorem dX9_layOwners_66 : decode cX9_layOwners 66 = .ok (.iload_n 3, 1) := by decide +kernel
theorem dX9_layOwners_67 : decode cX9_layOwners 67 = .ok (.aload_n 0, 1) := by decide +kernel
theorem dX9_layOwners_68 : decode cX9_layOwners 68 = .ok (.getfield 37, 3) := by decide +kernel
theorem dX9_layOwners_71 : decode cX9_layOwners 71 = .ok (.iload_n 1, 1) := by decide +kernel
theorem dX9_layOwners_72 : decode cX9_layOwners 72 = .ok (.iaload, 1) := by decide +kernel
theorem dX9_layOwners_73 : decode cX9_layOwners 73 = .ok (.invokevirtual 161, 3) := by decide +kernel
theorem dX9_layOwners_76 : decode cX9_layOwners 76 = .ok (.imul, 1) := by decide +kernel
theorem dX9_layOwners_77 : decode cX9_layOwners 77 = .ok (.aload_n 0, 1) := by decide +kernel
theorem dX9_layOwners_78 : decode cX9_layOwners 78 = .ok (.iload_n 1, 1) := by decide +kernel
theorem dX9_layOwners_79 : decode cX9_layOwners 79 = .ok (.iload_n 3, 1) := by decide +kernel
theorem dX9_layOwners_80 : decode cX9_layOwners 80 = .ok (.aload_n 0, 1) := by decide +kernel
theorem dX9_layOwners_81 : decode cX9_layOwners 81 = .ok (.getfield 37, 3) := by decide +kernel
theorem dX9_layOwners_84 : decode cX9_layOwners 84 = .ok (.iload_n 1, 1) := by decide +kernel
theorem dX9_layOwners_85 : decode cX9_layOwners 85 = .ok (.iaload, 1) := by decide +kernel
theorem dX9_layOwners_86 : decode cX9_layOwners 86 = .ok (.invokevirtual 164, 3) := by decide +kernel
theorem dX9_layOwners_89 : decode cX9_layOwners 89 = .ok (.iadd, 1) := by decide +kernel
theorem dX9_layOwners_90 : decode cX9_layOwners 90 = .ok (.istore 4, 2) := by decide +kernel
theorem dX9_layOwners_92 : decode cX9_layOwners 92 = .ok (.aload_n 0, 1) := by decide +kernel
theorem dX9_layOwners_93 : decode cX9_layOwners 93 = .ok (.getfield 65, 3) := by decide +kernel
theorem dX9_layOwners_96 : decode cX9_layOwners 96 = .ok (.iload 4, 2) := by decide +kernel
theorem dX9_layOwners_98 : decode cX9_layOwners 98 = .ok (.iload_n 1, 1) := by decide +kernel
theorem dX9_layOwners_99 : decode cX9_layOwners 99 = .ok (.iastore, 1) := by decide +kernel
theorem dX9_layOwners_100 : decode cX9_layOwners 100 = .ok (.iload_n 2, 1) := by decide +kernel
theorem dX9_layOwners_101 : decode cX9_layOwners 101 = .ok (.aload_n 0, 1) := by decide +kernel
theorem dX9_layOwners_102 : decode cX9_layOwners 102 = .ok (.getfield 13, 3) := by decide +kernel
theorem dX9_layOwners_105 : decode cX9_layOwners 105 = .ok (.iload 4, 2) := by decide +kernel
theorem dX9_layOwners_107 : decode cX9_layOwners 107 = .ok (.iaload, 1) := by decide +kernel
theorem dX9_layOwners_108 : decode cX9_layOwners 108 = .ok (.bipush 6, 2) := by decide +kernel
theorem dX9_layOwners_110 : decode cX9_layOwners 110 = .ok (.bipush 9, 2) := by decide +kernel
theorem dX9_layOwners_112 : decode cX9_layOwners 112 = .ok (.invokestatic 119, 3) := by decide +kernel
theorem dX9_layOwners_115 : decode cX9_layOwners 115 = .ok (.ifCond .eq 18, 3) := by decide +kernel
theorem dX9_layOwners_118 : decode cX9_layOwners 118 = .ok (.iconst 1, 1) := by decide +kernel
theorem dX9_layOwners_119 : decode cX9_layOwners 119 = .ok (.aload_n 0, 1) := by decide +kernel
theorem dX9_layOwners_120 : decode cX9_layOwners 120 = .ok (.getfield 13, 3) := by decide +kernel
theorem dX9_layOwners_123 : decode cX9_layOwners 123 = .ok (.iload 4, 2) := by decide +kernel
theorem dX9_layOwners_125 : decode cX9_layOwners 125 = .ok (.iaload, 1) := by decide +kernel
theorem dX9_layOwners_126 : decode cX9_layOwners 126 = .ok (.bipush 6, 2) := by decide +kernel
theorem dX9_layOwners_128 : decode cX9_layOwners 128 = .ok (.isub, 1) := by decide +kernel
theorem dX9_layOwners_129 : decode cX9_layOwners 129 = .ok (.ishl, 1) := by decide +kernel
theorem dX9_layOwners_130 : decode cX9_layOwners 130 = .ok (.goto 4, 3) := by decide +kernel
theorem dX9_layOwners_133 : decode cX9_layOwners 133 = .ok (.iconst 0, 1) := by decide +kernel
theorem dX9_layOwners_134 : decode cX9_layOwners 134 = .ok (.ior, 1) := by decide +kernel
theorem dX9_layOwners_135 : decode cX9_layOwners 135 = .ok (.istore_n 2, 1) := by decide +kernel
theorem dX9_layOwners_136 : decode cX9_layOwners 136 = .ok (.iinc 3 1, 3) := by decide +kernel
theorem dX9_layOwners_139 : decode cX9_layOwners 139 = .ok (.goto (-87), 3) := by decide +kernel
theorem dX9_layOwners_142 : decode cX9_layOwners 142 = .ok (.iconst 0, 1) := by decide +kernel
theorem dX9_layOwners_143 : decode cX9_layOwners 143 = .ok (.istore_n 3, 1) := by decide +kernel
theorem dX9_layOwners_144 : decode cX9_layOwners 144 = .ok (.iload_n 3, 1) := by decide +kernel
theorem dX9_layOwners_145 : decode cX9_layOwners 145 = .ok (.iconst 4, 1) := by decide +kernel
theorem dX9_layOwners_146 : decode cX9_layOwners 146 = .ok (.if_icmp .ge 30, 3) := by decide +kernel
theorem dX9_layOwners_149 : decode cX9_layOwners 149 = .ok (.aload_n 0, 1) := by decide +kernel
theorem dX9_layOwners_150 : decode cX9_layOwners 150 = .ok (.getfield 68, 3) := by decide +kernel
theorem dX9_layOwners_153 : decode cX9_layOwners 153 = .ok (.iload_n 3, 1) := by decide +kernel
theorem dX9_layOwners_154 : decode cX9_layOwners 154 = .ok (.dup2, 1) := by decide +kernel
theorem dX9_layOwners_155 : decode cX9_layOwners 155 = .ok (.iaload, 1) := by decide +kernel
theorem dX9_layOwners_156 : decode cX9_layOwners 156 = .ok (.iload_n 2, 1) := by decide +kernel
theorem dX9_layOwners_157 : decode cX9_layOwners 157 = .ok (.iload_n 3, 1) := by decide +kernel
theorem dX9_layOwners_158 : decode cX9_layOwners 158 = .ok (.ishr, 1) := by decide +kernel
theorem dX9_layOwners_159 : decode cX9_layOwners 159 = .ok (.iconst 1, 1) := by decide +kernel
theorem dX9_layOwners_160 : decode cX9_layOwners 160 = .ok (.iand, 1) := by decide +kernel
theorem dX9_layOwners_161 : decode cX9_layOwners 161 = .ok (.aload_n 0, 1) := by decide +kernel
theorem dX9_layOwners_162 : decode cX9_layOwners 162 = .ok (.getfield 25, 3) := by decide +kernel
theorem dX9_layOwners_165 : decode cX9_layOwners 165 = .ok (.iload_n 1, 1) := by decide +kernel
theorem dX9_layOwners_166 : decode cX9_layOwners 166 = .ok (.iaload, 1) := by decide +kernel
theorem dX9_layOwners_167 : decode cX9_layOwners 167 = .ok (.imul, 1) := by decide +kernel
theorem dX9_layOwners_168 : decode cX9_layOwners 168 = .ok (.iadd, 1) := by decide +kernel
theorem dX9_layOwners_169 : decode cX9_layOwners 169 = .ok (.iastore, 1) := by decide +kernel
theorem dX9_layOwners_170 : decode cX9_layOwners 170 = .ok (.iinc 3 1, 3) := by decide +kernel
theorem dX9_layOwners_173 : decode cX9_layOwners 173 = .ok (.goto (-29), 3) := by decide +kernel
theorem dX9_layOwners_176 : decode cX9_layOwners 176 = .ok (.iinc 1 1, 3) := by decide +kernel
theorem dX9_layOwners_179 : decode cX9_layOwners 179 = .ok (.goto (-136), 3) := by decide +kernel
theorem dX9_layOwners_182 : decode cX9_layOwners 182 = .ok (.return_, 1) := by decide +kernel
theorem dX9_isPassable_0 : decode cX9_isPassable 0 = .ok (.aload_n 0, 1) := by decide +kernel
theorem dX9_isPassable_1 : decode cX9_isPassable 1 = .ok (.iload_n 2, 1) := by decide +kernel
theorem dX9_isPassable_2 : decode cX9_isPassable 2 = .ok (.iload_n 3, 1) := by decide +kernel
theorem dX9_isPassable_3 : decode cX9_isPassable 3 = .ok (.invokevirtual 167, 3) := by decide +kernel
theorem dX9_isPassable_6 : decode cX9_isPassable 6 = .ok (.ifCond .eq 13, 3) := by decide +kernel
theorem dX9_isPassable_9 : decode cX9_isPassable 9 = .ok (.aload_n 0, 1) := by decide +kernel
theorem dX9_isPassable_10 : decode cX9_isPassable 10 = .ok (.iload_n 2, 1) := by decide +kernel
theorem dX9_isPassable_11 : decode cX9_isPassable 11 = .ok (.iload_n 3, 1) := by decide +kernel
theorem dX9_isPassable_12 : decode cX9_isPassable 12 = .ok (.invokevirtual 171, 3) := by decide +kernel
theorem dX9_isPassable_15 : decode cX9_isPassable 15 = .ok (.iconst 1, 1) := by decide +kernel
theorem dX9_isPassable_16 : decode cX9_isPassable 16 = .ok (.if_icmp .ne 5, 3) := by decide +kernel
theorem dX9_isPassable_19 : decode cX9_isPassable 19 = .ok (.iconst 0, 1) := by decide +kernel
theorem dX9_isPassable_20 : decode cX9_isPassable 20 = .ok (.ireturn, 1) := by decide +kernel
theorem dX9_isPassable_21 : decode cX9_isPassable 21 = .ok (.aload_n 0, 1) := by decide +kernel
theorem dX9_isPassable_22 : decode cX9_isPassable 22 = .ok (.iload_n 2, 1) := by decide +kernel
theorem dX9_isPassable_23 : decode cX9_isPassable 23 = .ok (.iload_n 3, 1) := by decide +kernel
theorem dX9_isPassable_24 : decode cX9_isPassable 24 = .ok (.invokevirtual 171, 3) := by decide +kernel
theorem dX9_isPassable_27 : decode cX9_isPassable 27 = .ok (.bipush 10, 2) := by decide +kernel
theorem dX9_isPassable_29 : decode cX9_isPassable 29 = .ok (.isub, 1) := by decide +kernel
theorem dX9_isPassable_30 : decode cX9_isPassable 30 = .ok (.istore 4, 2) := by decide +kernel
theorem dX9_isPassable_32 : decode cX9_isPassable 32 = .ok (.iload 4, 2) := by decide +kernel
theorem dX9_isPassable_34 : decode cX9_isPassable 34 = .ok (.ifCond .lt 35, 3) := by decide +kernel
theorem dX9_isPassable_37 : decode cX9_isPassable 37 = .ok (.aload_n 0, 1) := by decide +kernel
theorem dX9_isPassable_38 : decode cX9_isPassable 38 = .ok (.getfield 68, 3) := by decide +kernel
theorem dX9_isPassable_41 : decode cX9_isPassable 41 = .ok (.iload 4, 2) := by decide +kernel
theorem dX9_isPassable_43 : decode cX9_isPassable 43 = .ok (.iaload, 1) := by decide +kernel
theorem dX9_isPassable_44 : decode cX9_isPassable 44 = .ok (.aload_n 0, 1) := by decide +kernel
theorem dX9_isPassable_45 : decode cX9_isPassable 45 = .ok (.getfield 7, 3) := by decide +kernel
theorem dX9_isPassable_48 : decode cX9_isPassable 48 = .ok (.iload 4, 2) := by decide +kernel
theorem dX9_isPassable_50 : decode cX9_isPassable 50 = .ok (.iaload, 1) := by decide +kernel
theorem dX9_isPassable_51 : decode cX9_isPassable 51 = .ok (.if_icmp .ge 18, 3) := by decide +kernel
theorem dX9_isPassable_54 : decode cX9_isPassable 54 = .ok (.aload_n 0, 1) := by decide +kernel
theorem dX9_isPassable_55 : decode cX9_isPassable 55 = .ok (.getfield 65, 3) := by decide +kernel
theorem dX9_isPassable_58 : decode cX9_isPassable 58 = .ok (.bipush 8, 2) := by decide +kernel
theorem dX9_isPassable_60 : decode cX9_isPassable 60 = .ok (.iload_n 3, 1) := by decide +kernel
theorem dX9_isPassable_61 : decode cX9_isPassable 61 = .ok (.imul, 1) := by decide +kernel
theorem dX9_isPassable_62 : decode cX9_isPassable 62 = .ok (.iload_n 2, 1) := by decide +kernel
theorem dX9_isPassable_63 : decode cX9_isPassable 63 = .ok (.iadd, 1) := by decide +kernel
theorem dX9_isPassable_64 : decode cX9_isPassable 64 = .ok (.iaload, 1) := by decide +kernel
theorem dX9_isPassable_65 : decode cX9_isPassable 65 = .ok (.iload_n 1, 1) := by decide +kernel
theorem dX9_isPassable_66 : decode cX9_isPassable 66 = .ok (.if_icmp .ne 7, 3) := by decide +kernel
theorem dX9_isPassable_69 : decode cX9_isPassable 69 = .ok (.iconst 1, 1) := by decide +kernel
theorem dX9_isPassable_70 : decode cX9_isPassable 70 = .ok (.goto 4, 3) := by decide +kernel
theorem dX9_isPassable_73 : decode cX9_isPassable 73 = .ok (.iconst 0, 1) := by decide +kernel
theorem dX9_isPassable_74 : decode cX9_isPassable 74 = .ok (.ireturn, 1) := by decide +kernel
theorem dX9_pushed_0 : decode cX9_pushed 0 = .ok (.iconst 1, 1) := by decide +kernel
theorem dX9_pushed_1 : decode cX9_pushed 1 = .ok (.iload_n 1, 1) := by decide +kernel
theorem dX9_pushed_2 : decode cX9_pushed 2 = .ok (.ishl, 1) := by decide +kernel
theorem dX9_pushed_3 : decode cX9_pushed 3 = .ok (.istore_n 3, 1) := by decide +kernel
theorem dX9_pushed_4 : decode cX9_pushed 4 = .ok (.iconst 0, 1) := by decide +kernel
theorem dX9_pushed_5 : decode cX9_pushed 5 = .ok (.istore 4, 2) := by decide +kernel
theorem dX9_pushed_7 : decode cX9_pushed 7 = .ok (.iload 4, 2) := by decide +kernel
theorem dX9_pushed_9 : decode cX9_pushed 9 = .ok (.iload_n 3, 1) := by decide +kernel
theorem dX9_pushed_10 : decode cX9_pushed 10 = .ok (.if_icmp .eq 146, 3) := by decide +kernel
theorem dX9_pushed_13 : decode cX9_pushed 13 = .ok (.iload_n 3, 1) := by decide +kernel
theorem dX9_pushed_14 : decode cX9_pushed 14 = .ok (.istore 4, 2) := by decide +kernel
theorem dX9_pushed_16 : decode cX9_pushed 16 = .ok (.iconst 0, 1) := by decide +kernel
theorem dX9_pushed_17 : decode cX9_pushed 17 = .ok (.istore 5, 2) := by decide +kernel
theorem dX9_pushed_19 : decode cX9_pushed 19 = .ok (.iload 5, 2) := by decide +kernel
theorem dX9_pushed_21 : decode cX9_pushed 21 = .ok (.iconst 5, 1) := by decide +kernel
theorem dX9_pushed_22 : decode cX9_pushed 22 = .ok (.if_icmp .ge 131, 3) := by decide +kernel
theorem dX9_pushed_25 : decode cX9_pushed 25 = .ok (.iconst 0, 1) := by decide +kernel
theorem dX9_pushed_26 : decode cX9_pushed 26 = .ok (.istore 6, 2) := by decide +kernel
theorem dX9_pushed_28 : decode cX9_pushed 28 = .ok (.iload 6, 2) := by decide +kernel
theorem dX9_pushed_30 : decode cX9_pushed 30 = .ok (.aload_n 0, 1) := by decide +kernel
theorem dX9_pushed_31 : decode cX9_pushed 31 = .ok (.getfield 16, 3) := by decide +kernel
theorem dX9_pushed_34 : decode cX9_pushed 34 = .ok (.iload 5, 2) := by decide +kernel
theorem dX9_pushed_36 : decode cX9_pushed 36 = .ok (.iaload, 1) := by decide +kernel
theorem dX9_pushed_37 : decode cX9_pushed 37 = .ok (.if_icmp .ge 110, 3) := by decide +kernel
theorem dX9_pushed_40 : decode cX9_pushed 40 = .ok (.iload 4, 2) := by decide +kernel
theorem dX9_pushed_42 : decode cX9_pushed 42 = .ok (.iload 5, 2) := by decide +kernel
theorem dX9_pushed_44 : decode cX9_pushed 44 = .ok (.ishr, 1) := by decide +kernel
theorem dX9_pushed_45 : decode cX9_pushed 45 = .ok (.iconst 1, 1) := by decide +kernel
theorem dX9_pushed_46 : decode cX9_pushed 46 = .ok (.iand, 1) := by decide +kernel
theorem dX9_pushed_47 : decode cX9_pushed 47 = .ok (.iconst 1, 1) := by decide +kernel
theorem dX9_pushed_48 : decode cX9_pushed 48 = .ok (.if_icmp .ne 99, 3) := by decide +kernel
theorem dX9_pushed_51 : decode cX9_pushed 51 = .ok (.aload_n 0, 1) := by decide +kernel
theorem dX9_pushed_52 : decode cX9_pushed 52 = .ok (.iload 5, 2) := by decide +kernel
theorem dX9_pushed_54 : decode cX9_pushed 54 = .ok (.iload 6, 2) := by decide +kernel
theorem dX9_pushed_56 : decode cX9_pushed 56 = .ok (.aload_n 0, 1) := by decide +kernel
theorem dX9_pushed_57 : decode cX9_pushed 57 = .ok (.getfield 37, 3) := by decide +kernel
theorem dX9_pushed_60 : decode cX9_pushed 60 = .ok (.iload 5, 2) := by decide +kernel
theorem dX9_pushed_62 : decode cX9_pushed 62 = .ok (.iaload, 1) := by decide +kernel
theorem dX9_pushed_63 : decode cX9_pushed 63 = .ok (.invokevirtual 164, 3) := by decide +kernel
theorem dX9_pushed_66 : decode cX9_pushed 66 = .ok (.iload_n 2, 1) := by decide +kernel
theorem dX9_pushed_67 : decode cX9_pushed 67 = .ok (.invokestatic 175, 3) := by decide +kernel
theorem dX9_pushed_70 : decode cX9_pushed 70 = .ok (.iadd, 1) := by decide +kernel
theorem dX9_pushed_71 : decode cX9_pushed 71 = .ok (.istore 7, 2) := by decide +kernel
theorem dX9_pushed_73 : decode cX9_pushed 73 = .ok (.aload_n 0, 1) := by decide +kernel
theorem dX9_pushed_74 : decode cX9_pushed 74 = .ok (.iload 5, 2) := by decide +kernel
theorem dX9_pushed_76 : decode cX9_pushed 76 = .ok (.iload 6, 2) := by decide +kernel
theorem dX9_pushed_78 : decode cX9_pushed 78 = .ok (.aload_n 0, 1) := by decide +kernel
theorem dX9_pushed_79 : decode cX9_pushed 79 = .ok (.getfield 37, 3) := by decide +kernel
theorem dX9_pushed_82 : decode cX9_pushed 82 = .ok (.iload 5, 2) := by decide +kernel
theorem dX9_pushed_84 : decode cX9_pushed 84 = .ok (.iaload, 1) := by decide +kernel
theorem dX9_pushed_85 : decode cX9_pushed 85 = .ok (.invokevirtual 161, 3) := by decide +kernel
theorem dX9_pushed_88 : decode cX9_pushed 88 = .ok (.iload_n 2, 1) := by decide +kernel
theorem dX9_pushed_89 : decode cX9_pushed 89 = .ok (.invokestatic 179, 3) := by decide +kernel
theorem dX9_pushed_92 : decode cX9_pushed 92 = .ok (.iadd, 1) := by decide +kernel
theorem dX9_pushed_93 : decode cX9_pushed 93 = .ok (.istore 8, 2) := by decide +kernel
theorem dX9_pushed_95 : decode cX9_pushed 95 = .ok (.aload_n 0, 1) := by decide +kernel
theorem dX9_pushed_96 : decode cX9_pushed 96 = .ok (.iload 7, 2) := by decide +kernel
theorem dX9_pushed_98 : decode cX9_pushed 98 = .ok (.iload 8, 2) := by decide +kernel
theorem dX9_pushed_100 : decode cX9_pushed 100 = .ok (.invokevirtual 167, 3) := by decide +kernel
theorem dX9_pushed_103 : decode cX9_pushed 103 = .ok (.ifCond .eq 19, 3) := by decide +kernel
theorem dX9_pushed_106 : decode cX9_pushed 106 = .ok (.aload_n 0, 1) := by decide +kernel
theorem dX9_pushed_107 : decode cX9_pushed 107 = .ok (.getfield 65, 3) := by decide +kernel
theorem dX9_pushed_110 : decode cX9_pushed 110 = .ok (.bipush 8, 2) := by decide +kernel
theorem dX9_pushed_112 : decode cX9_pushed 112 = .ok (.iload 8, 2) := by decide +kernel
theorem dX9_pushed_114 : decode cX9_pushed 114 = .ok (.imul, 1) := by decide +kernel
theorem dX9_pushed_115 : decode cX9_pushed 115 = .ok (.iload 7, 2) := by decide +kernel
theorem dX9_pushed_117 : decode cX9_pushed 117 = .ok (.iadd, 1) := by decide +kernel
theorem dX9_pushed_118 : decode cX9_pushed 118 = .ok (.iaload, 1) := by decide +kernel
theorem dX9_pushed_119 : decode cX9_pushed 119 = .ok (.goto 4, 3) := by decide +kernel
theorem dX9_pushed_122 : decode cX9_pushed 122 = .ok (.iconst (-1), 1) := by decide +kernel
theorem dX9_pushed_123 : decode cX9_pushed 123 = .ok (.istore 9, 2) := by decide +kernel
theorem dX9_pushed_125 : decode cX9_pushed 125 = .ok (.iload_n 3, 1) := by decide +kernel
theorem dX9_pushed_126 : decode cX9_pushed 126 = .ok (.iload 9, 2) := by decide +kernel
theorem dX9_pushed_128 : decode cX9_pushed 128 = .ok (.ifCond .lt 10, 3) := by decide +kernel
theorem dX9_pushed_131 : decode cX9_pushed 131 = .ok (.iconst 1, 1) := by decide +kernel
theorem dX9_pushed_132 : decode cX9_pushed 132 = .ok (.iload 9, 2) := by decide +kernel
theorem dX9_pushed_134 : decode cX9_pushed 134 = .ok (.ishl, 1) := by decide +kernel
theorem dX9_pushed_135 : decode cX9_pushed 135 = .ok (.goto 4, 3) := by decide +kernel
theorem dX9_pushed_138 : decode cX9_pushed 138 = .ok (.iconst 0, 1) := by decide +kernel
theorem dX9_pushed_139 : decode cX9_pushed 139 = .ok (.ior, 1) := by decide +kernel
theorem dX9_pushed_140 : decode cX9_pushed 140 = .ok (.istore_n 3, 1) := by decide +kernel
theorem dX9_pushed_141 : decode cX9_pushed 141 = .ok (.iinc 6 1, 3) := by decide +kernel
theorem dX9_pushed_144 : decode cX9_pushed 144 = .ok (.goto (-116), 3) := by decide +kernel
theorem dX9_pushed_147 : decode cX9_pushed 147 = .ok (.iinc 5 1, 3) := by decide +kernel
theorem dX9_pushed_150 : decode cX9_pushed 150 = .ok (.goto (-131), 3) := by decide +kernel
theorem dX9_pushed_153 : decode cX9_pushed 153 = .ok (.goto (-146), 3) := by decide +kernel
theorem dX9_pushed_156 : decode cX9_pushed 156 = .ok (.iconst 0, 1) := by decide +kernel
theorem dX9_pushed_157 : decode cX9_pushed 157 = .ok (.istore 5, 2) := by decide +kernel
theorem dX9_pushed_159 : decode cX9_pushed 159 = .ok (.iconst 0, 1) := by decide +kernel
theorem dX9_pushed_160 : decode cX9_pushed 160 = .ok (.istore 6, 2) := by decide +kernel
theorem dX9_pushed_162 : decode cX9_pushed 162 = .ok (.iload 6, 2) := by decide +kernel
theorem dX9_pushed_164 : decode cX9_pushed 164 = .ok (.iconst 5, 1) := by decide +kernel
theorem dX9_pushed_165 : decode cX9_pushed 165 = .ok (.if_icmp .ge 43, 3) := by decide +kernel
theorem dX9_pushed_168 : decode cX9_pushed 168 = .ok (.iload_n 3, 1) := by decide +kernel
theorem dX9_pushed_169 : decode cX9_pushed 169 = .ok (.iload 6, 2) := by decide +kernel
theorem dX9_pushed_171 : decode cX9_pushed 171 = .ok (.ishr, 1) := by decide +kernel
theorem dX9_pushed_172 : decode cX9_pushed 172 = .ok (.iconst 1, 1) := by decide +kernel
theorem dX9_pushed_173 : decode cX9_pushed 173 = .ok (.iand, 1) := by decide +kernel
theorem dX9_pushed_174 : decode cX9_pushed 174 = .ok (.iconst 1, 1) := by decide +kernel
theorem dX9_pushed_175 : decode cX9_pushed 175 = .ok (.if_icmp .ne 27, 3) := by decide +kernel
theorem dX9_pushed_178 : decode cX9_pushed 178 = .ok (.iload 5, 2) := by decide +kernel
theorem dX9_pushed_180 : decode cX9_pushed 180 = .ok (.aload_n 0, 1) := by decide +kernel
theorem dX9_pushed_181 : decode cX9_pushed 181 = .ok (.getfield 25, 3) := by decide +kernel
theorem dX9_pushed_184 : decode cX9_pushed 184 = .ok (.iload 6, 2) := by decide +kernel
theorem dX9_pushed_186 : decode cX9_pushed 186 = .ok (.iaload, 1) := by decide +kernel
theorem dX9_pushed_187 : decode cX9_pushed 187 = .ok (.iadd, 1) := by decide +kernel
theorem dX9_pushed_188 : decode cX9_pushed 188 = .ok (.istore 5, 2) := by decide +kernel
theorem dX9_pushed_190 : decode cX9_pushed 190 = .ok (.aload_n 0, 1) := by decide +kernel
theorem dX9_pushed_191 : decode cX9_pushed 191 = .ok (.iload 6, 2) := by decide +kernel
theorem dX9_pushed_193 : decode cX9_pushed 193 = .ok (.iload_n 2, 1) := by decide +kernel
theorem dX9_pushed_194 : decode cX9_pushed 194 = .ok (.invokevirtual 182, 3) := by decide +kernel
theorem dX9_pushed_197 : decode cX9_pushed 197 = .ok (.ifCond .ne 5, 3) := by decide +kernel
theorem dX9_pushed_200 : decode cX9_pushed 200 = .ok (.iconst 0, 1) := by decide +kernel
theorem dX9_pushed_201 : decode cX9_pushed 201 = .ok (.ireturn, 1) := by decide +kernel
theorem dX9_pushed_202 : decode cX9_pushed 202 = .ok (.iinc 6 1, 3) := by decide +kernel
theorem dX9_pushed_205 : decode cX9_pushed 205 = .ok (.goto (-43), 3) := by decide +kernel
theorem dX9_pushed_208 : decode cX9_pushed 208 = .ok (.iload 5, 2) := by decide +kernel
theorem dX9_pushed_210 : decode cX9_pushed 210 = .ok (.aload_n 0, 1) := by decide +kernel
theorem dX9_pushed_211 : decode cX9_pushed 211 = .ok (.getfield 116, 3) := by decide +kernel
theorem dX9_pushed_214 : decode cX9_pushed 214 = .ok (.if_icmp .gt 7, 3) := by decide +kernel
theorem dX9_pushed_217 : decode cX9_pushed 217 = .ok (.iload_n 3, 1) := by decide +kernel
theorem dX9_pushed_218 : decode cX9_pushed 218 = .ok (.goto 4, 3) := by decide +kernel
theorem dX9_pushed_221 : decode cX9_pushed 221 = .ok (.iconst 0, 1) := by decide +kernel
theorem dX9_pushed_222 : decode cX9_pushed 222 = .ok (.ireturn, 1) := by decide +kernel
theorem dX9_maySlide_0 : decode cX9_maySlide 0 = .ok (.iconst 0, 1) := by decide +kernel
theorem dX9_maySlide_1 : decode cX9_maySlide 1 = .ok (.istore_n 3, 1) := by decide +kernel
theorem dX9_maySlide_2 : decode cX9_maySlide 2 = .ok (.iload_n 3, 1) := by decide +kernel
theorem dX9_maySlide_3 : decode cX9_maySlide 3 = .ok (.aload_n 0, 1) := by decide +kernel
theorem dX9_maySlide_4 : decode cX9_maySlide 4 = .ok (.getfield 16, 3) := by decide +kernel
theorem dX9_maySlide_7 : decode cX9_maySlide 7 = .ok (.iload_n 1, 1) := by decide +kernel
theorem dX9_maySlide_8 : decode cX9_maySlide 8 = .ok (.iaload, 1) := by decide +kernel
theorem dX9_maySlide_9 : decode cX9_maySlide 9 = .ok (.if_icmp .ge 91, 3) := by decide +kernel
theorem dX9_maySlide_12 : decode cX9_maySlide 12 = .ok (.aload_n 0, 1) := by decide +kernel
theorem dX9_maySlide_13 : decode cX9_maySlide 13 = .ok (.iload_n 1, 1) := by decide +kernel
theorem dX9_maySlide_14 : decode cX9_maySlide 14 = .ok (.iload_n 3, 1) := by decide +kernel
theorem dX9_maySlide_15 : decode cX9_maySlide 15 = .ok (.aload_n 0, 1) := by decide +kernel
theorem dX9_maySlide_16 : decode cX9_maySlide 16 = .ok (.getfield 37, 3) := by decide +kernel
theorem dX9_maySlide_19 : decode cX9_maySlide 19 = .ok (.iload_n 1, 1) := by decide +kernel
theorem dX9_maySlide_20 : decode cX9_maySlide 20 = .ok (.iaload, 1) := by decide +kernel
theorem dX9_maySlide_21 : decode cX9_maySlide 21 = .ok (.invokevirtual 164, 3) := by decide +kernel
theorem dX9_maySlide_24 : decode cX9_maySlide 24 = .ok (.iload_n 2, 1) := by decide +kernel
theorem dX9_maySlide_25 : decode cX9_maySlide 25 = .ok (.invokestatic 175, 3) := by decide +kernel
theorem dX9_maySlide_28 : decode cX9_maySlide 28 = .ok (.iadd, 1) := by decide +kernel
theorem dX9_maySlide_29 : decode cX9_maySlide 29 = .ok (.istore 4, 2) := by decide +kernel
theorem dX9_maySlide_31 : decode cX9_maySlide 31 = .ok (.aload_n 0, 1) := by decide +kernel
theorem dX9_maySlide_32 : decode cX9_maySlide 32 = .ok (.iload_n 1, 1) := by decide +kernel
theorem dX9_maySlide_33 : decode cX9_maySlide 33 = .ok (.iload_n 3, 1) := by decide +kernel
theorem dX9_maySlide_34 : decode cX9_maySlide 34 = .ok (.aload_n 0, 1) := by decide +kernel
theorem dX9_maySlide_35 : decode cX9_maySlide 35 = .ok (.getfield 37, 3) := by decide +kernel
theorem dX9_maySlide_38 : decode cX9_maySlide 38 = .ok (.iload_n 1, 1) := by decide +kernel
theorem dX9_maySlide_39 : decode cX9_maySlide 39 = .ok (.iaload, 1) := by decide +kernel
theorem dX9_maySlide_40 : decode cX9_maySlide 40 = .ok (.invokevirtual 161, 3) := by decide +kernel
theorem dX9_maySlide_43 : decode cX9_maySlide 43 = .ok (.iload_n 2, 1) := by decide +kernel
theorem dX9_maySlide_44 : decode cX9_maySlide 44 = .ok (.invokestatic 179, 3) := by decide +kernel
theorem dX9_maySlide_47 : decode cX9_maySlide 47 = .ok (.iadd, 1) := by decide +kernel
theorem dX9_maySlide_48 : decode cX9_maySlide 48 = .ok (.istore 5, 2) := by decide +kernel
theorem dX9_maySlide_50 : decode cX9_maySlide 50 = .ok (.aload_n 0, 1) := by decide +kernel
theorem dX9_maySlide_51 : decode cX9_maySlide 51 = .ok (.iload_n 1, 1) := by decide +kernel
theorem dX9_maySlide_52 : decode cX9_maySlide 52 = .ok (.iload 4, 2) := by decide +kernel
theorem dX9_maySlide_54 : decode cX9_maySlide 54 = .ok (.iload 5, 2) := by decide +kernel
theorem dX9_maySlide_56 : decode cX9_maySlide 56 = .ok (.invokevirtual 185, 3) := by decide +kernel
theorem dX9_maySlide_59 : decode cX9_maySlide 59 = .ok (.ifCond .eq 33, 3) := by decide +kernel
theorem dX9_maySlide_62 : decode cX9_maySlide 62 = .ok (.aload_n 0, 1) := by decide +kernel
theorem dX9_maySlide_63 : decode cX9_maySlide 63 = .ok (.iload 4, 2) := by decide +kernel
theorem dX9_maySlide_65 : decode cX9_maySlide 65 = .ok (.iload 5, 2) := by decide +kernel
theorem dX9_maySlide_67 : decode cX9_maySlide 67 = .ok (.invokevirtual 171, 3) := by decide +kernel
theorem dX9_maySlide_70 : decode cX9_maySlide 70 = .ok (.iconst 2, 1) := by decide +kernel
theorem dX9_maySlide_71 : decode cX9_maySlide 71 = .ok (.iconst 5, 1) := by decide +kernel
theorem dX9_maySlide_72 : decode cX9_maySlide 72 = .ok (.invokestatic 119, 3) := by decide +kernel
theorem dX9_maySlide_75 : decode cX9_maySlide 75 = .ok (.ifCond .eq 19, 3) := by decide +kernel
theorem dX9_maySlide_78 : decode cX9_maySlide 78 = .ok (.aload_n 0, 1) := by decide +kernel
theorem dX9_maySlide_79 : decode cX9_maySlide 79 = .ok (.iload 4, 2) := by decide +kernel
theorem dX9_maySlide_81 : decode cX9_maySlide 81 = .ok (.iload 5, 2) := by decide +kernel
theorem dX9_maySlide_83 : decode cX9_maySlide 83 = .ok (.invokevirtual 171, 3) := by decide +kernel
theorem dX9_maySlide_86 : decode cX9_maySlide 86 = .ok (.iconst 2, 1) := by decide +kernel
theorem dX9_maySlide_87 : decode cX9_maySlide 87 = .ok (.iload_n 2, 1) := by decide +kernel
theorem dX9_maySlide_88 : decode cX9_maySlide 88 = .ok (.iadd, 1) := by decide +kernel
theorem dX9_maySlide_89 : decode cX9_maySlide 89 = .ok (.if_icmp .eq 5, 3) := by decide +kernel
theorem dX9_maySlide_92 : decode cX9_maySlide 92 = .ok (.iconst 0, 1) := by decide +kernel
theorem dX9_maySlide_93 : decode cX9_maySlide 93 = .ok (.ireturn, 1) := by decide +kernel
theorem dX9_maySlide_94 : decode cX9_maySlide 94 = .ok (.iinc 3 1, 3) := by decide +kernel
theorem dX9_maySlide_97 : decode cX9_maySlide 97 = .ok (.goto (-95), 3) := by decide +kernel
theorem dX9_maySlide_100 : decode cX9_maySlide 100 = .ok (.iconst 1, 1) := by decide +kernel
theorem dX9_maySlide_101 : decode cX9_maySlide 101 = .ok (.ireturn, 1) := by decide +kernel
theorem dX9_goRound_0 : decode cX9_goRound 0 = .ok (.iload_n 2, 1) := by decide +kernel
theorem dX9_goRound_1 : decode cX9_goRound 1 = .ok (.ifCond .eq 10, 3) := by decide +kernel
theorem dX9_goRound_4 : decode cX9_goRound 4 = .ok (.aload_n 0, 1) := by decide +kernel
theorem dX9_goRound_5 : decode cX9_goRound 5 = .ok (.getfield 188, 3) := by decide +kernel
theorem dX9_goRound_8 : decode cX9_goRound 8 = .ok (.goto 8, 3) := by decide +kernel
theorem dX9_goRound_11 : decode cX9_goRound 11 = .ok (.aload_n 0, 1) := by decide +kernel
theorem dX9_goRound_12 : decode cX9_goRound 12 = .ok (.getfield 188, 3) := by decide +kernel
theorem dX9_goRound_15 : decode cX9_goRound 15 = .ok (.ineg, 1) := by decide +kernel
theorem dX9_goRound_16 : decode cX9_goRound 16 = .ok (.istore_n 3, 1) := by decide +kernel
theorem dX9_goRound_17 : decode cX9_goRound 17 = .ok (.aload_n 0, 1) := by decide +kernel
theorem dX9_goRound_18 : decode cX9_goRound 18 = .ok (.getfield 191, 3) := by decide +kernel
theorem dX9_goRound_21 : decode cX9_goRound 21 = .ok (.iload_n 1, 1) := by decide +kernel
theorem dX9_goRound_22 : decode cX9_goRound 22 = .ok (.ineg, 1) := by decide +kernel
theorem dX9_goRound_23 : decode cX9_goRound 23 = .ok (.if_icmp .ne 14, 3) := by decide +kernel
theorem dX9_goRound_26 : decode cX9_goRound 26 = .ok (.iload_n 3, 1) := by decide +kernel
theorem dX9_goRound_27 : decode cX9_goRound 27 = .ok (.iload_n 1, 1) := by decide +kernel
theorem dX9_goRound_28 : decode cX9_goRound 28 = .ok (.if_icmp .ge 9, 3) := by decide +kernel
theorem dX9_goRound_31 : decode cX9_goRound 31 = .ok (.iinc 3 1, 3) := by decide +kernel
theorem dX9_goRound_34 : decode cX9_goRound 34 = .ok (.goto 59, 3) := by decide +kernel
theorem dX9_goRound_37 : decode cX9_goRound 37 = .ok (.iload_n 3, 1) := by decide +kernel
theorem dX9_goRound_38 : decode cX9_goRound 38 = .ok (.iload_n 1, 1) := by decide +kernel
theorem dX9_goRound_39 : decode cX9_goRound 39 = .ok (.if_icmp .ne 24, 3) := by decide +kernel
theorem dX9_goRound_42 : decode cX9_goRound 42 = .ok (.aload_n 0, 1) := by decide +kernel
theorem dX9_goRound_43 : decode cX9_goRound 43 = .ok (.getfield 191, 3) := by decide +kernel
theorem dX9_goRound_46 : decode cX9_goRound 46 = .ok (.iload_n 1, 1) := by decide +kernel
theorem dX9_goRound_47 : decode cX9_goRound 47 = .ok (.if_icmp .ge 16, 3) := by decide +kernel
theorem dX9_goRound_50 : decode cX9_goRound 50 = .ok (.aload_n 0, 1) := by decide +kernel
theorem dX9_goRound_51 : decode cX9_goRound 51 = .ok (.dup, 1) := by decide +kernel
theorem dX9_goRound_52 : decode cX9_goRound 52 = .ok (.getfield 191, 3) := by decide +kernel
theorem dX9_goRound_55 : decode cX9_goRound 55 = .ok (.iconst 1, 1) := by decide +kernel
theorem dX9_goRound_56 : decode cX9_goRound 56 = .ok (.iadd, 1) := by decide +kernel
theorem dX9_goRound_57 : decode cX9_goRound 57 = .ok (.putfield 191, 3) := by decide +kernel
theorem dX9_goRound_60 : decode cX9_goRound 60 = .ok (.goto 33, 3) := by decide +kernel
theorem dX9_goRound_63 : decode cX9_goRound 63 = .ok (.aload_n 0, 1) := by decide +kernel
theorem dX9_goRound_64 : decode cX9_goRound 64 = .ok (.getfield 191, 3) := by decide +kernel
theorem dX9_goRound_67 : decode cX9_goRound 67 = .ok (.iload_n 1, 1) := by decide +kernel
theorem dX9_goRound_68 : decode cX9_goRound 68 = .ok (.if_icmp .ne 15, 3) := by decide +kernel
theorem dX9_goRound_71 : decode cX9_goRound 71 = .ok (.iload_n 3, 1) := by decide +kernel
theorem dX9_goRound_72 : decode cX9_goRound 72 = .ok (.iload_n 1, 1) := by decide +kernel
theorem dX9_goRound_73 : decode cX9_goRound 73 = .ok (.ineg, 1) := by decide +kernel
theorem dX9_goRound_74 : decode cX9_goRound 74 = .ok (.if_icmp .le 9, 3) := by decide +kernel
theorem dX9_goRound_77 : decode cX9_goRound 77 = .ok (.iinc 3 (-1), 3) := by decide +kernel
theorem dX9_goRound_80 : decode cX9_goRound 80 = .ok (.goto 13, 3) := by decide +kernel
theorem dX9_goRound_83 : decode cX9_goRound 83 = .ok (.aload_n 0, 1) := by decide +kernel
theorem dX9_goRound_84 : decode cX9_goRound 84 = .ok (.dup, 1) := by decide +kernel
theorem dX9_goRound_85 : decode cX9_goRound 85 = .ok (.getfield 191, 3) := by decide +kernel
theorem dX9_goRound_88 : decode cX9_goRound 88 = .ok (.iconst 1, 1) := by decide +kernel
theorem dX9_goRound_89 : decode cX9_goRound 89 = .ok (.isub, 1) := by decide +kernel
