theorem dX9_isAtGoal_0 : decode cX9_isAtGoal 0 = .ok (.iload_n 2, 1) := by decide +kernel
theorem dX9_isAtGoal_1 : decode cX9_isAtGoal 1 = .ok (.bipush 8, 2) := by decide +kernel
theorem dX9_isAtGoal_3 : decode cX9_isAtGoal 3 = .ok (.irem, 1) := by decide +kernel
theorem dX9_isAtGoal_4 : decode cX9_isAtGoal 4 = .ok (.aload_n 0, 1) := by decide +kernel
theorem dX9_isAtGoal_5 : decode cX9_isAtGoal 5 = .ok (.getfield 28, 3) := by decide +kernel
theorem dX9_isAtGoal_8 : decode cX9_isAtGoal 8 = .ok (.iload_n 1, 1) := by decide +kernel
theorem dX9_isAtGoal_9 : decode cX9_isAtGoal 9 = .ok (.iaload, 1) := by decide +kernel
theorem dX9_isAtGoal_10 : decode cX9_isAtGoal 10 = .ok (.if_icmp .ne 46, 3) := by decide +kernel
theorem dX9_isAtGoal_13 : decode cX9_isAtGoal 13 = .ok (.iload_n 2, 1) := by decide +kernel
theorem dX9_isAtGoal_14 : decode cX9_isAtGoal 14 = .ok (.bipush 8, 2) := by decide +kernel
theorem dX9_isAtGoal_16 : decode cX9_isAtGoal 16 = .ok (.idiv, 1) := by decide +kernel
theorem dX9_isAtGoal_17 : decode cX9_isAtGoal 17 = .ok (.bipush 8, 2) := by decide +kernel
theorem dX9_isAtGoal_19 : decode cX9_isAtGoal 19 = .ok (.irem, 1) := by decide +kernel
theorem dX9_isAtGoal_20 : decode cX9_isAtGoal 20 = .ok (.aload_n 0, 1) := by decide +kernel
theorem dX9_isAtGoal_21 : decode cX9_isAtGoal 21 = .ok (.getfield 31, 3) := by decide +kernel
theorem dX9_isAtGoal_24 : decode cX9_isAtGoal 24 = .ok (.iload_n 1, 1) := by decide +kernel
theorem dX9_isAtGoal_25 : decode cX9_isAtGoal 25 = .ok (.iaload, 1) := by decide +kernel
theorem dX9_isAtGoal_26 : decode cX9_isAtGoal 26 = .ok (.if_icmp .ne 30, 3) := by decide +kernel
theorem dX9_isAtGoal_29 : decode cX9_isAtGoal 29 = .ok (.aload_n 0, 1) := by decide +kernel
theorem dX9_isAtGoal_30 : decode cX9_isAtGoal 30 = .ok (.getfield 34, 3) := by decide +kernel
theorem dX9_isAtGoal_33 : decode cX9_isAtGoal 33 = .ok (.iload_n 1, 1) := by decide +kernel
theorem dX9_isAtGoal_34 : decode cX9_isAtGoal 34 = .ok (.iaload, 1) := by decide +kernel
theorem dX9_isAtGoal_35 : decode cX9_isAtGoal 35 = .ok (.iconst 4, 1) := by decide +kernel
theorem dX9_isAtGoal_36 : decode cX9_isAtGoal 36 = .ok (.if_icmp .eq 16, 3) := by decide +kernel
theorem dX9_isAtGoal_39 : decode cX9_isAtGoal 39 = .ok (.aload_n 0, 1) := by decide +kernel
theorem dX9_isAtGoal_40 : decode cX9_isAtGoal 40 = .ok (.getfield 34, 3) := by decide +kernel
theorem dX9_isAtGoal_43 : decode cX9_isAtGoal 43 = .ok (.iload_n 1, 1) := by decide +kernel
theorem dX9_isAtGoal_44 : decode cX9_isAtGoal 44 = .ok (.iaload, 1) := by decide +kernel
theorem dX9_isAtGoal_45 : decode cX9_isAtGoal 45 = .ok (.iload_n 2, 1) := by decide +kernel
theorem dX9_isAtGoal_46 : decode cX9_isAtGoal 46 = .ok (.bipush 64, 2) := by decide +kernel
theorem dX9_isAtGoal_48 : decode cX9_isAtGoal 48 = .ok (.idiv, 1) := by decide +kernel
theorem dX9_isAtGoal_49 : decode cX9_isAtGoal 49 = .ok (.if_icmp .ne 7, 3) := by decide +kernel
theorem dX9_isAtGoal_52 : decode cX9_isAtGoal 52 = .ok (.iconst 1, 1) := by decide +kernel
theorem dX9_isAtGoal_53 : decode cX9_isAtGoal 53 = .ok (.goto 4, 3) := by decide +kernel
theorem dX9_isAtGoal_56 : decode cX9_isAtGoal 56 = .ok (.iconst 0, 1) := by decide +kernel
theorem dX9_isAtGoal_57 : decode cX9_isAtGoal 57 = .ok (.ireturn, 1) := by decide +kernel
theorem dX9_findFar_0 : decode cX9_findFar 0 = .ok (.iconst 0, 1) := by decide +kernel
theorem dX9_findFar_1 : decode cX9_findFar 1 = .ok (.istore_n 2, 1) := by decide +kernel
theorem dX9_findFar_2 : decode cX9_findFar 2 = .ok (.iload_n 2, 1) := by decide +kernel
theorem dX9_findFar_3 : decode cX9_findFar 3 = .ok (.sipush 256, 3) := by decide +kernel
theorem dX9_findFar_6 : decode cX9_findFar 6 = .ok (.if_icmp .ge 149, 3) := by decide +kernel
theorem dX9_findFar_9 : decode cX9_findFar 9 = .ok (.aload_n 0, 1) := by decide +kernel
theorem dX9_findFar_10 : decode cX9_findFar 10 = .ok (.iload_n 1, 1) := by decide +kernel
theorem dX9_findFar_11 : decode cX9_findFar 11 = .ok (.iload_n 2, 1) := by decide +kernel
theorem dX9_findFar_12 : decode cX9_findFar 12 = .ok (.invokevirtual 258, 3) := by decide +kernel
theorem dX9_findFar_15 : decode cX9_findFar 15 = .ok (.istore_n 3, 1) := by decide +kernel
theorem dX9_findFar_16 : decode cX9_findFar 16 = .ok (.aload_n 0, 1) := by decide +kernel
theorem dX9_findFar_17 : decode cX9_findFar 17 = .ok (.getfield 94, 3) := by decide +kernel
theorem dX9_findFar_20 : decode cX9_findFar 20 = .ok (.sipush 256, 3) := by decide +kernel
theorem dX9_findFar_23 : decode cX9_findFar 23 = .ok (.iload_n 1, 1) := by decide +kernel
theorem dX9_findFar_24 : decode cX9_findFar 24 = .ok (.imul, 1) := by decide +kernel
theorem dX9_findFar_25 : decode cX9_findFar 25 = .ok (.iload_n 2, 1) := by decide +kernel
theorem dX9_findFar_26 : decode cX9_findFar 26 = .ok (.iadd, 1) := by decide +kernel
theorem dX9_findFar_27 : decode cX9_findFar 27 = .ok (.iload_n 3, 1) := by decide +kernel
theorem dX9_findFar_28 : decode cX9_findFar 28 = .ok (.ifCond .eq 25, 3) := by decide +kernel
theorem dX9_findFar_31 : decode cX9_findFar 31 = .ok (.aload_n 0, 1) := by decide +kernel
theorem dX9_findFar_32 : decode cX9_findFar 32 = .ok (.getfield 34, 3) := by decide +kernel
theorem dX9_findFar_35 : decode cX9_findFar 35 = .ok (.iload_n 1, 1) := by decide +kernel
theorem dX9_findFar_36 : decode cX9_findFar 36 = .ok (.iaload, 1) := by decide +kernel
theorem dX9_findFar_37 : decode cX9_findFar 37 = .ok (.ifCond .lt 12, 3) := by decide +kernel
theorem dX9_findFar_40 : decode cX9_findFar 40 = .ok (.aload_n 0, 1) := by decide +kernel
theorem dX9_findFar_41 : decode cX9_findFar 41 = .ok (.iload_n 1, 1) := by decide +kernel
theorem dX9_findFar_42 : decode cX9_findFar 42 = .ok (.iload_n 2, 1) := by decide +kernel
theorem dX9_findFar_43 : decode cX9_findFar 43 = .ok (.invokevirtual 261, 3) := by decide +kernel
theorem dX9_findFar_46 : decode cX9_findFar 46 = .ok (.ifCond .eq 7, 3) := by decide +kernel
theorem dX9_findFar_49 : decode cX9_findFar 49 = .ok (.iconst 0, 1) := by decide +kernel
theorem dX9_findFar_50 : decode cX9_findFar 50 = .ok (.goto 4, 3) := by decide +kernel
theorem dX9_findFar_53 : decode cX9_findFar 53 = .ok (.iconst (-1), 1) := by decide +kernel
theorem dX9_findFar_54 : decode cX9_findFar 54 = .ok (.iastore, 1) := by decide +kernel
theorem dX9_findFar_55 : decode cX9_findFar 55 = .ok (.iconst 0, 1) := by decide +kernel
theorem dX9_findFar_56 : decode cX9_findFar 56 = .ok (.istore 4, 2) := by decide +kernel
theorem dX9_findFar_58 : decode cX9_findFar 58 = .ok (.iload 4, 2) := by decide +kernel
theorem dX9_findFar_60 : decode cX9_findFar 60 = .ok (.bipush 6, 2) := by decide +kernel
theorem dX9_findFar_62 : decode cX9_findFar 62 = .ok (.if_icmp .ge 87, 3) := by decide +kernel
theorem dX9_findFar_65 : decode cX9_findFar 65 = .ok (.iload_n 3, 1) := by decide +kernel
theorem dX9_findFar_66 : decode cX9_findFar 66 = .ok (.ifCond .eq 47, 3) := by decide +kernel
theorem dX9_findFar_69 : decode cX9_findFar 69 = .ok (.iload 4, 2) := by decide +kernel
theorem dX9_findFar_71 : decode cX9_findFar 71 = .ok (.iconst 4, 1) := by decide +kernel
theorem dX9_findFar_72 : decode cX9_findFar 72 = .ok (.if_icmp .ge 17, 3) := by decide +kernel
theorem dX9_findFar_75 : decode cX9_findFar 75 = .ok (.aload_n 0, 1) := by decide +kernel
theorem dX9_findFar_76 : decode cX9_findFar 76 = .ok (.iload_n 1, 1) := by decide +kernel
theorem dX9_findFar_77 : decode cX9_findFar 77 = .ok (.iload_n 2, 1) := by decide +kernel
theorem dX9_findFar_78 : decode cX9_findFar 78 = .ok (.iload 4, 2) := by decide +kernel
theorem dX9_findFar_80 : decode cX9_findFar 80 = .ok (.invokevirtual 264, 3) := by decide +kernel
theorem dX9_findFar_83 : decode cX9_findFar 83 = .ok (.ifCond .eq 30, 3) := by decide +kernel
theorem dX9_findFar_86 : decode cX9_findFar 86 = .ok (.goto 23, 3) := by decide +kernel
theorem dX9_findFar_89 : decode cX9_findFar 89 = .ok (.aload_n 0, 1) := by decide +kernel
theorem dX9_findFar_90 : decode cX9_findFar 90 = .ok (.iload_n 1, 1) := by decide +kernel
theorem dX9_findFar_91 : decode cX9_findFar 91 = .ok (.iload_n 2, 1) := by decide +kernel
theorem dX9_findFar_92 : decode cX9_findFar 92 = .ok (.iload 4, 2) := by decide +kernel
theorem dX9_findFar_94 : decode cX9_findFar 94 = .ok (.iconst 4, 1) := by decide +kernel
theorem dX9_findFar_95 : decode cX9_findFar 95 = .ok (.if_icmp .ne 7, 3) := by decide +kernel
theorem dX9_findFar_98 : decode cX9_findFar 98 = .ok (.iconst 1, 1) := by decide +kernel
theorem dX9_findFar_99 : decode cX9_findFar 99 = .ok (.goto 4, 3) := by decide +kernel
theorem dX9_findFar_102 : decode cX9_findFar 102 = .ok (.iconst 0, 1) := by decide +kernel
theorem dX9_findFar_103 : decode cX9_findFar 103 = .ok (.invokevirtual 267, 3) := by decide +kernel
theorem dX9_findFar_106 : decode cX9_findFar 106 = .ok (.ifCond .eq 7, 3) := by decide +kernel
theorem dX9_findFar_109 : decode cX9_findFar 109 = .ok (.iconst 1, 1) := by decide +kernel
theorem dX9_findFar_110 : decode cX9_findFar 110 = .ok (.goto 4, 3) := by decide +kernel
theorem dX9_findFar_113 : decode cX9_findFar 113 = .ok (.iconst 0, 1) := by decide +kernel
theorem dX9_findFar_114 : decode cX9_findFar 114 = .ok (.istore 5, 2) := by decide +kernel
theorem dX9_findFar_116 : decode cX9_findFar 116 = .ok (.aload_n 0, 1) := by decide +kernel
theorem dX9_findFar_117 : decode cX9_findFar 117 = .ok (.getfield 91, 3) := by decide +kernel
theorem dX9_findFar_120 : decode cX9_findFar 120 = .ok (.bipush 6, 2) := by decide +kernel
theorem dX9_findFar_122 : decode cX9_findFar 122 = .ok (.iload_n 2, 1) := by decide +kernel
theorem dX9_findFar_123 : decode cX9_findFar 123 = .ok (.imul, 1) := by decide +kernel
theorem dX9_findFar_124 : decode cX9_findFar 124 = .ok (.iload 4, 2) := by decide +kernel
theorem dX9_findFar_126 : decode cX9_findFar 126 = .ok (.iadd, 1) := by decide +kernel
theorem dX9_findFar_127 : decode cX9_findFar 127 = .ok (.iload 5, 2) := by decide +kernel
theorem dX9_findFar_129 : decode cX9_findFar 129 = .ok (.ifCond .eq 12, 3) := by decide +kernel
theorem dX9_findFar_132 : decode cX9_findFar 132 = .ok (.iload_n 2, 1) := by decide +kernel
theorem dX9_findFar_133 : decode cX9_findFar 133 = .ok (.iload 4, 2) := by decide +kernel
theorem dX9_findFar_135 : decode cX9_findFar 135 = .ok (.invokestatic 211, 3) := by decide +kernel
theorem dX9_findFar_138 : decode cX9_findFar 138 = .ok (.goto 4, 3) := by decide +kernel
theorem dX9_findFar_141 : decode cX9_findFar 141 = .ok (.iconst (-1), 1) := by decide +kernel
theorem dX9_findFar_142 : decode cX9_findFar 142 = .ok (.iastore, 1) := by decide +kernel
theorem dX9_findFar_143 : decode cX9_findFar 143 = .ok (.iinc 4 1, 3) := by decide +kernel
theorem dX9_findFar_146 : decode cX9_findFar 146 = .ok (.goto (-88), 3) := by decide +kernel
theorem dX9_findFar_149 : decode cX9_findFar 149 = .ok (.iinc 2 1, 3) := by decide +kernel
theorem dX9_findFar_152 : decode cX9_findFar 152 = .ok (.goto (-150), 3) := by decide +kernel
theorem dX9_findFar_155 : decode cX9_findFar 155 = .ok (.iconst 1, 1) := by decide +kernel
theorem dX9_findFar_156 : decode cX9_findFar 156 = .ok (.istore_n 2, 1) := by decide +kernel
theorem dX9_findFar_157 : decode cX9_findFar 157 = .ok (.iconst 0, 1) := by decide +kernel
theorem dX9_findFar_158 : decode cX9_findFar 158 = .ok (.istore_n 3, 1) := by decide +kernel
theorem dX9_findFar_159 : decode cX9_findFar 159 = .ok (.iload_n 2, 1) := by decide +kernel
theorem dX9_findFar_160 : decode cX9_findFar 160 = .ok (.ifCond .eq 73, 3) := by decide +kernel
theorem dX9_findFar_163 : decode cX9_findFar 163 = .ok (.iconst 0, 1) := by decide +kernel
theorem dX9_findFar_164 : decode cX9_findFar 164 = .ok (.istore_n 2, 1) := by decide +kernel
theorem dX9_findFar_165 : decode cX9_findFar 165 = .ok (.iconst 0, 1) := by decide +kernel
theorem dX9_findFar_166 : decode cX9_findFar 166 = .ok (.istore 4, 2) := by decide +kernel
theorem dX9_findFar_168 : decode cX9_findFar 168 = .ok (.iload 4, 2) := by decide +kernel
theorem dX9_findFar_170 : decode cX9_findFar 170 = .ok (.sipush 256, 3) := by decide +kernel
theorem dX9_findFar_173 : decode cX9_findFar 173 = .ok (.if_icmp .ge 54, 3) := by decide +kernel
theorem dX9_findFar_176 : decode cX9_findFar 176 = .ok (.aload_n 0, 1) := by decide +kernel
theorem dX9_findFar_177 : decode cX9_findFar 177 = .ok (.getfield 94, 3) := by decide +kernel
theorem dX9_findFar_180 : decode cX9_findFar 180 = .ok (.sipush 256, 3) := by decide +kernel
theorem dX9_findFar_183 : decode cX9_findFar 183 = .ok (.iload_n 1, 1) := by decide +kernel
theorem dX9_findFar_184 : decode cX9_findFar 184 = .ok (.imul, 1) := by decide +kernel
theorem dX9_findFar_185 : decode cX9_findFar 185 = .ok (.iload 4, 2) := by decide +kernel
theorem dX9_findFar_187 : decode cX9_findFar 187 = .ok (.iadd, 1) := by decide +kernel
theorem dX9_findFar_188 : decode cX9_findFar 188 = .ok (.iaload, 1) := by decide +kernel
theorem dX9_findFar_189 : decode cX9_findFar 189 = .ok (.ifCond .ge 32, 3) := by decide +kernel
theorem dX9_findFar_192 : decode cX9_findFar 192 = .ok (.aload_n 0, 1) := by decide +kernel
theorem dX9_findFar_193 : decode cX9_findFar 193 = .ok (.iload_n 1, 1) := by decide +kernel
theorem dX9_findFar_194 : decode cX9_findFar 194 = .ok (.iload 4, 2) := by decide +kernel
theorem dX9_findFar_196 : decode cX9_findFar 196 = .ok (.iload_n 3, 1) := by decide +kernel
theorem dX9_findFar_197 : decode cX9_findFar 197 = .ok (.invokevirtual 271, 3) := by decide +kernel
theorem dX9_findFar_200 : decode cX9_findFar 200 = .ok (.ifCond .eq 21, 3) := by decide +kernel
theorem dX9_findFar_203 : decode cX9_findFar 203 = .ok (.aload_n 0, 1) := by decide +kernel
theorem dX9_findFar_204 : decode cX9_findFar 204 = .ok (.getfield 94, 3) := by decide +kernel
theorem dX9_findFar_207 : decode cX9_findFar 207 = .ok (.sipush 256, 3) := by decide +kernel
theorem dX9_findFar_210 : decode cX9_findFar 210 = .ok (.iload_n 1, 1) := by decide +kernel
theorem dX9_findFar_211 : decode cX9_findFar 211 = .ok (.imul, 1) := by decide +kernel
theorem dX9_findFar_212 : decode cX9_findFar 212 = .ok (.iload 4, 2) := by decide +kernel
theorem dX9_findFar_214 : decode cX9_findFar 214 = .ok (.iadd, 1) := by decide +kernel
theorem dX9_findFar_215 : decode cX9_findFar 215 = .ok (.iload_n 3, 1) := by decide +kernel
theorem dX9_findFar_216 : decode cX9_findFar 216 = .ok (.iconst 1, 1) := by decide +kernel
theorem dX9_findFar_217 : decode cX9_findFar 217 = .ok (.iadd, 1) := by decide +kernel
theorem dX9_findFar_218 : decode cX9_findFar 218 = .ok (.iastore, 1) := by decide +kernel
theorem dX9_findFar_219 : decode cX9_findFar 219 = .ok (.iconst 1, 1) := by decide +kernel
theorem dX9_findFar_220 : decode cX9_findFar 220 = .ok (.istore_n 2, 1) := by decide +kernel
theorem dX9_findFar_221 : decode cX9_findFar 221 = .ok (.iinc 4 1, 3) := by decide +kernel
theorem dX9_findFar_224 : decode cX9_findFar 224 = .ok (.goto (-56), 3) := by decide +kernel
theorem dX9_findFar_227 : decode cX9_findFar 227 = .ok (.iinc 3 1, 3) := by decide +kernel
theorem dX9_findFar_230 : decode cX9_findFar 230 = .ok (.goto (-71), 3) := by decide +kernel
theorem dX9_findFar_233 : decode cX9_findFar 233 = .ok (.return_, 1) := by decide +kernel
theorem dX9_leadsTo_0 : decode cX9_leadsTo 0 = .ok (.iconst 0, 1) := by decide +kernel
theorem dX9_leadsTo_1 : decode cX9_leadsTo 1 = .ok (.istore 4, 2) := by decide +kernel
theorem dX9_leadsTo_3 : decode cX9_leadsTo 3 = .ok (.iload 4, 2) := by decide +kernel
theorem dX9_leadsTo_5 : decode cX9_leadsTo 5 = .ok (.bipush 6, 2) := by decide +kernel
theorem dX9_leadsTo_7 : decode cX9_leadsTo 7 = .ok (.if_icmp .ge 47, 3) := by decide +kernel
theorem dX9_leadsTo_10 : decode cX9_leadsTo 10 = .ok (.aload_n 0, 1) := by decide +kernel
theorem dX9_leadsTo_11 : decode cX9_leadsTo 11 = .ok (.getfield 91, 3) := by decide +kernel
theorem dX9_leadsTo_14 : decode cX9_leadsTo 14 = .ok (.bipush 6, 2) := by decide +kernel
theorem dX9_leadsTo_16 : decode cX9_leadsTo 16 = .ok (.iload_n 2, 1) := by decide +kernel
theorem dX9_leadsTo_17 : decode cX9_leadsTo 17 = .ok (.imul, 1) := by decide +kernel
theorem dX9_leadsTo_18 : decode cX9_leadsTo 18 = .ok (.iload 4, 2) := by decide +kernel
theorem dX9_leadsTo_20 : decode cX9_leadsTo 20 = .ok (.iadd, 1) := by decide +kernel
theorem dX9_leadsTo_21 : decode cX9_leadsTo 21 = .ok (.iaload, 1) := by decide +kernel
theorem dX9_leadsTo_22 : decode cX9_leadsTo 22 = .ok (.istore 5, 2) := by decide +kernel
theorem dX9_leadsTo_24 : decode cX9_leadsTo 24 = .ok (.iload 5, 2) := by decide +kernel
theorem dX9_leadsTo_26 : decode cX9_leadsTo 26 = .ok (.ifCond .lt 22, 3) := by decide +kernel
theorem dX9_leadsTo_29 : decode cX9_leadsTo 29 = .ok (.aload_n 0, 1) := by decide +kernel
theorem dX9_leadsTo_30 : decode cX9_leadsTo 30 = .ok (.getfield 94, 3) := by decide +kernel
theorem dX9_leadsTo_33 : decode cX9_leadsTo 33 = .ok (.sipush 256, 3) := by decide +kernel
theorem dX9_leadsTo_36 : decode cX9_leadsTo 36 = .ok (.iload_n 1, 1) := by decide +kernel
theorem dX9_leadsTo_37 : decode cX9_leadsTo 37 = .ok (.imul, 1) := by decide +kernel
theorem dX9_leadsTo_38 : decode cX9_leadsTo 38 = .ok (.iload 5, 2) := by decide +kernel
theorem dX9_leadsTo_40 : decode cX9_leadsTo 40 = .ok (.iadd, 1) := by decide +kernel
theorem dX9_leadsTo_41 : decode cX9_leadsTo 41 = .ok (.iaload, 1) := by decide +kernel
theorem dX9_leadsTo_42 : decode cX9_leadsTo 42 = .ok (.iload_n 3, 1) := by decide +kernel
theorem dX9_leadsTo_43 : decode cX9_leadsTo 43 = .ok (.if_icmp .ne 5, 3) := by decide +kernel
theorem dX9_leadsTo_46 : decode cX9_leadsTo 46 = .ok (.iconst 1, 1) := by decide +kernel
theorem dX9_leadsTo_47 : decode cX9_leadsTo 47 = .ok (.ireturn, 1) := by decide +kernel
theorem dX9_leadsTo_48 : decode cX9_leadsTo 48 = .ok (.iinc 4 1, 3) := by decide +kernel
theorem dX9_leadsTo_51 : decode cX9_leadsTo 51 = .ok (.goto (-48), 3) := by decide +kernel
theorem dX9_leadsTo_54 : decode cX9_leadsTo 54 = .ok (.iconst 0, 1) := by decide +kernel
theorem dX9_leadsTo_55 : decode cX9_leadsTo 55 = .ok (.ireturn, 1) := by decide +kernel
theorem dX9_isDead_0 : decode cX9_isDead 0 = .ok (.aload_n 0, 1) := by decide +kernel
theorem dX9_isDead_1 : decode cX9_isDead 1 = .ok (.iload_n 1, 1) := by decide +kernel
theorem dX9_isDead_2 : decode cX9_isDead 2 = .ok (.invokevirtual 225, 3) := by decide +kernel
theorem dX9_isDead_5 : decode cX9_isDead 5 = .ok (.ifCond .eq 5, 3) := by decide +kernel
theorem dX9_isDead_8 : decode cX9_isDead 8 = .ok (.iconst (-1), 1) := by decide +kernel
theorem dX9_isDead_9 : decode cX9_isDead 9 = .ok (.ireturn, 1) := by decide +kernel
theorem dX9_isDead_10 : decode cX9_isDead 10 = .ok (.aload_n 0, 1) := by decide +kernel
theorem dX9_isDead_11 : decode cX9_isDead 11 = .ok (.iload_n 2, 1) := by decide +kernel
theorem dX9_isDead_12 : decode cX9_isDead 12 = .ok (.iload_n 3, 1) := by decide +kernel
theorem dX9_isDead_13 : decode cX9_isDead 13 = .ok (.invokevirtual 167, 3) := by decide +kernel
theorem dX9_isDead_16 : decode cX9_isDead 16 = .ok (.ifCond .ne 6, 3) := by decide +kernel
theorem dX9_isDead_19 : decode cX9_isDead 19 = .ok (.bipush (-2), 2) := by decide +kernel
theorem dX9_isDead_21 : decode cX9_isDead 21 = .ok (.ireturn, 1) := by decide +kernel
theorem dX9_isDead_22 : decode cX9_isDead 22 = .ok (.iload 4, 2) := by decide +kernel
theorem dX9_isDead_24 : decode cX9_isDead 24 = .ok (.iconst 0, 1) := by decide +kernel
theorem dX9_isDead_25 : decode cX9_isDead 25 = .ok (.iconst 3, 1) := by decide +kernel
theorem dX9_isDead_26 : decode cX9_isDead 26 = .ok (.invokestatic 119, 3) := by decide +kernel
theorem dX9_isDead_29 : decode cX9_isDead 29 = .ok (.ifCond .ne 6, 3) := by decide +kernel
theorem dX9_isDead_32 : decode cX9_isDead 32 = .ok (.bipush (-3), 2) := by decide +kernel
theorem dX9_isDead_34 : decode cX9_isDead 34 = .ok (.ireturn, 1) := by decide +kernel
theorem dX9_isDead_35 : decode cX9_isDead 35 = .ok (.bipush 64, 2) := by decide +kernel
theorem dX9_isDead_37 : decode cX9_isDead 37 = .ok (.iload 4, 2) := by decide +kernel
theorem dX9_isDead_39 : decode cX9_isDead 39 = .ok (.imul, 1) := by decide +kernel
theorem dX9_isDead_40 : decode cX9_isDead 40 = .ok (.bipush 8, 2) := by decide +kernel
theorem dX9_isDead_42 : decode cX9_isDead 42 = .ok (.iload_n 3, 1) := by decide +kernel
theorem dX9_isDead_43 : decode cX9_isDead 43 = .ok (.imul, 1) := by decide +kernel
theorem dX9_isDead_44 : decode cX9_isDead 44 = .ok (.iadd, 1) := by decide +kernel
theorem dX9_isDead_45 : decode cX9_isDead 45 = .ok (.iload_n 2, 1) := by decide +kernel
theorem dX9_isDead_46 : decode cX9_isDead 46 = .ok (.iadd, 1) := by decide +kernel
theorem dX9_isDead_47 : decode cX9_isDead 47 = .ok (.istore 5, 2) := by decide +kernel
theorem dX9_isDead_49 : decode cX9_isDead 49 = .ok (.aload_n 0, 1) := by decide +kernel
theorem dX9_isDead_50 : decode cX9_isDead 50 = .ok (.iload_n 1, 1) := by decide +kernel
theorem dX9_isDead_51 : decode cX9_isDead 51 = .ok (.iload 5, 2) := by decide +kernel
theorem dX9_isDead_53 : decode cX9_isDead 53 = .ok (.invokevirtual 258, 3) := by decide +kernel
theorem dX9_isDead_56 : decode cX9_isDead 56 = .ok (.ifCond .ne 6, 3) := by decide +kernel
theorem dX9_isDead_59 : decode cX9_isDead 59 = .ok (.bipush (-7), 2) := by decide +kernel
theorem dX9_isDead_61 : decode cX9_isDead 61 = .ok (.ireturn, 1) := by decide +kernel
theorem dX9_isDead_62 : decode cX9_isDead 62 = .ok (.aload_n 0, 1) := by decide +kernel
theorem dX9_isDead_63 : decode cX9_isDead 63 = .ok (.iload_n 1, 1) := by decide +kernel
theorem dX9_isDead_64 : decode cX9_isDead 64 = .ok (.invokevirtual 274, 3) := by decide +kernel
theorem dX9_isDead_67 : decode cX9_isDead 67 = .ok (.aload_n 0, 1) := by decide +kernel
theorem dX9_isDead_68 : decode cX9_isDead 68 = .ok (.getfield 94, 3) := by decide +kernel
theorem dX9_isDead_71 : decode cX9_isDead 71 = .ok (.sipush 256, 3) := by decide +kernel
theorem dX9_isDead_74 : decode cX9_isDead 74 = .ok (.iload_n 1, 1) := by decide +kernel
theorem dX9_isDead_75 : decode cX9_isDead 75 = .ok (.imul, 1) := by decide +kernel
theorem dX9_isDead_76 : decode cX9_isDead 76 = .ok (.iload 5, 2) := by decide +kernel
theorem dX9_isDead_78 : decode cX9_isDead 78 = .ok (.iadd, 1) := by decide +kernel
theorem dX9_isDead_79 : decode cX9_isDead 79 = .ok (.iaload, 1) := by decide +kernel
theorem dX9_isDead_80 : decode cX9_isDead 80 = .ok (.ifCond .ge 7, 3) := by decide +kernel
theorem dX9_isDead_83 : decode cX9_isDead 83 = .ok (.iconst 1, 1) := by decide +kernel
theorem dX9_isDead_84 : decode cX9_isDead 84 = .ok (.goto 4, 3) := by decide +kernel
theorem dX9_isDead_87 : decode cX9_isDead 87 = .ok (.iconst 0, 1) := by decide +kernel
theorem dX9_isDead_88 : decode cX9_isDead 88 = .ok (.ireturn, 1) := by decide +kernel
theorem dX9_deadCount_0 : decode cX9_deadCount 0 = .ok (.aload_n 0, 1) := by decide +kernel
theorem dX9_deadCount_1 : decode cX9_deadCount 1 = .ok (.iload_n 1, 1) := by decide +kernel
theorem dX9_deadCount_2 : decode cX9_deadCount 2 = .ok (.invokevirtual 225, 3) := by decide +kernel
theorem dX9_deadCount_5 : decode cX9_deadCount 5 = .ok (.ifCond .eq 5, 3) := by decide +kernel
theorem dX9_deadCount_8 : decode cX9_deadCount 8 = .ok (.iconst (-1), 1) := by decide +kernel
theorem dX9_deadCount_9 : decode cX9_deadCount 9 = .ok (.ireturn, 1) := by decide +kernel
theorem dX9_deadCount_10 : decode cX9_deadCount 10 = .ok (.aload_n 0, 1) := by decide +kernel
theorem dX9_deadCount_11 : decode cX9_deadCount 11 = .ok (.iload_n 1, 1) := by decide +kernel
theorem dX9_deadCount_12 : decode cX9_deadCount 12 = .ok (.invokevirtual 274, 3) := by decide +kernel
theorem dX9_deadCount_15 : decode cX9_deadCount 15 = .ok (.iconst 0, 1) := by decide +kernel
theorem dX9_deadCount_16 : decode cX9_deadCount 16 = .ok (.istore_n 2, 1) := by decide +kernel
theorem dX9_deadCount_17 : decode cX9_deadCount 17 = .ok (.iconst 0, 1) := by decide +kernel
theorem dX9_deadCount_18 : decode cX9_deadCount 18 = .ok (.istore_n 3, 1) := by decide +kernel
theorem dX9_deadCount_19 : decode cX9_deadCount 19 = .ok (.iload_n 3, 1) := by decide +kernel
theorem dX9_deadCount_20 : decode cX9_deadCount 20 = .ok (.sipush 256, 3) := by decide +kernel
theorem dX9_deadCount_23 : decode cX9_deadCount 23 = .ok (.if_icmp .ge 41, 3) := by decide +kernel
theorem dX9_deadCount_26 : decode cX9_deadCount 26 = .ok (.iload_n 2, 1) := by decide +kernel
theorem dX9_deadCount_27 : decode cX9_deadCount 27 = .ok (.aload_n 0, 1) := by decide +kernel
theorem dX9_deadCount_28 : decode cX9_deadCount 28 = .ok (.iload_n 1, 1) := by decide +kernel
theorem dX9_deadCount_29 : decode cX9_deadCount 29 = .ok (.iload_n 3, 1) := by decide +kernel
theorem dX9_deadCount_30 : decode cX9_deadCount 30 = .ok (.invokevirtual 258, 3) := by decide +kernel
theorem dX9_deadCount_33 : decode cX9_deadCount 33 = .ok (.ifCond .eq 22, 3) := by decide +kernel
theorem dX9_deadCount_36 : decode cX9_deadCount 36 = .ok (.aload_n 0, 1) := by decide +kernel
theorem dX9_deadCount_37 : decode cX9_deadCount 37 = .ok (.getfield 94, 3) := by decide +kernel
theorem dX9_deadCount_40 : decode cX9_deadCount 40 = .ok (.sipush 256, 3) := by decide +kernel
theorem dX9_deadCount_43 : decode cX9_deadCount 43 = .ok (.iload_n 1, 1) := by decide +kernel
theorem dX9_deadCount_44 : decode cX9_deadCount 44 = .ok (.imul, 1) := by decide +kernel
theorem dX9_deadCount_45 : decode cX9_deadCount 45 = .ok (.iload_n 3, 1) := by decide +kernel
theorem dX9_deadCount_46 : decode cX9_deadCount 46 = .ok (.iadd, 1) := by decide +kernel
theorem dX9_deadCount_47 : decode cX9_deadCount 47 = .ok (.iaload, 1) := by decide +kernel
theorem dX9_deadCount_48 : decode cX9_deadCount 48 = .ok (.ifCond .ge 7, 3) := by decide +kernel
theorem dX9_deadCount_51 : decode cX9_deadCount 51 = .ok (.iconst 1, 1) := by decide +kernel
theorem dX9_deadCount_52 : decode cX9_deadCount 52 = .ok (.goto 4, 3) := by decide +kernel
theorem dX9_deadCount_55 : decode cX9_deadCount 55 = .ok (.iconst 0, 1) := by decide +kernel
theorem dX9_deadCount_56 : decode cX9_deadCount 56 = .ok (.iadd, 1) := by decide +kernel
theorem dX9_deadCount_57 : decode cX9_deadCount 57 = .ok (.istore_n 2, 1) := by decide +kernel
theorem dX9_deadCount_58 : decode cX9_deadCount 58 = .ok (.iinc 3 1, 3) := by decide +kernel
theorem dX9_deadCount_61 : decode cX9_deadCount 61 = .ok (.goto (-42), 3) := by decide +kernel
theorem dX9_deadCount_64 : decode cX9_deadCount 64 = .ok (.iload_n 2, 1) := by decide +kernel
theorem dX9_deadCount_65 : decode cX9_deadCount 65 = .ok (.ireturn, 1) := by decide +kernel
theorem dX9_distance_0 : decode cX9_distance 0 = .ok (.aload_n 0, 1) := by decide +kernel
theorem dX9_distance_1 : decode cX9_distance 1 = .ok (.iload_n 1, 1) := by decide +kernel
theorem dX9_distance_2 : decode cX9_distance 2 = .ok (.invokevirtual 225, 3) := by decide +kernel
theorem dX9_distance_5 : decode cX9_distance 5 = .ok (.ifCond .eq 5, 3) := by decide +kernel
theorem dX9_distance_8 : decode cX9_distance 8 = .ok (.iconst (-1), 1) := by decide +kernel
theorem dX9_distance_9 : decode cX9_distance 9 = .ok (.ireturn, 1) := by decide +kernel
theorem dX9_distance_10 : decode cX9_distance 10 = .ok (.aload_n 0, 1) := by decide +kernel
theorem dX9_distance_11 : decode cX9_distance 11 = .ok (.iload_n 1, 1) := by decide +kernel
theorem dX9_distance_12 : decode cX9_distance 12 = .ok (.invokevirtual 274, 3) := by decide +kernel
theorem dX9_distance_15 : decode cX9_distance 15 = .ok (.aload_n 0, 1) := by decide +kernel
theorem dX9_distance_16 : decode cX9_distance 16 = .ok (.getfield 94, 3) := by decide +kernel
theorem dX9_distance_19 : decode cX9_distance 19 = .ok (.sipush 256, 3) := by decide +kernel
theorem dX9_distance_22 : decode cX9_distance 22 = .ok (.iload_n 1, 1) := by decide +kernel
theorem dX9_distance_23 : decode cX9_distance 23 = .ok (.imul, 1) := by decide +kernel
theorem dX9_distance_24 : decode cX9_distance 24 = .ok (.aload_n 0, 1) := by decide +kernel
theorem dX9_distance_25 : decode cX9_distance 25 = .ok (.getfield 37, 3) := by decide +kernel
theorem dX9_distance_28 : decode cX9_distance 28 = .ok (.iload_n 1, 1) := by decide +kernel
theorem dX9_distance_29 : decode cX9_distance 29 = .ok (.iaload, 1) := by decide +kernel
theorem dX9_distance_30 : decode cX9_distance 30 = .ok (.iadd, 1) := by decide +kernel
theorem dX9_distance_31 : decode cX9_distance 31 = .ok (.iaload, 1) := by decide +kernel
theorem dX9_distance_32 : decode cX9_distance 32 = .ok (.istore_n 2, 1) := by decide +kernel
theorem dX9_distance_33 : decode cX9_distance 33 = .ok (.iload_n 2, 1) := by decide +kernel
theorem dX9_distance_34 : decode cX9_distance 34 = .ok (.ifCond .ge 8, 3) := by decide +kernel
theorem dX9_distance_37 : decode cX9_distance 37 = .ok (.bipush (-7), 2) := by decide +kernel
theorem dX9_distance_39 : decode cX9_distance 39 = .ok (.goto 4, 3) := by decide +kernel
theorem dX9_distance_42 : decode cX9_distance 42 = .ok (.iload_n 2, 1) := by decide +kernel
theorem dX9_distance_43 : decode cX9_distance 43 = .ok (.ireturn, 1) := by decide +kernel
theorem dX9_findAllFar_0 : decode cX9_findAllFar 0 = .ok (.iconst 0, 1) := by decide +kernel
theorem dX9_findAllFar_1 : decode cX9_findAllFar 1 = .ok (.istore_n 1, 1) := by decide +kernel
theorem dX9_findAllFar_2 : decode cX9_findAllFar 2 = .ok (.iload_n 1, 1) := by decide +kernel
theorem dX9_findAllFar_3 : decode cX9_findAllFar 3 = .ok (.iconst 5, 1) := by decide +kernel
theorem dX9_findAllFar_4 : decode cX9_findAllFar 4 = .ok (.if_icmp .ge 23, 3) := by decide +kernel
theorem dX9_findAllFar_7 : decode cX9_findAllFar 7 = .ok (.aload_n 0, 1) := by decide +kernel
theorem dX9_findAllFar_8 : decode cX9_findAllFar 8 = .ok (.getfield 16, 3) := by decide +kernel
theorem dX9_findAllFar_11 : decode cX9_findAllFar 11 = .ok (.iload_n 1, 1) := by decide +kernel
theorem dX9_findAllFar_12 : decode cX9_findAllFar 12 = .ok (.iaload, 1) := by decide +kernel
theorem dX9_findAllFar_13 : decode cX9_findAllFar 13 = .ok (.ifCond .le 8, 3) := by decide +kernel
theorem dX9_findAllFar_16 : decode cX9_findAllFar 16 = .ok (.aload_n 0, 1) := by decide +kernel
theorem dX9_findAllFar_17 : decode cX9_findAllFar 17 = .ok (.iload_n 1, 1) := by decide +kernel
theorem dX9_findAllFar_18 : decode cX9_findAllFar 18 = .ok (.invokevirtual 274, 3) := by decide +kernel
theorem dX9_findAllFar_21 : decode cX9_findAllFar 21 = .ok (.iinc 1 1, 3) := by decide +kernel
theorem dX9_findAllFar_24 : decode cX9_findAllFar 24 = .ok (.goto (-22), 3) := by decide +kernel
theorem dX9_findAllFar_27 : decode cX9_findAllFar 27 = .ok (.return_, 1) := by decide +kernel
theorem dX9_isDeadNow_0 : decode cX9_isDeadNow 0 = .ok (.iconst 0, 1) := by decide +kernel
theorem dX9_isDeadNow_1 : decode cX9_isDeadNow 1 = .ok (.istore_n 1, 1) := by decide +kernel
theorem dX9_isDeadNow_2 : decode cX9_isDeadNow 2 = .ok (.iconst 0, 1) := by decide +kernel
theorem dX9_isDeadNow_3 : decode cX9_isDeadNow 3 = .ok (.istore_n 2, 1) := by decide +kernel
theorem dX9_isDeadNow_4 : decode cX9_isDeadNow 4 = .ok (.iload_n 2, 1) := by decide +kernel
theorem dX9_isDeadNow_5 : decode cX9_isDeadNow 5 = .ok (.iconst 5, 1) := by decide +kernel
theorem dX9_isDeadNow_6 : decode cX9_isDeadNow 6 = .ok (.if_icmp .ge 48, 3) := by decide +kernel
theorem dX9_isDeadNow_9 : decode cX9_isDeadNow 9 = .ok (.iload_n 1, 1) := by decide +kernel
theorem dX9_isDeadNow_10 : decode cX9_isDeadNow 10 = .ok (.ifCond .ne 32, 3) := by decide +kernel
theorem dX9_isDeadNow_13 : decode cX9_isDeadNow 13 = .ok (.aload_n 0, 1) := by decide +kernel
theorem dX9_isDeadNow_14 : decode cX9_isDeadNow 14 = .ok (.getfield 16, 3) := by decide +kernel
theorem dX9_isDeadNow_17 : decode cX9_isDeadNow 17 = .ok (.iload_n 2, 1) := by decide +kernel
theorem dX9_isDeadNow_18 : decode cX9_isDeadNow 18 = .ok (.iaload, 1) := by decide +kernel
theorem dX9_isDeadNow_19 : decode cX9_isDeadNow 19 = .ok (.ifCond .le 27, 3) := by decide +kernel
theorem dX9_isDeadNow_22 : decode cX9_isDeadNow 22 = .ok (.aload_n 0, 1) := by decide +kernel
theorem dX9_isDeadNow_23 : decode cX9_isDeadNow 23 = .ok (.getfield 94, 3) := by decide +kernel
theorem dX9_isDeadNow_26 : decode cX9_isDeadNow 26 = .ok (.sipush 256, 3) := by decide +kernel
theorem dX9_isDeadNow_29 : decode cX9_isDeadNow 29 = .ok (.iload_n 2, 1) := by decide +kernel
theorem dX9_isDeadNow_30 : decode cX9_isDeadNow 30 = .ok (.imul, 1) := by decide +kernel
theorem dX9_isDeadNow_31 : decode cX9_isDeadNow 31 = .ok (.aload_n 0, 1) := by decide +kernel
theorem dX9_isDeadNow_32 : decode cX9_isDeadNow 32 = .ok (.getfield 37, 3) := by decide +kernel
theorem dX9_isDeadNow_35 : decode cX9_isDeadNow 35 = .ok (.iload_n 2, 1) := by decide +kernel
theorem dX9_isDeadNow_36 : decode cX9_isDeadNow 36 = .ok (.iaload, 1) := by decide +kernel
theorem dX9_isDeadNow_37 : decode cX9_isDeadNow 37 = .ok (.iadd, 1) := by decide +kernel
theorem dX9_isDeadNow_38 : decode cX9_isDeadNow 38 = .ok (.iaload, 1) := by decide +kernel
theorem dX9_isDeadNow_39 : decode cX9_isDeadNow 39 = .ok (.ifCond .ge 7, 3) := by decide +kernel
theorem dX9_isDeadNow_42 : decode cX9_isDeadNow 42 = .ok (.iconst 1, 1) := by decide +kernel
theorem dX9_isDeadNow_43 : decode cX9_isDeadNow 43 = .ok (.goto 4, 3) := by decide +kernel
theorem dX9_isDeadNow_46 : decode cX9_isDeadNow 46 = .ok (.iconst 0, 1) := by decide +kernel
theorem dX9_isDeadNow_47 : decode cX9_isDeadNow 47 = .ok (.istore_n 1, 1) := by decide +kernel
theorem dX9_isDeadNow_48 : decode cX9_isDeadNow 48 = .ok (.iinc 2 1, 3) := by decide +kernel
theorem dX9_isDeadNow_51 : decode cX9_isDeadNow 51 = .ok (.goto (-47), 3) := by decide +kernel
theorem dX9_isDeadNow_54 : decode cX9_isDeadNow 54 = .ok (.iload_n 1, 1) := by decide +kernel
theorem dX9_isDeadNow_55 : decode cX9_isDeadNow 55 = .ok (.ireturn, 1) := by decide +kernel
theorem dX9_lowerBound_0 : decode cX9_lowerBound 0 = .ok (.aload_n 0, 1) := by decide +kernel
theorem dX9_lowerBound_1 : decode cX9_lowerBound 1 = .ok (.invokevirtual 278, 3) := by decide +kernel
theorem dX9_lowerBound_4 : decode cX9_lowerBound 4 = .ok (.aload_n 0, 1) := by decide +kernel
theorem dX9_lowerBound_5 : decode cX9_lowerBound 5 = .ok (.invokevirtual 281, 3) := by decide +kernel
theorem dX9_lowerBound_8 : decode cX9_lowerBound 8 = .ok (.ifCond .eq 6, 3) := by decide +kernel
theorem dX9_lowerBound_11 : decode cX9_lowerBound 11 = .ok (.bipush (-7), 2) := by decide +kernel
theorem dX9_lowerBound_13 : decode cX9_lowerBound 13 = .ok (.ireturn, 1) := by decide +kernel
theorem dX9_lowerBound_14 : decode cX9_lowerBound 14 = .ok (.iconst 0, 1) := by decide +kernel
theorem dX9_lowerBound_15 : decode cX9_lowerBound 15 = .ok (.istore_n 1, 1) := by decide +kernel
theorem dX9_lowerBound_16 : decode cX9_lowerBound 16 = .ok (.iconst 0, 1) := by decide +kernel
theorem dX9_lowerBound_17 : decode cX9_lowerBound 17 = .ok (.istore_n 2, 1) := by decide +kernel
theorem dX9_lowerBound_18 : decode cX9_lowerBound 18 = .ok (.iload_n 2, 1) := by decide +kernel
theorem dX9_lowerBound_19 : decode cX9_lowerBound 19 = .ok (.iconst 5, 1) := by decide +kernel
theorem dX9_lowerBound_20 : decode cX9_lowerBound 20 = .ok (.if_icmp .ge 51, 3) := by decide +kernel
theorem dX9_lowerBound_23 : decode cX9_lowerBound 23 = .ok (.aload_n 0, 1) := by decide +kernel
theorem dX9_lowerBound_24 : decode cX9_lowerBound 24 = .ok (.getfield 16, 3) := by decide +kernel
theorem dX9_lowerBound_27 : decode cX9_lowerBound 27 = .ok (.iload_n 2, 1) := by decide +kernel
theorem dX9_lowerBound_28 : decode cX9_lowerBound 28 = .ok (.iaload, 1) := by decide +kernel
theorem dX9_lowerBound_29 : decode cX9_lowerBound 29 = .ok (.ifCond .ne 7, 3) := by decide +kernel
theorem dX9_lowerBound_32 : decode cX9_lowerBound 32 = .ok (.iconst 0, 1) := by decide +kernel
theorem dX9_lowerBound_33 : decode cX9_lowerBound 33 = .ok (.goto 20, 3) := by decide +kernel
theorem dX9_lowerBound_36 : decode cX9_lowerBound 36 = .ok (.aload_n 0, 1) := by decide +kernel
theorem dX9_lowerBound_37 : decode cX9_lowerBound 37 = .ok (.getfield 94, 3) := by decide +kernel
theorem dX9_lowerBound_40 : decode cX9_lowerBound 40 = .ok (.sipush 256, 3) := by decide +kernel
theorem dX9_lowerBound_43 : decode cX9_lowerBound 43 = .ok (.iload_n 2, 1) := by decide +kernel
theorem dX9_lowerBound_44 : decode cX9_lowerBound 44 = .ok (.imul, 1) := by decide +kernel
theorem dX9_lowerBound_45 : decode cX9_lowerBound 45 = .ok (.aload_n 0, 1) := by decide +kernel
theorem dX9_lowerBound_46 : decode cX9_lowerBound 46 = .ok (.getfield 37, 3) := by decide +kernel
theorem dX9_lowerBound_49 : decode cX9_lowerBound 49 = .ok (.iload_n 2, 1) := by decide +kernel
theorem dX9_lowerBound_50 : decode cX9_lowerBound 50 = .ok (.iaload, 1) := by decide +kernel
theorem dX9_lowerBound_51 : decode cX9_lowerBound 51 = .ok (.iadd, 1) := by decide +kernel
theorem dX9_lowerBound_52 : decode cX9_lowerBound 52 = .ok (.iaload, 1) := by decide +kernel
theorem dX9_lowerBound_53 : decode cX9_lowerBound 53 = .ok (.istore_n 3, 1) := by decide +kernel
theorem dX9_lowerBound_54 : decode cX9_lowerBound 54 = .ok (.iload_n 3, 1) := by decide +kernel
theorem dX9_lowerBound_55 : decode cX9_lowerBound 55 = .ok (.iload_n 1, 1) := by decide +kernel
theorem dX9_lowerBound_56 : decode cX9_lowerBound 56 = .ok (.if_icmp .le 7, 3) := by decide +kernel
theorem dX9_lowerBound_59 : decode cX9_lowerBound 59 = .ok (.iload_n 3, 1) := by decide +kernel
theorem dX9_lowerBound_60 : decode cX9_lowerBound 60 = .ok (.goto 4, 3) := by decide +kernel
theorem dX9_lowerBound_63 : decode cX9_lowerBound 63 = .ok (.iload_n 1, 1) := by decide +kernel
theorem dX9_lowerBound_64 : decode cX9_lowerBound 64 = .ok (.istore_n 1, 1) := by decide +kernel
theorem dX9_lowerBound_65 : decode cX9_lowerBound 65 = .ok (.iinc 2 1, 3) := by decide +kernel
theorem dX9_lowerBound_68 : decode cX9_lowerBound 68 = .ok (.goto (-50), 3) := by decide +kernel
theorem dX9_lowerBound_71 : decode cX9_lowerBound 71 = .ok (.iload_n 1, 1) := by decide +kernel
theorem dX9_lowerBound_72 : decode cX9_lowerBound 72 = .ok (.ireturn, 1) := by decide +kernel
theorem dX9_isSolvedNow_0 : decode cX9_isSolvedNow 0 = .ok (.iconst 1, 1) := by decide +kernel
theorem dX9_isSolvedNow_1 : decode cX9_isSolvedNow 1 = .ok (.istore_n 1, 1) := by decide +kernel
theorem dX9_isSolvedNow_2 : decode cX9_isSolvedNow 2 = .ok (.iconst 0, 1) := by decide +kernel
theorem dX9_isSolvedNow_3 : decode cX9_isSolvedNow 3 = .ok (.istore_n 2, 1) := by decide +kernel
theorem dX9_isSolvedNow_4 : decode cX9_isSolvedNow 4 = .ok (.iload_n 2, 1) := by decide +kernel
theorem dX9_isSolvedNow_5 : decode cX9_isSolvedNow 5 = .ok (.iconst 5, 1) := by decide +kernel
theorem dX9_isSolvedNow_6 : decode cX9_isSolvedNow 6 = .ok (.if_icmp .ge 51, 3) := by decide +kernel
theorem dX9_isSolvedNow_9 : decode cX9_isSolvedNow 9 = .ok (.iload_n 1, 1) := by decide +kernel
theorem dX9_isSolvedNow_10 : decode cX9_isSolvedNow 10 = .ok (.ifCond .eq 39, 3) := by decide +kernel
theorem dX9_isSolvedNow_13 : decode cX9_isSolvedNow 13 = .ok (.aload_n 0, 1) := by decide +kernel
theorem dX9_isSolvedNow_14 : decode cX9_isSolvedNow 14 = .ok (.getfield 16, 3) := by decide +kernel
theorem dX9_isSolvedNow_17 : decode cX9_isSolvedNow 17 = .ok (.iload_n 2, 1) := by decide +kernel
theorem dX9_isSolvedNow_18 : decode cX9_isSolvedNow 18 = .ok (.iaload, 1) := by decide +kernel
theorem dX9_isSolvedNow_19 : decode cX9_isSolvedNow 19 = .ok (.ifCond .eq 26, 3) := by decide +kernel
theorem dX9_isSolvedNow_22 : decode cX9_isSolvedNow 22 = .ok (.aload_n 0, 1) := by decide +kernel
theorem dX9_isSolvedNow_23 : decode cX9_isSolvedNow 23 = .ok (.getfield 34, 3) := by decide +kernel
theorem dX9_isSolvedNow_26 : decode cX9_isSolvedNow 26 = .ok (.iload_n 2, 1) := by decide +kernel
theorem dX9_isSolvedNow_27 : decode cX9_isSolvedNow 27 = .ok (.iaload, 1) := by decide +kernel
theorem dX9_isSolvedNow_28 : decode cX9_isSolvedNow 28 = .ok (.ifCond .lt 17, 3) := by decide +kernel
theorem dX9_isSolvedNow_31 : decode cX9_isSolvedNow 31 = .ok (.aload_n 0, 1) := by decide +kernel
theorem dX9_isSolvedNow_32 : decode cX9_isSolvedNow 32 = .ok (.iload_n 2, 1) := by decide +kernel
theorem dX9_isSolvedNow_33 : decode cX9_isSolvedNow 33 = .ok (.aload_n 0, 1) := by decide +kernel
theorem dX9_isSolvedNow_34 : decode cX9_isSolvedNow 34 = .ok (.getfield 37, 3) := by decide +kernel
theorem dX9_isSolvedNow_37 : decode cX9_isSolvedNow 37 = .ok (.iload_n 2, 1) := by decide +kernel
theorem dX9_isSolvedNow_38 : decode cX9_isSolvedNow 38 = .ok (.iaload, 1) := by decide +kernel
theorem dX9_isSolvedNow_39 : decode cX9_isSolvedNow 39 = .ok (.invokevirtual 261, 3) := by decide +kernel
theorem dX9_isSolvedNow_42 : decode cX9_isSolvedNow 42 = .ok (.ifCond .eq 7, 3) := by decide +kernel
theorem dX9_isSolvedNow_45 : decode cX9_isSolvedNow 45 = .ok (.iconst 1, 1) := by decide +kernel
theorem dX9_isSolvedNow_46 : decode cX9_isSolvedNow 46 = .ok (.goto 4, 3) := by decide +kernel
theorem dX9_isSolvedNow_49 : decode cX9_isSolvedNow 49 = .ok (.iconst 0, 1) := by decide +kernel
theorem dX9_isSolvedNow_50 : decode cX9_isSolvedNow 50 = .ok (.istore_n 1, 1) := by decide +kernel
theorem dX9_isSolvedNow_51 : decode cX9_isSolvedNow 51 = .ok (.iinc 2 1, 3) := by decide +kernel
theorem dX9_isSolvedNow_54 : decode cX9_isSolvedNow 54 = .ok (.goto (-50), 3) := by decide +kernel
theorem dX9_isSolvedNow_57 : decode cX9_isSolvedNow 57 = .ok (.iload_n 1, 1) := by decide +kernel
theorem dX9_isSolvedNow_58 : decode cX9_isSolvedNow 58 = .ok (.ireturn, 1) := by decide +kernel
theorem dX9_isSolved_0 : decode cX9_isSolved 0 = .ok (.aload_n 0, 1) := by decide +kernel
theorem dX9_isSolved_1 : decode cX9_isSolved 1 = .ok (.invokevirtual 285, 3) := by decide +kernel
theorem dX9_isSolved_4 : decode cX9_isSolved 4 = .ok (.ifCond .eq 7, 3) := by decide +kernel
theorem dX9_isSolved_7 : decode cX9_isSolved 7 = .ok (.iconst 1, 1) := by decide +kernel
theorem dX9_isSolved_8 : decode cX9_isSolved 8 = .ok (.goto 4, 3) := by decide +kernel
theorem dX9_isSolved_11 : decode cX9_isSolved 11 = .ok (.iconst 0, 1) := by decide +kernel
theorem dX9_isSolved_12 : decode cX9_isSolved 12 = .ok (.ireturn, 1) := by decide +kernel
theorem dX9_isListed_0 : decode cX9_isListed 0 = .ok (.iconst 0, 1) := by decide +kernel
theorem dX9_isListed_1 : decode cX9_isListed 1 = .ok (.istore_n 3, 1) := by decide +kernel
theorem dX9_isListed_2 : decode cX9_isListed 2 = .ok (.iload_n 3, 1) := by decide +kernel
theorem dX9_isListed_3 : decode cX9_isListed 3 = .ok (.aload_n 0, 1) := by decide +kernel
theorem dX9_isListed_4 : decode cX9_isListed 4 = .ok (.getfield 288, 3) := by decide +kernel
theorem dX9_isListed_7 : decode cX9_isListed 7 = .ok (.if_icmp .ge 22, 3) := by decide +kernel
theorem dX9_isListed_10 : decode cX9_isListed 10 = .ok (.aload_n 0, 1) := by decide +kernel
theorem dX9_isListed_11 : decode cX9_isListed 11 = .ok (.getfield 97, 3) := by decide +kernel
theorem dX9_isListed_14 : decode cX9_isListed 14 = .ok (.iload_n 3, 1) := by decide +kernel
theorem dX9_isListed_15 : decode cX9_isListed 15 = .ok (.laload, 1) := by decide +kernel
theorem dX9_isListed_16 : decode cX9_isListed 16 = .ok (.lload_n 1, 1) := by decide +kernel
theorem dX9_isListed_17 : decode cX9_isListed 17 = .ok (.lcmp, 1) := by decide +kernel
theorem dX9_isListed_18 : decode cX9_isListed 18 = .ok (.ifCond .ne 5, 3) := by decide +kernel
theorem dX9_isListed_21 : decode cX9_isListed 21 = .ok (.iconst 1, 1) := by decide +kernel
theorem dX9_isListed_22 : decode cX9_isListed 22 = .ok (.ireturn, 1) := by decide +kernel
theorem dX9_isListed_23 : decode cX9_isListed 23 = .ok (.iinc 3 1, 3) := by decide +kernel
theorem dX9_isListed_26 : decode cX9_isListed 26 = .ok (.goto (-24), 3) := by decide +kernel
theorem dX9_isListed_29 : decode cX9_isListed 29 = .ok (.iconst 0, 1) := by decide +kernel
theorem dX9_isListed_30 : decode cX9_isListed 30 = .ok (.ireturn, 1) := by decide +kernel
theorem dX9_tries_0 : decode cX9_tries 0 = .ok (.aload_n 0, 1) := by decide +kernel
theorem dX9_tries_1 : decode cX9_tries 1 = .ok (.aload_n 0, 1) := by decide +kernel
theorem dX9_tries_2 : decode cX9_tries 2 = .ok (.getfield 97, 3) := by decide +kernel
theorem dX9_tries_5 : decode cX9_tries 5 = .ok (.iload_n 1, 1) := by decide +kernel
theorem dX9_tries_6 : decode cX9_tries 6 = .ok (.laload, 1) := by decide +kernel
theorem dX9_tries_7 : decode cX9_tries 7 = .ok (.invokevirtual 242, 3) := by decide +kernel
theorem dX9_tries_10 : decode cX9_tries 10 = .ok (.aload_n 0, 1) := by decide +kernel
theorem dX9_tries_11 : decode cX9_tries 11 = .ok (.iload_n 2, 1) := by decide +kernel
theorem dX9_tries_12 : decode cX9_tries 12 = .ok (.iload_n 3, 1) := by decide +kernel
theorem dX9_tries_13 : decode cX9_tries 13 = .ok (.invokevirtual 232, 3) := by decide +kernel
theorem dX9_tries_16 : decode cX9_tries 16 = .ok (.istore 5, 2) := by decide +kernel
theorem dX9_tries_18 : decode cX9_tries 18 = .ok (.iload 5, 2) := by decide +kernel
theorem dX9_tries_20 : decode cX9_tries 20 = .ok (.ifCond .ne 5, 3) := by decide +kernel
theorem dX9_tries_23 : decode cX9_tries 23 = .ok (.iconst 1, 1) := by decide +kernel
theorem dX9_tries_24 : decode cX9_tries 24 = .ok (.ireturn, 1) := by decide +kernel
theorem dX9_tries_25 : decode cX9_tries 25 = .ok (.aload_n 0, 1) := by decide +kernel
theorem dX9_tries_26 : decode cX9_tries 26 = .ok (.iload 5, 2) := by decide +kernel
theorem dX9_tries_28 : decode cX9_tries 28 = .ok (.iload_n 3, 1) := by decide +kernel
theorem dX9_tries_29 : decode cX9_tries 29 = .ok (.invokevirtual 221, 3) := by decide +kernel
theorem dX9_tries_32 : decode cX9_tries 32 = .ok (.aload_n 0, 1) := by decide +kernel
theorem dX9_tries_33 : decode cX9_tries 33 = .ok (.invokevirtual 217, 3) := by decide +kernel
theorem dX9_tries_36 : decode cX9_tries 36 = .ok (.lstore 6, 2) := by decide +kernel
theorem dX9_tries_38 : decode cX9_tries 38 = .ok (.iload 4, 2) := by decide +kernel
theorem dX9_tries_40 : decode cX9_tries 40 = .ok (.ifCond .eq 10, 3) := by decide +kernel
theorem dX9_tries_43 : decode cX9_tries 43 = .ok (.aload_n 0, 1) := by decide +kernel
theorem dX9_tries_44 : decode cX9_tries 44 = .ok (.invokevirtual 281, 3) := by decide +kernel
theorem dX9_tries_47 : decode cX9_tries 47 = .ok (.ifCond .ne 12, 3) := by decide +kernel
theorem dX9_tries_50 : decode cX9_tries 50 = .ok (.aload_n 0, 1) := by decide +kernel
theorem dX9_tries_51 : decode cX9_tries 51 = .ok (.lload 6, 2) := by decide +kernel
theorem dX9_tries_53 : decode cX9_tries 53 = .ok (.invokevirtual 291, 3) := by decide +kernel
theorem dX9_tries_56 : decode cX9_tries 56 = .ok (.ifCond .eq 5, 3) := by decide +kernel
theorem dX9_tries_59 : decode cX9_tries 59 = .ok (.iconst 1, 1) := by decide +kernel
theorem dX9_tries_60 : decode cX9_tries 60 = .ok (.ireturn, 1) := by decide +kernel
theorem dX9_tries_61 : decode cX9_tries 61 = .ok (.aload_n 0, 1) := by decide +kernel
theorem dX9_tries_62 : decode cX9_tries 62 = .ok (.getfield 288, 3) := by decide +kernel
theorem dX9_tries_65 : decode cX9_tries 65 = .ok (.sipush 1200, 3) := by decide +kernel
theorem dX9_tries_68 : decode cX9_tries 68 = .ok (.if_icmp .ne 11, 3) := by decide +kernel
theorem dX9_tries_71 : decode cX9_tries 71 = .ok (.aload_n 0, 1) := by decide +kernel
theorem dX9_tries_72 : decode cX9_tries 72 = .ok (.bipush (-6), 2) := by decide +kernel
theorem dX9_tries_74 : decode cX9_tries 74 = .ok (.putfield 295, 3) := by decide +kernel
theorem dX9_tries_77 : decode cX9_tries 77 = .ok (.iconst 0, 1) := by decide +kernel
theorem dX9_tries_78 : decode cX9_tries 78 = .ok (.ireturn, 1) := by decide +kernel
theorem dX9_tries_79 : decode cX9_tries 79 = .ok (.aload_n 0, 1) := by decide +kernel
theorem dX9_tries_80 : decode cX9_tries 80 = .ok (.getfield 97, 3) := by decide +kernel
theorem dX9_tries_83 : decode cX9_tries 83 = .ok (.aload_n 0, 1) := by decide +kernel
theorem dX9_tries_84 : decode cX9_tries 84 = .ok (.getfield 288, 3) := by decide +kernel
theorem dX9_tries_87 : decode cX9_tries 87 = .ok (.lload 6, 2) := by decide +kernel
theorem dX9_tries_89 : decode cX9_tries 89 = .ok (.lastore, 1) := by decide +kernel
theorem dX9_tries_90 : decode cX9_tries 90 = .ok (.aload_n 0, 1) := by decide +kernel
theorem dX9_tries_91 : decode cX9_tries 91 = .ok (.getfield 100, 3) := by decide +kernel
theorem dX9_tries_94 : decode cX9_tries 94 = .ok (.aload_n 0, 1) := by decide +kernel
theorem dX9_tries_95 : decode cX9_tries 95 = .ok (.getfield 288, 3) := by decide +kernel
theorem dX9_tries_98 : decode cX9_tries 98 = .ok (.iload_n 1, 1) := by decide +kernel
theorem dX9_tries_99 : decode cX9_tries 99 = .ok (.iastore, 1) := by decide +kernel
theorem dX9_tries_100 : decode cX9_tries 100 = .ok (.aload_n 0, 1) := by decide +kernel
theorem dX9_tries_101 : decode cX9_tries 101 = .ok (.getfield 103, 3) := by decide +kernel
theorem dX9_tries_104 : decode cX9_tries 104 = .ok (.aload_n 0, 1) := by decide +kernel
theorem dX9_tries_105 : decode cX9_tries 105 = .ok (.getfield 288, 3) := by decide +kernel
theorem dX9_tries_108 : decode cX9_tries 108 = .ok (.bipush 10, 2) := by decide +kernel
theorem dX9_tries_110 : decode cX9_tries 110 = .ok (.iload_n 2, 1) := by decide +kernel
theorem dX9_tries_111 : decode cX9_tries 111 = .ok (.imul, 1) := by decide +kernel
theorem dX9_tries_112 : decode cX9_tries 112 = .ok (.iload_n 3, 1) := by decide +kernel
theorem dX9_tries_113 : decode cX9_tries 113 = .ok (.iadd, 1) := by decide +kernel
theorem dX9_tries_114 : decode cX9_tries 114 = .ok (.iastore, 1) := by decide +kernel
theorem dX9_tries_115 : decode cX9_tries 115 = .ok (.aload_n 0, 1) := by decide +kernel
theorem dX9_tries_116 : decode cX9_tries 116 = .ok (.getfield 106, 3) := by decide +kernel
theorem dX9_tries_119 : decode cX9_tries 119 = .ok (.aload_n 0, 1) := by decide +kernel
theorem dX9_tries_120 : decode cX9_tries 120 = .ok (.getfield 288, 3) := by decide +kernel
theorem dX9_tries_123 : decode cX9_tries 123 = .ok (.aload_n 0, 1) := by decide +kernel
theorem dX9_tries_124 : decode cX9_tries 124 = .ok (.getfield 106, 3) := by decide +kernel
theorem dX9_tries_127 : decode cX9_tries 127 = .ok (.iload_n 1, 1) := by decide +kernel
theorem dX9_tries_128 : decode cX9_tries 128 = .ok (.iaload, 1) := by decide +kernel
theorem dX9_tries_129 : decode cX9_tries 129 = .ok (.iconst 1, 1) := by decide +kernel
theorem dX9_tries_130 : decode cX9_tries 130 = .ok (.iadd, 1) := by decide +kernel
theorem dX9_tries_131 : decode cX9_tries 131 = .ok (.iastore, 1) := by decide +kernel
theorem dX9_tries_132 : decode cX9_tries 132 = .ok (.aload_n 0, 1) := by decide +kernel
theorem dX9_tries_133 : decode cX9_tries 133 = .ok (.dup, 1) := by decide +kernel
theorem dX9_tries_134 : decode cX9_tries 134 = .ok (.getfield 288, 3) := by decide +kernel
theorem dX9_tries_137 : decode cX9_tries 137 = .ok (.iconst 1, 1) := by decide +kernel
theorem dX9_tries_138 : decode cX9_tries 138 = .ok (.iadd, 1) := by decide +kernel
theorem dX9_tries_139 : decode cX9_tries 139 = .ok (.putfield 288, 3) := by decide +kernel
theorem dX9_tries_142 : decode cX9_tries 142 = .ok (.iload 4, 2) := by decide +kernel
theorem dX9_tries_144 : decode cX9_tries 144 = .ok (.ifCond .eq 22, 3) := by decide +kernel
theorem dX9_tries_147 : decode cX9_tries 147 = .ok (.aload_n 0, 1) := by decide +kernel
theorem dX9_tries_148 : decode cX9_tries 148 = .ok (.invokevirtual 285, 3) := by decide +kernel
theorem dX9_tries_151 : decode cX9_tries 151 = .ok (.ifCond .eq 15, 3) := by decide +kernel
theorem dX9_tries_154 : decode cX9_tries 154 = .ok (.aload_n 0, 1) := by decide +kernel
theorem dX9_tries_155 : decode cX9_tries 155 = .ok (.aload_n 0, 1) := by decide +kernel
theorem dX9_tries_156 : decode cX9_tries 156 = .ok (.getfield 288, 3) := by decide +kernel
theorem dX9_tries_159 : decode cX9_tries 159 = .ok (.iconst 1, 1) := by decide +kernel
theorem dX9_tries_160 : decode cX9_tries 160 = .ok (.isub, 1) := by decide +kernel
theorem dX9_tries_161 : decode cX9_tries 161 = .ok (.putfield 295, 3) := by decide +kernel
theorem dX9_tries_164 : decode cX9_tries 164 = .ok (.iconst 0, 1) := by decide +kernel
theorem dX9_tries_165 : decode cX9_tries 165 = .ok (.ireturn, 1) := by decide +kernel
theorem dX9_tries_166 : decode cX9_tries 166 = .ok (.iconst 1, 1) := by decide +kernel
theorem dX9_tries_167 : decode cX9_tries 167 = .ok (.ireturn, 1) := by decide +kernel
theorem dX9_search_0 : decode cX9_search 0 = .ok (.aload_n 0, 1) := by decide +kernel
theorem dX9_search_1 : decode cX9_search 1 = .ok (.invokevirtual 217, 3) := by decide +kernel
theorem dX9_search_4 : decode cX9_search 4 = .ok (.lstore_n 3, 1) := by decide +kernel
theorem dX9_search_5 : decode cX9_search 5 = .ok (.aload_n 0, 1) := by decide +kernel
theorem dX9_search_6 : decode cX9_search 6 = .ok (.getfield 97, 3) := by decide +kernel
theorem dX9_search_9 : decode cX9_search 9 = .ok (.iconst 0, 1) := by decide +kernel
theorem dX9_search_10 : decode cX9_search 10 = .ok (.lload_n 3, 1) := by decide +kernel
theorem dX9_search_11 : decode cX9_search 11 = .ok (.lastore, 1) := by decide +kernel
theorem dX9_search_12 : decode cX9_search 12 = .ok (.aload_n 0, 1) := by decide +kernel
theorem dX9_search_13 : decode cX9_search 13 = .ok (.getfield 106, 3) := by decide +kernel
theorem dX9_search_16 : decode cX9_search 16 = .ok (.iconst 0, 1) := by decide +kernel
theorem dX9_search_17 : decode cX9_search 17 = .ok (.iconst 0, 1) := by decide +kernel
theorem dX9_search_18 : decode cX9_search 18 = .ok (.iastore, 1) := by decide +kernel
theorem dX9_search_19 : decode cX9_search 19 = .ok (.aload_n 0, 1) := by decide +kernel
theorem dX9_search_20 : decode cX9_search 20 = .ok (.iconst 1, 1) := by decide +kernel
theorem dX9_search_21 : decode cX9_search 21 = .ok (.putfield 288, 3) := by decide +kernel
theorem dX9_search_24 : decode cX9_search 24 = .ok (.aload_n 0, 1) := by decide +kernel
theorem dX9_search_25 : decode cX9_search 25 = .ok (.bipush (-7), 2) := by decide +kernel
theorem dX9_search_27 : decode cX9_search 27 = .ok (.putfield 295, 3) := by decide +kernel
theorem dX9_search_30 : decode cX9_search 30 = .ok (.iconst 1, 1) := by decide +kernel
theorem dX9_search_31 : decode cX9_search 31 = .ok (.istore 5, 2) := by decide +kernel
theorem dX9_search_33 : decode cX9_search 33 = .ok (.iconst 0, 1) := by decide +kernel
theorem dX9_search_34 : decode cX9_search 34 = .ok (.istore 6, 2) := by decide +kernel
theorem dX9_search_36 : decode cX9_search 36 = .ok (.iload 6, 2) := by decide +kernel
theorem dX9_search_38 : decode cX9_search 38 = .ok (.aload_n 0, 1) := by decide +kernel
theorem dX9_search_39 : decode cX9_search 39 = .ok (.getfield 288, 3) := by decide +kernel
theorem dX9_search_42 : decode cX9_search 42 = .ok (.if_icmp .ge 84, 3) := by decide +kernel
theorem dX9_search_45 : decode cX9_search 45 = .ok (.iload 5, 2) := by decide +kernel
theorem dX9_search_47 : decode cX9_search 47 = .ok (.ifCond .eq 79, 3) := by decide +kernel
theorem dX9_search_50 : decode cX9_search 50 = .ok (.aload_n 0, 1) := by decide +kernel
theorem dX9_search_51 : decode cX9_search 51 = .ok (.getfield 106, 3) := by decide +kernel
theorem dX9_search_54 : decode cX9_search 54 = .ok (.iload 6, 2) := by decide +kernel
theorem dX9_search_56 : decode cX9_search 56 = .ok (.iaload, 1) := by decide +kernel
theorem dX9_search_57 : decode cX9_search 57 = .ok (.iload_n 2, 1) := by decide +kernel
theorem dX9_search_58 : decode cX9_search 58 = .ok (.if_icmp .ge 68, 3) := by decide +kernel
theorem dX9_search_61 : decode cX9_search 61 = .ok (.iconst 0, 1) := by decide +kernel
theorem dX9_search_62 : decode cX9_search 62 = .ok (.istore 7, 2) := by decide +kernel
theorem dX9_search_64 : decode cX9_search 64 = .ok (.iload 7, 2) := by decide +kernel
theorem dX9_search_66 : decode cX9_search 66 = .ok (.iconst 5, 1) := by decide +kernel
theorem dX9_search_67 : decode cX9_search 67 = .ok (.if_icmp .ge 53, 3) := by decide +kernel
theorem dX9_search_70 : decode cX9_search 70 = .ok (.iconst 0, 1) := by decide +kernel
theorem dX9_search_71 : decode cX9_search 71 = .ok (.istore 8, 2) := by decide +kernel
theorem dX9_search_73 : decode cX9_search 73 = .ok (.iload 8, 2) := by decide +kernel
theorem dX9_search_75 : decode cX9_search 75 = .ok (.bipush 6, 2) := by decide +kernel
theorem dX9_search_77 : decode cX9_search 77 = .ok (.if_icmp .ge 37, 3) := by decide +kernel
theorem dX9_search_80 : decode cX9_search 80 = .ok (.aload_n 0, 1) := by decide +kernel
theorem dX9_search_81 : decode cX9_search 81 = .ok (.getfield 16, 3) := by decide +kernel
theorem dX9_search_84 : decode cX9_search 84 = .ok (.iload 7, 2) := by decide +kernel
theorem dX9_search_86 : decode cX9_search 86 = .ok (.iaload, 1) := by decide +kernel
theorem dX9_search_87 : decode cX9_search 87 = .ok (.ifCond .le 27, 3) := by decide +kernel
theorem dX9_search_90 : decode cX9_search 90 = .ok (.iload 5, 2) := by decide +kernel
theorem dX9_search_92 : decode cX9_search 92 = .ok (.ifCond .eq 22, 3) := by decide +kernel
theorem dX9_search_95 : decode cX9_search 95 = .ok (.aload_n 0, 1) := by decide +kernel
theorem dX9_search_96 : decode cX9_search 96 = .ok (.iload 6, 2) := by decide +kernel
theorem dX9_search_98 : decode cX9_search 98 = .ok (.iload 7, 2) := by decide +kernel
theorem dX9_search_100 : decode cX9_search 100 = .ok (.iload 8, 2) := by decide +kernel
theorem dX9_search_102 : decode cX9_search 102 = .ok (.iload_n 1, 1) := by decide +kernel
theorem dX9_search_103 : decode cX9_search 103 = .ok (.invokevirtual 298, 3) := by decide +kernel
theorem dX9_search_106 : decode cX9_search 106 = .ok (.istore 5, 2) := by decide +kernel
theorem dX9_search_108 : decode cX9_search 108 = .ok (.iinc 8 1, 3) := by decide +kernel
theorem dX9_search_111 : decode cX9_search 111 = .ok (.goto (-38), 3) := by decide +kernel
theorem dX9_search_114 : decode cX9_search 114 = .ok (.iinc 7 1, 3) := by decide +kernel
theorem dX9_search_117 : decode cX9_search 117 = .ok (.goto (-53), 3) := by decide +kernel
theorem dX9_search_120 : decode cX9_search 120 = .ok (.iinc 6 1, 3) := by decide +kernel
theorem dX9_search_123 : decode cX9_search 123 = .ok (.goto (-87), 3) := by decide +kernel
theorem dX9_search_126 : decode cX9_search 126 = .ok (.aload_n 0, 1) := by decide +kernel
theorem dX9_search_127 : decode cX9_search 127 = .ok (.lload_n 3, 1) := by decide +kernel
theorem dX9_search_128 : decode cX9_search 128 = .ok (.invokevirtual 242, 3) := by decide +kernel
theorem dX9_search_131 : decode cX9_search 131 = .ok (.return_, 1) := by decide +kernel
theorem dX9_findSolution_0 : decode cX9_findSolution 0 = .ok (.aload_n 0, 1) := by decide +kernel
theorem dX9_findSolution_1 : decode cX9_findSolution 1 = .ok (.invokevirtual 278, 3) := by decide +kernel
theorem dX9_findSolution_4 : decode cX9_findSolution 4 = .ok (.aload_n 0, 1) := by decide +kernel
theorem dX9_findSolution_5 : decode cX9_findSolution 5 = .ok (.bipush (-7), 2) := by decide +kernel
theorem dX9_findSolution_7 : decode cX9_findSolution 7 = .ok (.putfield 295, 3) := by decide +kernel
theorem dX9_findSolution_10 : decode cX9_findSolution 10 = .ok (.aload_n 0, 1) := by decide +kernel
theorem dX9_findSolution_11 : decode cX9_findSolution 11 = .ok (.invokevirtual 281, 3) := by decide +kernel
theorem dX9_findSolution_14 : decode cX9_findSolution 14 = .ok (.ifCond .eq 4, 3) := by decide +kernel
theorem dX9_findSolution_17 : decode cX9_findSolution 17 = .ok (.return_, 1) := by decide +kernel
theorem dX9_findSolution_18 : decode cX9_findSolution 18 = .ok (.aload_n 0, 1) := by decide +kernel
theorem dX9_findSolution_19 : decode cX9_findSolution 19 = .ok (.invokevirtual 285, 3) := by decide +kernel
theorem dX9_findSolution_22 : decode cX9_findSolution 22 = .ok (.ifCond .eq 16, 3) := by decide +kernel
theorem dX9_findSolution_25 : decode cX9_findSolution 25 = .ok (.aload_n 0, 1) := by decide +kernel
theorem dX9_findSolution_26 : decode cX9_findSolution 26 = .ok (.getfield 106, 3) := by decide +kernel
theorem dX9_findSolution_29 : decode cX9_findSolution 29 = .ok (.iconst 0, 1) := by decide +kernel
theorem dX9_findSolution_30 : decode cX9_findSolution 30 = .ok (.iconst 0, 1) := by decide +kernel
theorem dX9_findSolution_31 : decode cX9_findSolution 31 = .ok (.iastore, 1) := by decide +kernel
theorem dX9_findSolution_32 : decode cX9_findSolution 32 = .ok (.aload_n 0, 1) := by decide +kernel
theorem dX9_findSolution_33 : decode cX9_findSolution 33 = .ok (.iconst 0, 1) := by decide +kernel
theorem dX9_findSolution_34 : decode cX9_findSolution 34 = .ok (.putfield 295, 3) := by decide +kernel
theorem dX9_findSolution_37 : decode cX9_findSolution 37 = .ok (.return_, 1) := by decide +kernel
theorem dX9_findSolution_38 : decode cX9_findSolution 38 = .ok (.aload_n 0, 1) := by decide +kernel
theorem dX9_findSolution_39 : decode cX9_findSolution 39 = .ok (.iconst 1, 1) := by decide +kernel
theorem dX9_findSolution_40 : decode cX9_findSolution 40 = .ok (.sipush 2000, 3) := by decide +kernel
theorem dX9_findSolution_43 : decode cX9_findSolution 43 = .ok (.invokevirtual 302, 3) := by decide +kernel
theorem dX9_findSolution_46 : decode cX9_findSolution 46 = .ok (.return_, 1) := by decide +kernel
theorem dX9_solve_0 : decode cX9_solve 0 = .ok (.aload_n 0, 1) := by decide +kernel
theorem dX9_solve_1 : decode cX9_solve 1 = .ok (.invokevirtual 306, 3) := by decide +kernel
theorem dX9_solve_4 : decode cX9_solve 4 = .ok (.aload_n 0, 1) := by decide +kernel
theorem dX9_solve_5 : decode cX9_solve 5 = .ok (.getfield 295, 3) := by decide +kernel
theorem dX9_solve_8 : decode cX9_solve 8 = .ok (.ifCond .ge 10, 3) := by decide +kernel
theorem dX9_solve_11 : decode cX9_solve 11 = .ok (.aload_n 0, 1) := by decide +kernel
theorem dX9_solve_12 : decode cX9_solve 12 = .ok (.getfield 295, 3) := by decide +kernel
theorem dX9_solve_15 : decode cX9_solve 15 = .ok (.goto 12, 3) := by decide +kernel
theorem dX9_solve_18 : decode cX9_solve 18 = .ok (.aload_n 0, 1) := by decide +kernel
theorem dX9_solve_19 : decode cX9_solve 19 = .ok (.getfield 106, 3) := by decide +kernel
theorem dX9_solve_22 : decode cX9_solve 22 = .ok (.aload_n 0, 1) := by decide +kernel
theorem dX9_solve_23 : decode cX9_solve 23 = .ok (.getfield 295, 3) := by decide +kernel
theorem dX9_solve_26 : decode cX9_solve 26 = .ok (.iaload, 1) := by decide +kernel
theorem dX9_solve_27 : decode cX9_solve 27 = .ok (.ireturn, 1) := by decide +kernel
theorem dX9_solution_0 : decode cX9_solution 0 = .ok (.iload_n 1, 1) := by decide +kernel
theorem dX9_solution_1 : decode cX9_solution 1 = .ok (.ifCond .ge 6, 3) := by decide +kernel
theorem dX9_solution_4 : decode cX9_solution 4 = .ok (.bipush (-3), 2) := by decide +kernel
theorem dX9_solution_6 : decode cX9_solution 6 = .ok (.ireturn, 1) := by decide +kernel
theorem dX9_solution_7 : decode cX9_solution 7 = .ok (.aload_n 0, 1) := by decide +kernel
theorem dX9_solution_8 : decode cX9_solution 8 = .ok (.invokevirtual 306, 3) := by decide +kernel
theorem dX9_solution_11 : decode cX9_solution 11 = .ok (.aload_n 0, 1) := by decide +kernel
theorem dX9_solution_12 : decode cX9_solution 12 = .ok (.getfield 295, 3) := by decide +kernel
theorem dX9_solution_15 : decode cX9_solution 15 = .ok (.ifCond .ge 8, 3) := by decide +kernel
theorem dX9_solution_18 : decode cX9_solution 18 = .ok (.aload_n 0, 1) := by decide +kernel
theorem dX9_solution_19 : decode cX9_solution 19 = .ok (.getfield 295, 3) := by decide +kernel
theorem dX9_solution_22 : decode cX9_solution 22 = .ok (.ireturn, 1) := by decide +kernel
theorem dX9_solution_23 : decode cX9_solution 23 = .ok (.iload_n 1, 1) := by decide +kernel
theorem dX9_solution_24 : decode cX9_solution 24 = .ok (.aload_n 0, 1) := by decide +kernel
theorem dX9_solution_25 : decode cX9_solution 25 = .ok (.getfield 106, 3) := by decide +kernel
theorem dX9_solution_28 : decode cX9_solution 28 = .ok (.aload_n 0, 1) := by decide +kernel
theorem dX9_solution_29 : decode cX9_solution 29 = .ok (.getfield 295, 3) := by decide +kernel
theorem dX9_solution_32 : decode cX9_solution 32 = .ok (.iaload, 1) := by decide +kernel
theorem dX9_solution_33 : decode cX9_solution 33 = .ok (.if_icmp .lt 6, 3) := by decide +kernel
theorem dX9_solution_36 : decode cX9_solution 36 = .ok (.bipush (-7), 2) := by decide +kernel
theorem dX9_solution_38 : decode cX9_solution 38 = .ok (.ireturn, 1) := by decide +kernel
theorem dX9_solution_39 : decode cX9_solution 39 = .ok (.aload_n 0, 1) := by decide +kernel
theorem dX9_solution_40 : decode cX9_solution 40 = .ok (.getfield 295, 3) := by decide +kernel
theorem dX9_solution_43 : decode cX9_solution 43 = .ok (.istore_n 2, 1) := by decide +kernel
theorem dX9_solution_44 : decode cX9_solution 44 = .ok (.aload_n 0, 1) := by decide +kernel
theorem dX9_solution_45 : decode cX9_solution 45 = .ok (.getfield 106, 3) := by decide +kernel
theorem dX9_solution_48 : decode cX9_solution 48 = .ok (.iload_n 2, 1) := by decide +kernel
theorem dX9_solution_49 : decode cX9_solution 49 = .ok (.iaload, 1) := by decide +kernel
theorem dX9_solution_50 : decode cX9_solution 50 = .ok (.iload_n 1, 1) := by decide +kernel
theorem dX9_solution_51 : decode cX9_solution 51 = .ok (.iconst 1, 1) := by decide +kernel
theorem dX9_solution_52 : decode cX9_solution 52 = .ok (.iadd, 1) := by decide +kernel
theorem dX9_solution_53 : decode cX9_solution 53 = .ok (.if_icmp .le 13, 3) := by decide +kernel
theorem dX9_solution_56 : decode cX9_solution 56 = .ok (.aload_n 0, 1) := by decide +kernel
theorem dX9_solution_57 : decode cX9_solution 57 = .ok (.getfield 100, 3) := by decide +kernel
theorem dX9_solution_60 : decode cX9_solution 60 = .ok (.iload_n 2, 1) := by decide +kernel
theorem dX9_solution_61 : decode cX9_solution 61 = .ok (.iaload, 1) := by decide +kernel
theorem dX9_solution_62 : decode cX9_solution 62 = .ok (.istore_n 2, 1) := by decide +kernel
theorem dX9_solution_63 : decode cX9_solution 63 = .ok (.goto (-19), 3) := by decide +kernel
theorem dX9_solution_66 : decode cX9_solution 66 = .ok (.aload_n 0, 1) := by decide +kernel
theorem dX9_solution_67 : decode cX9_solution 67 = .ok (.getfield 103, 3) := by decide +kernel
theorem dX9_solution_70 : decode cX9_solution 70 = .ok (.iload_n 2, 1) := by decide +kernel
theorem dX9_solution_71 : decode cX9_solution 71 = .ok (.iaload, 1) := by decide +kernel
theorem dX9_solution_72 : decode cX9_solution 72 = .ok (.ireturn, 1) := by decide +kernel
theorem dX9_reachable_0 : decode cX9_reachable 0 = .ok (.iload_n 1, 1) := by decide +kernel
theorem dX9_reachable_1 : decode cX9_reachable 1 = .ok (.iconst 0, 1) := by decide +kernel
theorem dX9_reachable_2 : decode cX9_reachable 2 = .ok (.iconst 4, 1) := by decide +kernel
theorem dX9_reachable_3 : decode cX9_reachable 3 = .ok (.invokestatic 119, 3) := by decide +kernel
theorem dX9_reachable_6 : decode cX9_reachable 6 = .ok (.ifCond .ne 6, 3) := by decide +kernel
theorem dX9_reachable_9 : decode cX9_reachable 9 = .ok (.bipush (-3), 2) := by decide +kernel
theorem dX9_reachable_11 : decode cX9_reachable 11 = .ok (.ireturn, 1) := by decide +kernel
theorem dX9_reachable_12 : decode cX9_reachable 12 = .ok (.aload_n 0, 1) := by decide +kernel
theorem dX9_reachable_13 : decode cX9_reachable 13 = .ok (.iconst 0, 1) := by decide +kernel
theorem dX9_reachable_14 : decode cX9_reachable 14 = .ok (.iload_n 1, 1) := by decide +kernel
theorem dX9_reachable_15 : decode cX9_reachable 15 = .ok (.invokevirtual 302, 3) := by decide +kernel
theorem dX9_reachable_18 : decode cX9_reachable 18 = .ok (.aload_n 0, 1) := by decide +kernel
theorem dX9_reachable_19 : decode cX9_reachable 19 = .ok (.getfield 295, 3) := by decide +kernel
theorem dX9_reachable_22 : decode cX9_reachable 22 = .ok (.bipush (-6), 2) := by decide +kernel
theorem dX9_reachable_24 : decode cX9_reachable 24 = .ok (.if_icmp .ne 8, 3) := by decide +kernel
theorem dX9_reachable_27 : decode cX9_reachable 27 = .ok (.bipush (-6), 2) := by decide +kernel
theorem dX9_reachable_29 : decode cX9_reachable 29 = .ok (.goto 7, 3) := by decide +kernel
theorem dX9_reachable_32 : decode cX9_reachable 32 = .ok (.aload_n 0, 1) := by decide +kernel
theorem dX9_reachable_33 : decode cX9_reachable 33 = .ok (.getfield 288, 3) := by decide +kernel
theorem dX9_reachable_36 : decode cX9_reachable 36 = .ok (.ireturn, 1) := by decide +kernel
