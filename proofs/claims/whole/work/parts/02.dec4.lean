theorem dX9_goRound_90 : decode cX9_goRound 90 = .ok (.putfield 191, 3) := by decide +kernel
theorem dX9_goRound_93 : decode cX9_goRound 93 = .ok (.aload_n 0, 1) := by decide +kernel
theorem dX9_goRound_94 : decode cX9_goRound 94 = .ok (.iload_n 2, 1) := by decide +kernel
theorem dX9_goRound_95 : decode cX9_goRound 95 = .ok (.ifCond .eq 7, 3) := by decide +kernel
theorem dX9_goRound_98 : decode cX9_goRound 98 = .ok (.iload_n 3, 1) := by decide +kernel
theorem dX9_goRound_99 : decode cX9_goRound 99 = .ok (.goto 5, 3) := by decide +kernel
theorem dX9_goRound_102 : decode cX9_goRound 102 = .ok (.iload_n 3, 1) := by decide +kernel
theorem dX9_goRound_103 : decode cX9_goRound 103 = .ok (.ineg, 1) := by decide +kernel
theorem dX9_goRound_104 : decode cX9_goRound 104 = .ok (.putfield 188, 3) := by decide +kernel
theorem dX9_goRound_107 : decode cX9_goRound 107 = .ok (.return_, 1) := by decide +kernel
theorem dX9_absolute_0 : decode cX9_absolute 0 = .ok (.iload_n 0, 1) := by decide +kernel
theorem dX9_absolute_1 : decode cX9_absolute 1 = .ok (.ifCond .ge 8, 3) := by decide +kernel
theorem dX9_absolute_4 : decode cX9_absolute 4 = .ok (.iload_n 0, 1) := by decide +kernel
theorem dX9_absolute_5 : decode cX9_absolute 5 = .ok (.ineg, 1) := by decide +kernel
theorem dX9_absolute_6 : decode cX9_absolute 6 = .ok (.goto 4, 3) := by decide +kernel
theorem dX9_absolute_9 : decode cX9_absolute 9 = .ok (.iload_n 0, 1) := by decide +kernel
theorem dX9_absolute_10 : decode cX9_absolute 10 = .ok (.ireturn, 1) := by decide +kernel
theorem dX9_mayTurn_0 : decode cX9_mayTurn 0 = .ok (.aload_n 0, 1) := by decide +kernel
theorem dX9_mayTurn_1 : decode cX9_mayTurn 1 = .ok (.getfield 37, 3) := by decide +kernel
theorem dX9_mayTurn_4 : decode cX9_mayTurn 4 = .ok (.iload_n 1, 1) := by decide +kernel
theorem dX9_mayTurn_5 : decode cX9_mayTurn 5 = .ok (.iaload, 1) := by decide +kernel
theorem dX9_mayTurn_6 : decode cX9_mayTurn 6 = .ok (.bipush 8, 2) := by decide +kernel
theorem dX9_mayTurn_8 : decode cX9_mayTurn 8 = .ok (.irem, 1) := by decide +kernel
theorem dX9_mayTurn_9 : decode cX9_mayTurn 9 = .ok (.istore_n 3, 1) := by decide +kernel
theorem dX9_mayTurn_10 : decode cX9_mayTurn 10 = .ok (.aload_n 0, 1) := by decide +kernel
theorem dX9_mayTurn_11 : decode cX9_mayTurn 11 = .ok (.getfield 37, 3) := by decide +kernel
theorem dX9_mayTurn_14 : decode cX9_mayTurn 14 = .ok (.iload_n 1, 1) := by decide +kernel
theorem dX9_mayTurn_15 : decode cX9_mayTurn 15 = .ok (.iaload, 1) := by decide +kernel
theorem dX9_mayTurn_16 : decode cX9_mayTurn 16 = .ok (.bipush 8, 2) := by decide +kernel
theorem dX9_mayTurn_18 : decode cX9_mayTurn 18 = .ok (.idiv, 1) := by decide +kernel
theorem dX9_mayTurn_19 : decode cX9_mayTurn 19 = .ok (.bipush 8, 2) := by decide +kernel
theorem dX9_mayTurn_21 : decode cX9_mayTurn 21 = .ok (.irem, 1) := by decide +kernel
theorem dX9_mayTurn_22 : decode cX9_mayTurn 22 = .ok (.istore 4, 2) := by decide +kernel
theorem dX9_mayTurn_24 : decode cX9_mayTurn 24 = .ok (.iconst 0, 1) := by decide +kernel
theorem dX9_mayTurn_25 : decode cX9_mayTurn 25 = .ok (.istore 5, 2) := by decide +kernel
theorem dX9_mayTurn_27 : decode cX9_mayTurn 27 = .ok (.iload 5, 2) := by decide +kernel
theorem dX9_mayTurn_29 : decode cX9_mayTurn 29 = .ok (.aload_n 0, 1) := by decide +kernel
theorem dX9_mayTurn_30 : decode cX9_mayTurn 30 = .ok (.getfield 16, 3) := by decide +kernel
theorem dX9_mayTurn_33 : decode cX9_mayTurn 33 = .ok (.iload_n 1, 1) := by decide +kernel
theorem dX9_mayTurn_34 : decode cX9_mayTurn 34 = .ok (.iaload, 1) := by decide +kernel
theorem dX9_mayTurn_35 : decode cX9_mayTurn 35 = .ok (.if_icmp .ge 189, 3) := by decide +kernel
theorem dX9_mayTurn_38 : decode cX9_mayTurn 38 = .ok (.aload_n 0, 1) := by decide +kernel
theorem dX9_mayTurn_39 : decode cX9_mayTurn 39 = .ok (.aload_n 0, 1) := by decide +kernel
theorem dX9_mayTurn_40 : decode cX9_mayTurn 40 = .ok (.iload_n 1, 1) := by decide +kernel
theorem dX9_mayTurn_41 : decode cX9_mayTurn 41 = .ok (.iload 5, 2) := by decide +kernel
theorem dX9_mayTurn_43 : decode cX9_mayTurn 43 = .ok (.aload_n 0, 1) := by decide +kernel
theorem dX9_mayTurn_44 : decode cX9_mayTurn 44 = .ok (.getfield 37, 3) := by decide +kernel
theorem dX9_mayTurn_47 : decode cX9_mayTurn 47 = .ok (.iload_n 1, 1) := by decide +kernel
theorem dX9_mayTurn_48 : decode cX9_mayTurn 48 = .ok (.iaload, 1) := by decide +kernel
theorem dX9_mayTurn_49 : decode cX9_mayTurn 49 = .ok (.invokevirtual 164, 3) := by decide +kernel
theorem dX9_mayTurn_52 : decode cX9_mayTurn 52 = .ok (.iload_n 3, 1) := by decide +kernel
theorem dX9_mayTurn_53 : decode cX9_mayTurn 53 = .ok (.isub, 1) := by decide +kernel
theorem dX9_mayTurn_54 : decode cX9_mayTurn 54 = .ok (.putfield 188, 3) := by decide +kernel
theorem dX9_mayTurn_57 : decode cX9_mayTurn 57 = .ok (.aload_n 0, 1) := by decide +kernel
theorem dX9_mayTurn_58 : decode cX9_mayTurn 58 = .ok (.aload_n 0, 1) := by decide +kernel
theorem dX9_mayTurn_59 : decode cX9_mayTurn 59 = .ok (.iload_n 1, 1) := by decide +kernel
theorem dX9_mayTurn_60 : decode cX9_mayTurn 60 = .ok (.iload 5, 2) := by decide +kernel
theorem dX9_mayTurn_62 : decode cX9_mayTurn 62 = .ok (.aload_n 0, 1) := by decide +kernel
theorem dX9_mayTurn_63 : decode cX9_mayTurn 63 = .ok (.getfield 37, 3) := by decide +kernel
theorem dX9_mayTurn_66 : decode cX9_mayTurn 66 = .ok (.iload_n 1, 1) := by decide +kernel
theorem dX9_mayTurn_67 : decode cX9_mayTurn 67 = .ok (.iaload, 1) := by decide +kernel
theorem dX9_mayTurn_68 : decode cX9_mayTurn 68 = .ok (.invokevirtual 161, 3) := by decide +kernel
theorem dX9_mayTurn_71 : decode cX9_mayTurn 71 = .ok (.iload 4, 2) := by decide +kernel
theorem dX9_mayTurn_73 : decode cX9_mayTurn 73 = .ok (.isub, 1) := by decide +kernel
theorem dX9_mayTurn_74 : decode cX9_mayTurn 74 = .ok (.putfield 191, 3) := by decide +kernel
theorem dX9_mayTurn_77 : decode cX9_mayTurn 77 = .ok (.aload_n 0, 1) := by decide +kernel
theorem dX9_mayTurn_78 : decode cX9_mayTurn 78 = .ok (.getfield 188, 3) := by decide +kernel
theorem dX9_mayTurn_81 : decode cX9_mayTurn 81 = .ok (.invokestatic 194, 3) := by decide +kernel
theorem dX9_mayTurn_84 : decode cX9_mayTurn 84 = .ok (.aload_n 0, 1) := by decide +kernel
theorem dX9_mayTurn_85 : decode cX9_mayTurn 85 = .ok (.getfield 191, 3) := by decide +kernel
theorem dX9_mayTurn_88 : decode cX9_mayTurn 88 = .ok (.invokestatic 194, 3) := by decide +kernel
theorem dX9_mayTurn_91 : decode cX9_mayTurn 91 = .ok (.if_icmp .le 13, 3) := by decide +kernel
theorem dX9_mayTurn_94 : decode cX9_mayTurn 94 = .ok (.aload_n 0, 1) := by decide +kernel
theorem dX9_mayTurn_95 : decode cX9_mayTurn 95 = .ok (.getfield 188, 3) := by decide +kernel
theorem dX9_mayTurn_98 : decode cX9_mayTurn 98 = .ok (.invokestatic 194, 3) := by decide +kernel
theorem dX9_mayTurn_101 : decode cX9_mayTurn 101 = .ok (.goto 10, 3) := by decide +kernel
theorem dX9_mayTurn_104 : decode cX9_mayTurn 104 = .ok (.aload_n 0, 1) := by decide +kernel
theorem dX9_mayTurn_105 : decode cX9_mayTurn 105 = .ok (.getfield 191, 3) := by decide +kernel
theorem dX9_mayTurn_108 : decode cX9_mayTurn 108 = .ok (.invokestatic 194, 3) := by decide +kernel
theorem dX9_mayTurn_111 : decode cX9_mayTurn 111 = .ok (.istore 6, 2) := by decide +kernel
theorem dX9_mayTurn_113 : decode cX9_mayTurn 113 = .ok (.iconst 0, 1) := by decide +kernel
theorem dX9_mayTurn_114 : decode cX9_mayTurn 114 = .ok (.istore 7, 2) := by decide +kernel
theorem dX9_mayTurn_116 : decode cX9_mayTurn 116 = .ok (.iload 7, 2) := by decide +kernel
theorem dX9_mayTurn_118 : decode cX9_mayTurn 118 = .ok (.iconst 2, 1) := by decide +kernel
theorem dX9_mayTurn_119 : decode cX9_mayTurn 119 = .ok (.iload 6, 2) := by decide +kernel
theorem dX9_mayTurn_121 : decode cX9_mayTurn 121 = .ok (.imul, 1) := by decide +kernel
theorem dX9_mayTurn_122 : decode cX9_mayTurn 122 = .ok (.if_icmp .ge 96, 3) := by decide +kernel
theorem dX9_mayTurn_125 : decode cX9_mayTurn 125 = .ok (.aload_n 0, 1) := by decide +kernel
theorem dX9_mayTurn_126 : decode cX9_mayTurn 126 = .ok (.iload 6, 2) := by decide +kernel
theorem dX9_mayTurn_128 : decode cX9_mayTurn 128 = .ok (.iload_n 2, 1) := by decide +kernel
theorem dX9_mayTurn_129 : decode cX9_mayTurn 129 = .ok (.invokevirtual 197, 3) := by decide +kernel
theorem dX9_mayTurn_132 : decode cX9_mayTurn 132 = .ok (.iload_n 3, 1) := by decide +kernel
theorem dX9_mayTurn_133 : decode cX9_mayTurn 133 = .ok (.aload_n 0, 1) := by decide +kernel
theorem dX9_mayTurn_134 : decode cX9_mayTurn 134 = .ok (.getfield 188, 3) := by decide +kernel
theorem dX9_mayTurn_137 : decode cX9_mayTurn 137 = .ok (.iadd, 1) := by decide +kernel
theorem dX9_mayTurn_138 : decode cX9_mayTurn 138 = .ok (.istore 8, 2) := by decide +kernel
theorem dX9_mayTurn_140 : decode cX9_mayTurn 140 = .ok (.iload 4, 2) := by decide +kernel
theorem dX9_mayTurn_142 : decode cX9_mayTurn 142 = .ok (.aload_n 0, 1) := by decide +kernel
theorem dX9_mayTurn_143 : decode cX9_mayTurn 143 = .ok (.getfield 191, 3) := by decide +kernel
theorem dX9_mayTurn_146 : decode cX9_mayTurn 146 = .ok (.iadd, 1) := by decide +kernel
theorem dX9_mayTurn_147 : decode cX9_mayTurn 147 = .ok (.istore 9, 2) := by decide +kernel
theorem dX9_mayTurn_149 : decode cX9_mayTurn 149 = .ok (.aload_n 0, 1) := by decide +kernel
theorem dX9_mayTurn_150 : decode cX9_mayTurn 150 = .ok (.iload_n 1, 1) := by decide +kernel
theorem dX9_mayTurn_151 : decode cX9_mayTurn 151 = .ok (.iload 8, 2) := by decide +kernel
theorem dX9_mayTurn_153 : decode cX9_mayTurn 153 = .ok (.iload 9, 2) := by decide +kernel
theorem dX9_mayTurn_155 : decode cX9_mayTurn 155 = .ok (.invokevirtual 185, 3) := by decide +kernel
theorem dX9_mayTurn_158 : decode cX9_mayTurn 158 = .ok (.ifCond .eq 52, 3) := by decide +kernel
theorem dX9_mayTurn_161 : decode cX9_mayTurn 161 = .ok (.aload_n 0, 1) := by decide +kernel
theorem dX9_mayTurn_162 : decode cX9_mayTurn 162 = .ok (.iload 8, 2) := by decide +kernel
theorem dX9_mayTurn_164 : decode cX9_mayTurn 164 = .ok (.iload 9, 2) := by decide +kernel
theorem dX9_mayTurn_166 : decode cX9_mayTurn 166 = .ok (.invokevirtual 171, 3) := by decide +kernel
theorem dX9_mayTurn_169 : decode cX9_mayTurn 169 = .ok (.iconst 2, 1) := by decide +kernel
theorem dX9_mayTurn_170 : decode cX9_mayTurn 170 = .ok (.iconst 5, 1) := by decide +kernel
theorem dX9_mayTurn_171 : decode cX9_mayTurn 171 = .ok (.invokestatic 119, 3) := by decide +kernel
theorem dX9_mayTurn_174 : decode cX9_mayTurn 174 = .ok (.ifCond .ne 36, 3) := by decide +kernel
theorem dX9_mayTurn_177 : decode cX9_mayTurn 177 = .ok (.aload_n 0, 1) := by decide +kernel
theorem dX9_mayTurn_178 : decode cX9_mayTurn 178 = .ok (.getfield 65, 3) := by decide +kernel
theorem dX9_mayTurn_181 : decode cX9_mayTurn 181 = .ok (.bipush 8, 2) := by decide +kernel
theorem dX9_mayTurn_183 : decode cX9_mayTurn 183 = .ok (.iload 9, 2) := by decide +kernel
theorem dX9_mayTurn_185 : decode cX9_mayTurn 185 = .ok (.imul, 1) := by decide +kernel
theorem dX9_mayTurn_186 : decode cX9_mayTurn 186 = .ok (.iload 8, 2) := by decide +kernel
theorem dX9_mayTurn_188 : decode cX9_mayTurn 188 = .ok (.iadd, 1) := by decide +kernel
theorem dX9_mayTurn_189 : decode cX9_mayTurn 189 = .ok (.iaload, 1) := by decide +kernel
theorem dX9_mayTurn_190 : decode cX9_mayTurn 190 = .ok (.ifCond .lt 22, 3) := by decide +kernel
theorem dX9_mayTurn_193 : decode cX9_mayTurn 193 = .ok (.aload_n 0, 1) := by decide +kernel
theorem dX9_mayTurn_194 : decode cX9_mayTurn 194 = .ok (.getfield 65, 3) := by decide +kernel
theorem dX9_mayTurn_197 : decode cX9_mayTurn 197 = .ok (.bipush 8, 2) := by decide +kernel
theorem dX9_mayTurn_199 : decode cX9_mayTurn 199 = .ok (.iload 9, 2) := by decide +kernel
theorem dX9_mayTurn_201 : decode cX9_mayTurn 201 = .ok (.imul, 1) := by decide +kernel
theorem dX9_mayTurn_202 : decode cX9_mayTurn 202 = .ok (.iload 8, 2) := by decide +kernel
theorem dX9_mayTurn_204 : decode cX9_mayTurn 204 = .ok (.iadd, 1) := by decide +kernel
theorem dX9_mayTurn_205 : decode cX9_mayTurn 205 = .ok (.iaload, 1) := by decide +kernel
theorem dX9_mayTurn_206 : decode cX9_mayTurn 206 = .ok (.iload_n 1, 1) := by decide +kernel
theorem dX9_mayTurn_207 : decode cX9_mayTurn 207 = .ok (.if_icmp .eq 5, 3) := by decide +kernel
theorem dX9_mayTurn_210 : decode cX9_mayTurn 210 = .ok (.iconst 0, 1) := by decide +kernel
theorem dX9_mayTurn_211 : decode cX9_mayTurn 211 = .ok (.ireturn, 1) := by decide +kernel
theorem dX9_mayTurn_212 : decode cX9_mayTurn 212 = .ok (.iinc 7 1, 3) := by decide +kernel
theorem dX9_mayTurn_215 : decode cX9_mayTurn 215 = .ok (.goto (-99), 3) := by decide +kernel
theorem dX9_mayTurn_218 : decode cX9_mayTurn 218 = .ok (.iinc 5 1, 3) := by decide +kernel
theorem dX9_mayTurn_221 : decode cX9_mayTurn 221 = .ok (.goto (-194), 3) := by decide +kernel
theorem dX9_mayTurn_224 : decode cX9_mayTurn 224 = .ok (.iconst 1, 1) := by decide +kernel
theorem dX9_mayTurn_225 : decode cX9_mayTurn 225 = .ok (.ireturn, 1) := by decide +kernel
theorem dX9_movedBy_0 : decode cX9_movedBy 0 = .ok (.aload_n 0, 1) := by decide +kernel
theorem dX9_movedBy_1 : decode cX9_movedBy 1 = .ok (.invokevirtual 201, 3) := by decide +kernel
theorem dX9_movedBy_4 : decode cX9_movedBy 4 = .ok (.iload_n 2, 1) := by decide +kernel
theorem dX9_movedBy_5 : decode cX9_movedBy 5 = .ok (.iconst 4, 1) := by decide +kernel
theorem dX9_movedBy_6 : decode cX9_movedBy 6 = .ok (.if_icmp .ge 12, 3) := by decide +kernel
theorem dX9_movedBy_9 : decode cX9_movedBy 9 = .ok (.aload_n 0, 1) := by decide +kernel
theorem dX9_movedBy_10 : decode cX9_movedBy 10 = .ok (.iload_n 1, 1) := by decide +kernel
theorem dX9_movedBy_11 : decode cX9_movedBy 11 = .ok (.iload_n 2, 1) := by decide +kernel
theorem dX9_movedBy_12 : decode cX9_movedBy 12 = .ok (.invokevirtual 204, 3) := by decide +kernel
theorem dX9_movedBy_15 : decode cX9_movedBy 15 = .ok (.goto 28, 3) := by decide +kernel
theorem dX9_movedBy_18 : decode cX9_movedBy 18 = .ok (.aload_n 0, 1) := by decide +kernel
theorem dX9_movedBy_19 : decode cX9_movedBy 19 = .ok (.iload_n 1, 1) := by decide +kernel
theorem dX9_movedBy_20 : decode cX9_movedBy 20 = .ok (.iload_n 2, 1) := by decide +kernel
theorem dX9_movedBy_21 : decode cX9_movedBy 21 = .ok (.iconst 4, 1) := by decide +kernel
theorem dX9_movedBy_22 : decode cX9_movedBy 22 = .ok (.if_icmp .ne 7, 3) := by decide +kernel
theorem dX9_movedBy_25 : decode cX9_movedBy 25 = .ok (.iconst 1, 1) := by decide +kernel
theorem dX9_movedBy_26 : decode cX9_movedBy 26 = .ok (.goto 4, 3) := by decide +kernel
theorem dX9_movedBy_29 : decode cX9_movedBy 29 = .ok (.iconst 0, 1) := by decide +kernel
theorem dX9_movedBy_30 : decode cX9_movedBy 30 = .ok (.invokevirtual 207, 3) := by decide +kernel
theorem dX9_movedBy_33 : decode cX9_movedBy 33 = .ok (.ifCond .eq 9, 3) := by decide +kernel
theorem dX9_movedBy_36 : decode cX9_movedBy 36 = .ok (.iconst 1, 1) := by decide +kernel
theorem dX9_movedBy_37 : decode cX9_movedBy 37 = .ok (.iload_n 1, 1) := by decide +kernel
theorem dX9_movedBy_38 : decode cX9_movedBy 38 = .ok (.ishl, 1) := by decide +kernel
theorem dX9_movedBy_39 : decode cX9_movedBy 39 = .ok (.goto 4, 3) := by decide +kernel
theorem dX9_movedBy_42 : decode cX9_movedBy 42 = .ok (.iconst 0, 1) := by decide +kernel
theorem dX9_movedBy_43 : decode cX9_movedBy 43 = .ok (.ireturn, 1) := by decide +kernel
theorem dX9_placeBehind_0 : decode cX9_placeBehind 0 = .ok (.iload_n 1, 1) := by decide +kernel
theorem dX9_placeBehind_1 : decode cX9_placeBehind 1 = .ok (.iconst 4, 1) := by decide +kernel
theorem dX9_placeBehind_2 : decode cX9_placeBehind 2 = .ok (.if_icmp .ge 20, 3) := by decide +kernel
theorem dX9_placeBehind_5 : decode cX9_placeBehind 5 = .ok (.iload_n 0, 1) := by decide +kernel
theorem dX9_placeBehind_6 : decode cX9_placeBehind 6 = .ok (.iload_n 1, 1) := by decide +kernel
theorem dX9_placeBehind_7 : decode cX9_placeBehind 7 = .ok (.invokestatic 175, 3) := by decide +kernel
theorem dX9_placeBehind_10 : decode cX9_placeBehind 10 = .ok (.iadd, 1) := by decide +kernel
theorem dX9_placeBehind_11 : decode cX9_placeBehind 11 = .ok (.bipush 8, 2) := by decide +kernel
theorem dX9_placeBehind_13 : decode cX9_placeBehind 13 = .ok (.iload_n 1, 1) := by decide +kernel
theorem dX9_placeBehind_14 : decode cX9_placeBehind 14 = .ok (.invokestatic 179, 3) := by decide +kernel
theorem dX9_placeBehind_17 : decode cX9_placeBehind 17 = .ok (.imul, 1) := by decide +kernel
theorem dX9_placeBehind_18 : decode cX9_placeBehind 18 = .ok (.iadd, 1) := by decide +kernel
theorem dX9_placeBehind_19 : decode cX9_placeBehind 19 = .ok (.goto 22, 3) := by decide +kernel
theorem dX9_placeBehind_22 : decode cX9_placeBehind 22 = .ok (.iload_n 0, 1) := by decide +kernel
theorem dX9_placeBehind_23 : decode cX9_placeBehind 23 = .ok (.iload_n 1, 1) := by decide +kernel
theorem dX9_placeBehind_24 : decode cX9_placeBehind 24 = .ok (.iconst 4, 1) := by decide +kernel
theorem dX9_placeBehind_25 : decode cX9_placeBehind 25 = .ok (.if_icmp .ne 8, 3) := by decide +kernel
theorem dX9_placeBehind_28 : decode cX9_placeBehind 28 = .ok (.bipush 64, 2) := by decide +kernel
theorem dX9_placeBehind_30 : decode cX9_placeBehind 30 = .ok (.goto 6, 3) := by decide +kernel
theorem dX9_placeBehind_33 : decode cX9_placeBehind 33 = .ok (.sipush 192, 3) := by decide +kernel
theorem dX9_placeBehind_36 : decode cX9_placeBehind 36 = .ok (.iadd, 1) := by decide +kernel
theorem dX9_placeBehind_37 : decode cX9_placeBehind 37 = .ok (.sipush 256, 3) := by decide +kernel
theorem dX9_placeBehind_40 : decode cX9_placeBehind 40 = .ok (.irem, 1) := by decide +kernel
theorem dX9_placeBehind_41 : decode cX9_placeBehind 41 = .ok (.ireturn, 1) := by decide +kernel
theorem dX9_carryOut_0 : decode cX9_carryOut 0 = .ok (.iconst 0, 1) := by decide +kernel
theorem dX9_carryOut_1 : decode cX9_carryOut 1 = .ok (.istore_n 3, 1) := by decide +kernel
theorem dX9_carryOut_2 : decode cX9_carryOut 2 = .ok (.iload_n 3, 1) := by decide +kernel
theorem dX9_carryOut_3 : decode cX9_carryOut 3 = .ok (.iconst 5, 1) := by decide +kernel
theorem dX9_carryOut_4 : decode cX9_carryOut 4 = .ok (.if_icmp .ge 43, 3) := by decide +kernel
theorem dX9_carryOut_7 : decode cX9_carryOut 7 = .ok (.aload_n 0, 1) := by decide +kernel
theorem dX9_carryOut_8 : decode cX9_carryOut 8 = .ok (.getfield 37, 3) := by decide +kernel
theorem dX9_carryOut_11 : decode cX9_carryOut 11 = .ok (.iload_n 3, 1) := by decide +kernel
theorem dX9_carryOut_12 : decode cX9_carryOut 12 = .ok (.iload_n 1, 1) := by decide +kernel
theorem dX9_carryOut_13 : decode cX9_carryOut 13 = .ok (.iload_n 3, 1) := by decide +kernel
theorem dX9_carryOut_14 : decode cX9_carryOut 14 = .ok (.ishr, 1) := by decide +kernel
theorem dX9_carryOut_15 : decode cX9_carryOut 15 = .ok (.iconst 1, 1) := by decide +kernel
theorem dX9_carryOut_16 : decode cX9_carryOut 16 = .ok (.iand, 1) := by decide +kernel
theorem dX9_carryOut_17 : decode cX9_carryOut 17 = .ok (.iconst 1, 1) := by decide +kernel
theorem dX9_carryOut_18 : decode cX9_carryOut 18 = .ok (.if_icmp .ne 16, 3) := by decide +kernel
theorem dX9_carryOut_21 : decode cX9_carryOut 21 = .ok (.aload_n 0, 1) := by decide +kernel
theorem dX9_carryOut_22 : decode cX9_carryOut 22 = .ok (.getfield 37, 3) := by decide +kernel
theorem dX9_carryOut_25 : decode cX9_carryOut 25 = .ok (.iload_n 3, 1) := by decide +kernel
theorem dX9_carryOut_26 : decode cX9_carryOut 26 = .ok (.iaload, 1) := by decide +kernel
theorem dX9_carryOut_27 : decode cX9_carryOut 27 = .ok (.iload_n 2, 1) := by decide +kernel
theorem dX9_carryOut_28 : decode cX9_carryOut 28 = .ok (.invokestatic 211, 3) := by decide +kernel
theorem dX9_carryOut_31 : decode cX9_carryOut 31 = .ok (.goto 9, 3) := by decide +kernel
theorem dX9_carryOut_34 : decode cX9_carryOut 34 = .ok (.aload_n 0, 1) := by decide +kernel
theorem dX9_carryOut_35 : decode cX9_carryOut 35 = .ok (.getfield 37, 3) := by decide +kernel
theorem dX9_carryOut_38 : decode cX9_carryOut 38 = .ok (.iload_n 3, 1) := by decide +kernel
theorem dX9_carryOut_39 : decode cX9_carryOut 39 = .ok (.iaload, 1) := by decide +kernel
theorem dX9_carryOut_40 : decode cX9_carryOut 40 = .ok (.iastore, 1) := by decide +kernel
theorem dX9_carryOut_41 : decode cX9_carryOut 41 = .ok (.iinc 3 1, 3) := by decide +kernel
theorem dX9_carryOut_44 : decode cX9_carryOut 44 = .ok (.goto (-42), 3) := by decide +kernel
theorem dX9_carryOut_47 : decode cX9_carryOut 47 = .ok (.return_, 1) := by decide +kernel
theorem dX9_weightBy_0 : decode cX9_weightBy 0 = .ok (.iconst 0, 1) := by decide +kernel
theorem dX9_weightBy_1 : decode cX9_weightBy 1 = .ok (.istore_n 2, 1) := by decide +kernel
theorem dX9_weightBy_2 : decode cX9_weightBy 2 = .ok (.iconst 0, 1) := by decide +kernel
theorem dX9_weightBy_3 : decode cX9_weightBy 3 = .ok (.istore_n 3, 1) := by decide +kernel
theorem dX9_weightBy_4 : decode cX9_weightBy 4 = .ok (.iload_n 3, 1) := by decide +kernel
theorem dX9_weightBy_5 : decode cX9_weightBy 5 = .ok (.iconst 5, 1) := by decide +kernel
theorem dX9_weightBy_6 : decode cX9_weightBy 6 = .ok (.if_icmp .ge 24, 3) := by decide +kernel
theorem dX9_weightBy_9 : decode cX9_weightBy 9 = .ok (.iload_n 2, 1) := by decide +kernel
theorem dX9_weightBy_10 : decode cX9_weightBy 10 = .ok (.iload_n 1, 1) := by decide +kernel
theorem dX9_weightBy_11 : decode cX9_weightBy 11 = .ok (.iload_n 3, 1) := by decide +kernel
theorem dX9_weightBy_12 : decode cX9_weightBy 12 = .ok (.ishr, 1) := by decide +kernel
theorem dX9_weightBy_13 : decode cX9_weightBy 13 = .ok (.iconst 1, 1) := by decide +kernel
theorem dX9_weightBy_14 : decode cX9_weightBy 14 = .ok (.iand, 1) := by decide +kernel
theorem dX9_weightBy_15 : decode cX9_weightBy 15 = .ok (.aload_n 0, 1) := by decide +kernel
theorem dX9_weightBy_16 : decode cX9_weightBy 16 = .ok (.getfield 25, 3) := by decide +kernel
theorem dX9_weightBy_19 : decode cX9_weightBy 19 = .ok (.iload_n 3, 1) := by decide +kernel
theorem dX9_weightBy_20 : decode cX9_weightBy 20 = .ok (.iaload, 1) := by decide +kernel
theorem dX9_weightBy_21 : decode cX9_weightBy 21 = .ok (.imul, 1) := by decide +kernel
theorem dX9_weightBy_22 : decode cX9_weightBy 22 = .ok (.iadd, 1) := by decide +kernel
theorem dX9_weightBy_23 : decode cX9_weightBy 23 = .ok (.istore_n 2, 1) := by decide +kernel
theorem dX9_weightBy_24 : decode cX9_weightBy 24 = .ok (.iinc 3 1, 3) := by decide +kernel
theorem dX9_weightBy_27 : decode cX9_weightBy 27 = .ok (.goto (-23), 3) := by decide +kernel
theorem dX9_weightBy_30 : decode cX9_weightBy 30 = .ok (.iload_n 2, 1) := by decide +kernel
theorem dX9_weightBy_31 : decode cX9_weightBy 31 = .ok (.ireturn, 1) := by decide +kernel
theorem dX9_makes_0 : decode cX9_makes 0 = .ok (.aload_n 0, 1) := by decide +kernel
theorem dX9_makes_1 : decode cX9_makes 1 = .ok (.getfield 71, 3) := by decide +kernel
theorem dX9_makes_4 : decode cX9_makes 4 = .ok (.aload_n 0, 1) := by decide +kernel
theorem dX9_makes_5 : decode cX9_makes 5 = .ok (.getfield 153, 3) := by decide +kernel
theorem dX9_makes_8 : decode cX9_makes 8 = .ok (.bipush 10, 2) := by decide +kernel
theorem dX9_makes_10 : decode cX9_makes 10 = .ok (.iload_n 1, 1) := by decide +kernel
theorem dX9_makes_11 : decode cX9_makes 11 = .ok (.imul, 1) := by decide +kernel
theorem dX9_makes_12 : decode cX9_makes 12 = .ok (.iload_n 2, 1) := by decide +kernel
theorem dX9_makes_13 : decode cX9_makes 13 = .ok (.iadd, 1) := by decide +kernel
theorem dX9_makes_14 : decode cX9_makes 14 = .ok (.iastore, 1) := by decide +kernel
theorem dX9_makes_15 : decode cX9_makes 15 = .ok (.aload_n 0, 1) := by decide +kernel
theorem dX9_makes_16 : decode cX9_makes 16 = .ok (.getfield 74, 3) := by decide +kernel
theorem dX9_makes_19 : decode cX9_makes 19 = .ok (.aload_n 0, 1) := by decide +kernel
theorem dX9_makes_20 : decode cX9_makes 20 = .ok (.getfield 153, 3) := by decide +kernel
theorem dX9_makes_23 : decode cX9_makes 23 = .ok (.aload_n 0, 1) := by decide +kernel
theorem dX9_makes_24 : decode cX9_makes 24 = .ok (.iload_n 3, 1) := by decide +kernel
theorem dX9_makes_25 : decode cX9_makes 25 = .ok (.invokevirtual 214, 3) := by decide +kernel
theorem dX9_makes_28 : decode cX9_makes 28 = .ok (.iastore, 1) := by decide +kernel
theorem dX9_makes_29 : decode cX9_makes 29 = .ok (.aload_n 0, 1) := by decide +kernel
theorem dX9_makes_30 : decode cX9_makes 30 = .ok (.getfield 77, 3) := by decide +kernel
theorem dX9_makes_33 : decode cX9_makes 33 = .ok (.aload_n 0, 1) := by decide +kernel
theorem dX9_makes_34 : decode cX9_makes 34 = .ok (.getfield 153, 3) := by decide +kernel
theorem dX9_makes_37 : decode cX9_makes 37 = .ok (.aload_n 0, 1) := by decide +kernel
theorem dX9_makes_38 : decode cX9_makes 38 = .ok (.invokevirtual 217, 3) := by decide +kernel
theorem dX9_makes_41 : decode cX9_makes 41 = .ok (.lastore, 1) := by decide +kernel
theorem dX9_makes_42 : decode cX9_makes 42 = .ok (.aload_n 0, 1) := by decide +kernel
theorem dX9_makes_43 : decode cX9_makes 43 = .ok (.iload_n 3, 1) := by decide +kernel
theorem dX9_makes_44 : decode cX9_makes 44 = .ok (.iload_n 2, 1) := by decide +kernel
theorem dX9_makes_45 : decode cX9_makes 45 = .ok (.invokevirtual 221, 3) := by decide +kernel
theorem dX9_makes_48 : decode cX9_makes 48 = .ok (.aload_n 0, 1) := by decide +kernel
theorem dX9_makes_49 : decode cX9_makes 49 = .ok (.getfield 81, 3) := by decide +kernel
theorem dX9_makes_52 : decode cX9_makes 52 = .ok (.aload_n 0, 1) := by decide +kernel
theorem dX9_makes_53 : decode cX9_makes 53 = .ok (.getfield 153, 3) := by decide +kernel
theorem dX9_makes_56 : decode cX9_makes 56 = .ok (.aload_n 0, 1) := by decide +kernel
theorem dX9_makes_57 : decode cX9_makes 57 = .ok (.invokevirtual 217, 3) := by decide +kernel
theorem dX9_makes_60 : decode cX9_makes 60 = .ok (.lastore, 1) := by decide +kernel
theorem dX9_makes_61 : decode cX9_makes 61 = .ok (.aload_n 0, 1) := by decide +kernel
theorem dX9_makes_62 : decode cX9_makes 62 = .ok (.dup, 1) := by decide +kernel
theorem dX9_makes_63 : decode cX9_makes 63 = .ok (.getfield 153, 3) := by decide +kernel
theorem dX9_makes_66 : decode cX9_makes 66 = .ok (.iconst 1, 1) := by decide +kernel
theorem dX9_makes_67 : decode cX9_makes 67 = .ok (.iadd, 1) := by decide +kernel
theorem dX9_makes_68 : decode cX9_makes 68 = .ok (.putfield 153, 3) := by decide +kernel
theorem dX9_makes_71 : decode cX9_makes 71 = .ok (.aload_n 0, 1) := by decide +kernel
theorem dX9_makes_72 : decode cX9_makes 72 = .ok (.aload_n 0, 1) := by decide +kernel
theorem dX9_makes_73 : decode cX9_makes 73 = .ok (.getfield 153, 3) := by decide +kernel
theorem dX9_makes_76 : decode cX9_makes 76 = .ok (.putfield 156, 3) := by decide +kernel
theorem dX9_makes_79 : decode cX9_makes 79 = .ok (.return_, 1) := by decide +kernel
theorem dX9_moveBarred_0 : decode cX9_moveBarred 0 = .ok (.aload_n 0, 1) := by decide +kernel
theorem dX9_moveBarred_1 : decode cX9_moveBarred 1 = .ok (.iload_n 1, 1) := by decide +kernel
theorem dX9_moveBarred_2 : decode cX9_moveBarred 2 = .ok (.invokevirtual 225, 3) := by decide +kernel
theorem dX9_moveBarred_5 : decode cX9_moveBarred 5 = .ok (.ifCond .eq 7, 3) := by decide +kernel
theorem dX9_moveBarred_8 : decode cX9_moveBarred 8 = .ok (.iconst (-1), 1) := by decide +kernel
theorem dX9_moveBarred_9 : decode cX9_moveBarred 9 = .ok (.goto 18, 3) := by decide +kernel
theorem dX9_moveBarred_12 : decode cX9_moveBarred 12 = .ok (.iload_n 2, 1) := by decide +kernel
theorem dX9_moveBarred_13 : decode cX9_moveBarred 13 = .ok (.iconst 0, 1) := by decide +kernel
theorem dX9_moveBarred_14 : decode cX9_moveBarred 14 = .ok (.iconst 5, 1) := by decide +kernel
theorem dX9_moveBarred_15 : decode cX9_moveBarred 15 = .ok (.invokestatic 119, 3) := by decide +kernel
theorem dX9_moveBarred_18 : decode cX9_moveBarred 18 = .ok (.ifCond .eq 7, 3) := by decide +kernel
theorem dX9_moveBarred_21 : decode cX9_moveBarred 21 = .ok (.iconst 0, 1) := by decide +kernel
theorem dX9_moveBarred_22 : decode cX9_moveBarred 22 = .ok (.goto 5, 3) := by decide +kernel
theorem dX9_moveBarred_25 : decode cX9_moveBarred 25 = .ok (.bipush (-3), 2) := by decide +kernel
theorem dX9_moveBarred_27 : decode cX9_moveBarred 27 = .ok (.ireturn, 1) := by decide +kernel
theorem dX9_moved_0 : decode cX9_moved 0 = .ok (.aload_n 0, 1) := by decide +kernel
theorem dX9_moved_1 : decode cX9_moved 1 = .ok (.iload_n 1, 1) := by decide +kernel
theorem dX9_moved_2 : decode cX9_moved 2 = .ok (.iload_n 2, 1) := by decide +kernel
theorem dX9_moved_3 : decode cX9_moved 3 = .ok (.invokevirtual 229, 3) := by decide +kernel
theorem dX9_moved_6 : decode cX9_moved 6 = .ok (.istore_n 3, 1) := by decide +kernel
theorem dX9_moved_7 : decode cX9_moved 7 = .ok (.iload_n 3, 1) := by decide +kernel
theorem dX9_moved_8 : decode cX9_moved 8 = .ok (.ifCond .ge 5, 3) := by decide +kernel
theorem dX9_moved_11 : decode cX9_moved 11 = .ok (.iload_n 3, 1) := by decide +kernel
theorem dX9_moved_12 : decode cX9_moved 12 = .ok (.ireturn, 1) := by decide +kernel
theorem dX9_moved_13 : decode cX9_moved 13 = .ok (.aload_n 0, 1) := by decide +kernel
theorem dX9_moved_14 : decode cX9_moved 14 = .ok (.iload_n 1, 1) := by decide +kernel
theorem dX9_moved_15 : decode cX9_moved 15 = .ok (.iload_n 2, 1) := by decide +kernel
theorem dX9_moved_16 : decode cX9_moved 16 = .ok (.invokevirtual 232, 3) := by decide +kernel
theorem dX9_moved_19 : decode cX9_moved 19 = .ok (.istore 4, 2) := by decide +kernel
theorem dX9_moved_21 : decode cX9_moved 21 = .ok (.iload 4, 2) := by decide +kernel
theorem dX9_moved_23 : decode cX9_moved 23 = .ok (.ifCond .ne 8, 3) := by decide +kernel
theorem dX9_moved_26 : decode cX9_moved 26 = .ok (.bipush (-4), 2) := by decide +kernel
theorem dX9_moved_28 : decode cX9_moved 28 = .ok (.goto 5, 3) := by decide +kernel
theorem dX9_moved_31 : decode cX9_moved 31 = .ok (.iload 4, 2) := by decide +kernel
theorem dX9_moved_33 : decode cX9_moved 33 = .ok (.ireturn, 1) := by decide +kernel
theorem dX9_move_0 : decode cX9_move 0 = .ok (.aload_n 0, 1) := by decide +kernel
theorem dX9_move_1 : decode cX9_move 1 = .ok (.iload_n 1, 1) := by decide +kernel
theorem dX9_move_2 : decode cX9_move 2 = .ok (.iload_n 2, 1) := by decide +kernel
theorem dX9_move_3 : decode cX9_move 3 = .ok (.invokevirtual 229, 3) := by decide +kernel
theorem dX9_move_6 : decode cX9_move 6 = .ok (.istore_n 3, 1) := by decide +kernel
theorem dX9_move_7 : decode cX9_move 7 = .ok (.iload_n 3, 1) := by decide +kernel
theorem dX9_move_8 : decode cX9_move 8 = .ok (.ifCond .ge 5, 3) := by decide +kernel
theorem dX9_move_11 : decode cX9_move 11 = .ok (.iload_n 3, 1) := by decide +kernel
theorem dX9_move_12 : decode cX9_move 12 = .ok (.ireturn, 1) := by decide +kernel
theorem dX9_move_13 : decode cX9_move 13 = .ok (.aload_n 0, 1) := by decide +kernel
theorem dX9_move_14 : decode cX9_move 14 = .ok (.iload_n 1, 1) := by decide +kernel
theorem dX9_move_15 : decode cX9_move 15 = .ok (.iload_n 2, 1) := by decide +kernel
theorem dX9_move_16 : decode cX9_move 16 = .ok (.invokevirtual 232, 3) := by decide +kernel
theorem dX9_move_19 : decode cX9_move 19 = .ok (.istore 4, 2) := by decide +kernel
theorem dX9_move_21 : decode cX9_move 21 = .ok (.iload 4, 2) := by decide +kernel
theorem dX9_move_23 : decode cX9_move 23 = .ok (.ifCond .ne 6, 3) := by decide +kernel
theorem dX9_move_26 : decode cX9_move 26 = .ok (.bipush (-4), 2) := by decide +kernel
theorem dX9_move_28 : decode cX9_move 28 = .ok (.ireturn, 1) := by decide +kernel
theorem dX9_move_29 : decode cX9_move 29 = .ok (.aload_n 0, 1) := by decide +kernel
theorem dX9_move_30 : decode cX9_move 30 = .ok (.getfield 153, 3) := by decide +kernel
theorem dX9_move_33 : decode cX9_move 33 = .ok (.sipush 200, 3) := by decide +kernel
theorem dX9_move_36 : decode cX9_move 36 = .ok (.if_icmp .ne 6, 3) := by decide +kernel
theorem dX9_move_39 : decode cX9_move 39 = .ok (.bipush (-5), 2) := by decide +kernel
theorem dX9_move_41 : decode cX9_move 41 = .ok (.ireturn, 1) := by decide +kernel
theorem dX9_move_42 : decode cX9_move 42 = .ok (.aload_n 0, 1) := by decide +kernel
theorem dX9_move_43 : decode cX9_move 43 = .ok (.iload_n 1, 1) := by decide +kernel
theorem dX9_move_44 : decode cX9_move 44 = .ok (.iload_n 2, 1) := by decide +kernel
theorem dX9_move_45 : decode cX9_move 45 = .ok (.iload 4, 2) := by decide +kernel
theorem dX9_move_47 : decode cX9_move 47 = .ok (.invokevirtual 235, 3) := by decide +kernel
theorem dX9_move_50 : decode cX9_move 50 = .ok (.aload_n 0, 1) := by decide +kernel
theorem dX9_move_51 : decode cX9_move 51 = .ok (.getfield 153, 3) := by decide +kernel
theorem dX9_move_54 : decode cX9_move 54 = .ok (.ireturn, 1) := by decide +kernel
theorem dX9_possibleAt_0 : decode cX9_possibleAt 0 = .ok (.iconst 0, 1) := by decide +kernel
theorem dX9_possibleAt_1 : decode cX9_possibleAt 1 = .ok (.istore_n 2, 1) := by decide +kernel
theorem dX9_possibleAt_2 : decode cX9_possibleAt 2 = .ok (.iconst 0, 1) := by decide +kernel
theorem dX9_possibleAt_3 : decode cX9_possibleAt 3 = .ok (.istore_n 3, 1) := by decide +kernel
theorem dX9_possibleAt_4 : decode cX9_possibleAt 4 = .ok (.iload_n 3, 1) := by decide +kernel
theorem dX9_possibleAt_5 : decode cX9_possibleAt 5 = .ok (.iconst 5, 1) := by decide +kernel
theorem dX9_possibleAt_6 : decode cX9_possibleAt 6 = .ok (.if_icmp .ge 60, 3) := by decide +kernel
theorem dX9_possibleAt_9 : decode cX9_possibleAt 9 = .ok (.iconst 0, 1) := by decide +kernel
theorem dX9_possibleAt_10 : decode cX9_possibleAt 10 = .ok (.istore 4, 2) := by decide +kernel
theorem dX9_possibleAt_12 : decode cX9_possibleAt 12 = .ok (.iload 4, 2) := by decide +kernel
theorem dX9_possibleAt_14 : decode cX9_possibleAt 14 = .ok (.bipush 6, 2) := by decide +kernel
theorem dX9_possibleAt_16 : decode cX9_possibleAt 16 = .ok (.if_icmp .ge 44, 3) := by decide +kernel
theorem dX9_possibleAt_19 : decode cX9_possibleAt 19 = .ok (.aload_n 0, 1) := by decide +kernel
theorem dX9_possibleAt_20 : decode cX9_possibleAt 20 = .ok (.getfield 16, 3) := by decide +kernel
theorem dX9_possibleAt_23 : decode cX9_possibleAt 23 = .ok (.iload_n 3, 1) := by decide +kernel
theorem dX9_possibleAt_24 : decode cX9_possibleAt 24 = .ok (.iaload, 1) := by decide +kernel
theorem dX9_possibleAt_25 : decode cX9_possibleAt 25 = .ok (.ifCond .le 35, 3) := by decide +kernel
theorem dX9_possibleAt_28 : decode cX9_possibleAt 28 = .ok (.aload_n 0, 1) := by decide +kernel
theorem dX9_possibleAt_29 : decode cX9_possibleAt 29 = .ok (.iload_n 3, 1) := by decide +kernel
theorem dX9_possibleAt_30 : decode cX9_possibleAt 30 = .ok (.iload 4, 2) := by decide +kernel
theorem dX9_possibleAt_32 : decode cX9_possibleAt 32 = .ok (.invokevirtual 232, 3) := by decide +kernel
theorem dX9_possibleAt_35 : decode cX9_possibleAt 35 = .ok (.ifCond .le 19, 3) := by decide +kernel
theorem dX9_possibleAt_38 : decode cX9_possibleAt 38 = .ok (.iload_n 2, 1) := by decide +kernel
theorem dX9_possibleAt_39 : decode cX9_possibleAt 39 = .ok (.iload_n 1, 1) := by decide +kernel
theorem dX9_possibleAt_40 : decode cX9_possibleAt 40 = .ok (.if_icmp .ne 11, 3) := by decide +kernel
theorem dX9_possibleAt_43 : decode cX9_possibleAt 43 = .ok (.bipush 10, 2) := by decide +kernel
theorem dX9_possibleAt_45 : decode cX9_possibleAt 45 = .ok (.iload_n 3, 1) := by decide +kernel
theorem dX9_possibleAt_46 : decode cX9_possibleAt 46 = .ok (.imul, 1) := by decide +kernel
theorem dX9_possibleAt_47 : decode cX9_possibleAt 47 = .ok (.iload 4, 2) := by decide +kernel
theorem dX9_possibleAt_49 : decode cX9_possibleAt 49 = .ok (.iadd, 1) := by decide +kernel
theorem dX9_possibleAt_50 : decode cX9_possibleAt 50 = .ok (.ireturn, 1) := by decide +kernel
theorem dX9_possibleAt_51 : decode cX9_possibleAt 51 = .ok (.iinc 2 1, 3) := by decide +kernel
theorem dX9_possibleAt_54 : decode cX9_possibleAt 54 = .ok (.iinc 4 1, 3) := by decide +kernel
theorem dX9_possibleAt_57 : decode cX9_possibleAt 57 = .ok (.goto (-45), 3) := by decide +kernel
theorem dX9_possibleAt_60 : decode cX9_possibleAt 60 = .ok (.iinc 3 1, 3) := by decide +kernel
theorem dX9_possibleAt_63 : decode cX9_possibleAt 63 = .ok (.goto (-59), 3) := by decide +kernel
theorem dX9_possibleAt_66 : decode cX9_possibleAt 66 = .ok (.iload_n 2, 1) := by decide +kernel
theorem dX9_possibleAt_67 : decode cX9_possibleAt 67 = .ok (.ineg, 1) := by decide +kernel
theorem dX9_possibleAt_68 : decode cX9_possibleAt 68 = .ok (.iconst 1, 1) := by decide +kernel
theorem dX9_possibleAt_69 : decode cX9_possibleAt 69 = .ok (.isub, 1) := by decide +kernel
theorem dX9_possibleAt_70 : decode cX9_possibleAt 70 = .ok (.ireturn, 1) := by decide +kernel
theorem dX9_possibleCount_0 : decode cX9_possibleCount 0 = .ok (.aload_n 0, 1) := by decide +kernel
theorem dX9_possibleCount_1 : decode cX9_possibleCount 1 = .ok (.iconst (-1), 1) := by decide +kernel
theorem dX9_possibleCount_2 : decode cX9_possibleCount 2 = .ok (.invokevirtual 239, 3) := by decide +kernel
theorem dX9_possibleCount_5 : decode cX9_possibleCount 5 = .ok (.ineg, 1) := by decide +kernel
theorem dX9_possibleCount_6 : decode cX9_possibleCount 6 = .ok (.iconst 1, 1) := by decide +kernel
theorem dX9_possibleCount_7 : decode cX9_possibleCount 7 = .ok (.isub, 1) := by decide +kernel
theorem dX9_possibleCount_8 : decode cX9_possibleCount 8 = .ok (.ireturn, 1) := by decide +kernel
theorem dX9_possible_0 : decode cX9_possible 0 = .ok (.iload_n 1, 1) := by decide +kernel
theorem dX9_possible_1 : decode cX9_possible 1 = .ok (.ifCond .ge 6, 3) := by decide +kernel
theorem dX9_possible_4 : decode cX9_possible 4 = .ok (.bipush (-3), 2) := by decide +kernel
theorem dX9_possible_6 : decode cX9_possible 6 = .ok (.ireturn, 1) := by decide +kernel
theorem dX9_possible_7 : decode cX9_possible 7 = .ok (.aload_n 0, 1) := by decide +kernel
theorem dX9_possible_8 : decode cX9_possible 8 = .ok (.iload_n 1, 1) := by decide +kernel
theorem dX9_possible_9 : decode cX9_possible 9 = .ok (.invokevirtual 239, 3) := by decide +kernel
theorem dX9_possible_12 : decode cX9_possible 12 = .ok (.istore_n 2, 1) := by decide +kernel
theorem dX9_possible_13 : decode cX9_possible 13 = .ok (.iload_n 2, 1) := by decide +kernel
theorem dX9_possible_14 : decode cX9_possible 14 = .ok (.ifCond .ge 8, 3) := by decide +kernel
theorem dX9_possible_17 : decode cX9_possible 17 = .ok (.bipush (-7), 2) := by decide +kernel
theorem dX9_possible_19 : decode cX9_possible 19 = .ok (.goto 4, 3) := by decide +kernel
theorem dX9_possible_22 : decode cX9_possible 22 = .ok (.iload_n 2, 1) := by decide +kernel
theorem dX9_possible_23 : decode cX9_possible 23 = .ok (.ireturn, 1) := by decide +kernel
theorem dX9_undo_0 : decode cX9_undo 0 = .ok (.aload_n 0, 1) := by decide +kernel
theorem dX9_undo_1 : decode cX9_undo 1 = .ok (.getfield 153, 3) := by decide +kernel
theorem dX9_undo_4 : decode cX9_undo 4 = .ok (.ifCond .ne 6, 3) := by decide +kernel
theorem dX9_undo_7 : decode cX9_undo 7 = .ok (.bipush (-7), 2) := by decide +kernel
theorem dX9_undo_9 : decode cX9_undo 9 = .ok (.ireturn, 1) := by decide +kernel
theorem dX9_undo_10 : decode cX9_undo 10 = .ok (.aload_n 0, 1) := by decide +kernel
theorem dX9_undo_11 : decode cX9_undo 11 = .ok (.dup, 1) := by decide +kernel
theorem dX9_undo_12 : decode cX9_undo 12 = .ok (.getfield 153, 3) := by decide +kernel
theorem dX9_undo_15 : decode cX9_undo 15 = .ok (.iconst 1, 1) := by decide +kernel
theorem dX9_undo_16 : decode cX9_undo 16 = .ok (.isub, 1) := by decide +kernel
theorem dX9_undo_17 : decode cX9_undo 17 = .ok (.putfield 153, 3) := by decide +kernel
theorem dX9_undo_20 : decode cX9_undo 20 = .ok (.aload_n 0, 1) := by decide +kernel
theorem dX9_undo_21 : decode cX9_undo 21 = .ok (.aload_n 0, 1) := by decide +kernel
theorem dX9_undo_22 : decode cX9_undo 22 = .ok (.getfield 77, 3) := by decide +kernel
theorem dX9_undo_25 : decode cX9_undo 25 = .ok (.aload_n 0, 1) := by decide +kernel
theorem dX9_undo_26 : decode cX9_undo 26 = .ok (.getfield 153, 3) := by decide +kernel
theorem dX9_undo_29 : decode cX9_undo 29 = .ok (.laload, 1) := by decide +kernel
theorem dX9_undo_30 : decode cX9_undo 30 = .ok (.invokevirtual 242, 3) := by decide +kernel
theorem dX9_undo_33 : decode cX9_undo 33 = .ok (.aload_n 0, 1) := by decide +kernel
theorem dX9_undo_34 : decode cX9_undo 34 = .ok (.getfield 153, 3) := by decide +kernel
theorem dX9_undo_37 : decode cX9_undo 37 = .ok (.ireturn, 1) := by decide +kernel
theorem dX9_redo_0 : decode cX9_redo 0 = .ok (.aload_n 0, 1) := by decide +kernel
theorem dX9_redo_1 : decode cX9_redo 1 = .ok (.getfield 153, 3) := by decide +kernel
theorem dX9_redo_4 : decode cX9_redo 4 = .ok (.aload_n 0, 1) := by decide +kernel
theorem dX9_redo_5 : decode cX9_redo 5 = .ok (.getfield 156, 3) := by decide +kernel
theorem dX9_redo_8 : decode cX9_redo 8 = .ok (.if_icmp .ne 6, 3) := by decide +kernel
theorem dX9_redo_11 : decode cX9_redo 11 = .ok (.bipush (-7), 2) := by decide +kernel
theorem dX9_redo_13 : decode cX9_redo 13 = .ok (.ireturn, 1) := by decide +kernel
theorem dX9_redo_14 : decode cX9_redo 14 = .ok (.aload_n 0, 1) := by decide +kernel
theorem dX9_redo_15 : decode cX9_redo 15 = .ok (.aload_n 0, 1) := by decide +kernel
theorem dX9_redo_16 : decode cX9_redo 16 = .ok (.getfield 81, 3) := by decide +kernel
theorem dX9_redo_19 : decode cX9_redo 19 = .ok (.aload_n 0, 1) := by decide +kernel
theorem dX9_redo_20 : decode cX9_redo 20 = .ok (.getfield 153, 3) := by decide +kernel
theorem dX9_redo_23 : decode cX9_redo 23 = .ok (.laload, 1) := by decide +kernel
theorem dX9_redo_24 : decode cX9_redo 24 = .ok (.invokevirtual 242, 3) := by decide +kernel
theorem dX9_redo_27 : decode cX9_redo 27 = .ok (.aload_n 0, 1) := by decide +kernel
theorem dX9_redo_28 : decode cX9_redo 28 = .ok (.dup, 1) := by decide +kernel
theorem dX9_redo_29 : decode cX9_redo 29 = .ok (.getfield 153, 3) := by decide +kernel
theorem dX9_redo_32 : decode cX9_redo 32 = .ok (.iconst 1, 1) := by decide +kernel
theorem dX9_redo_33 : decode cX9_redo 33 = .ok (.iadd, 1) := by decide +kernel
theorem dX9_redo_34 : decode cX9_redo 34 = .ok (.putfield 153, 3) := by decide +kernel
theorem dX9_redo_37 : decode cX9_redo 37 = .ok (.aload_n 0, 1) := by decide +kernel
theorem dX9_redo_38 : decode cX9_redo 38 = .ok (.getfield 153, 3) := by decide +kernel
theorem dX9_redo_41 : decode cX9_redo 41 = .ok (.ireturn, 1) := by decide +kernel
theorem dX9_moveAt_0 : decode cX9_moveAt 0 = .ok (.iload_n 1, 1) := by decide +kernel
theorem dX9_moveAt_1 : decode cX9_moveAt 1 = .ok (.ifCond .ge 8, 3) := by decide +kernel
theorem dX9_moveAt_4 : decode cX9_moveAt 4 = .ok (.bipush (-3), 2) := by decide +kernel
theorem dX9_moveAt_6 : decode cX9_moveAt 6 = .ok (.goto 22, 3) := by decide +kernel
theorem dX9_moveAt_9 : decode cX9_moveAt 9 = .ok (.iload_n 1, 1) := by decide +kernel
theorem dX9_moveAt_10 : decode cX9_moveAt 10 = .ok (.aload_n 0, 1) := by decide +kernel
theorem dX9_moveAt_11 : decode cX9_moveAt 11 = .ok (.getfield 153, 3) := by decide +kernel
theorem dX9_moveAt_14 : decode cX9_moveAt 14 = .ok (.if_icmp .ge 12, 3) := by decide +kernel
theorem dX9_moveAt_17 : decode cX9_moveAt 17 = .ok (.aload_n 0, 1) := by decide +kernel
theorem dX9_moveAt_18 : decode cX9_moveAt 18 = .ok (.getfield 71, 3) := by decide +kernel
theorem dX9_moveAt_21 : decode cX9_moveAt 21 = .ok (.iload_n 1, 1) := by decide +kernel
theorem dX9_moveAt_22 : decode cX9_moveAt 22 = .ok (.iaload, 1) := by decide +kernel
theorem dX9_moveAt_23 : decode cX9_moveAt 23 = .ok (.goto 5, 3) := by decide +kernel
theorem dX9_moveAt_26 : decode cX9_moveAt 26 = .ok (.bipush (-7), 2) := by decide +kernel
theorem dX9_moveAt_28 : decode cX9_moveAt 28 = .ok (.ireturn, 1) := by decide +kernel
theorem dX9_effort_0 : decode cX9_effort 0 = .ok (.iconst 0, 1) := by decide +kernel
theorem dX9_effort_1 : decode cX9_effort 1 = .ok (.istore_n 1, 1) := by decide +kernel
theorem dX9_effort_2 : decode cX9_effort 2 = .ok (.iconst 0, 1) := by decide +kernel
theorem dX9_effort_3 : decode cX9_effort 3 = .ok (.istore_n 2, 1) := by decide +kernel
theorem dX9_effort_4 : decode cX9_effort 4 = .ok (.iload_n 2, 1) := by decide +kernel
theorem dX9_effort_5 : decode cX9_effort 5 = .ok (.aload_n 0, 1) := by decide +kernel
theorem dX9_effort_6 : decode cX9_effort 6 = .ok (.getfield 153, 3) := by decide +kernel
theorem dX9_effort_9 : decode cX9_effort 9 = .ok (.if_icmp .ge 18, 3) := by decide +kernel
theorem dX9_effort_12 : decode cX9_effort 12 = .ok (.iload_n 1, 1) := by decide +kernel
theorem dX9_effort_13 : decode cX9_effort 13 = .ok (.aload_n 0, 1) := by decide +kernel
theorem dX9_effort_14 : decode cX9_effort 14 = .ok (.getfield 74, 3) := by decide +kernel
theorem dX9_effort_17 : decode cX9_effort 17 = .ok (.iload_n 2, 1) := by decide +kernel
theorem dX9_effort_18 : decode cX9_effort 18 = .ok (.iaload, 1) := by decide +kernel
theorem dX9_effort_19 : decode cX9_effort 19 = .ok (.iadd, 1) := by decide +kernel
theorem dX9_effort_20 : decode cX9_effort 20 = .ok (.istore_n 1, 1) := by decide +kernel
theorem dX9_effort_21 : decode cX9_effort 21 = .ok (.iinc 2 1, 3) := by decide +kernel
theorem dX9_effort_24 : decode cX9_effort 24 = .ok (.goto (-20), 3) := by decide +kernel
theorem dX9_effort_27 : decode cX9_effort 27 = .ok (.iload_n 1, 1) := by decide +kernel
theorem dX9_effort_28 : decode cX9_effort 28 = .ok (.ireturn, 1) := by decide +kernel
theorem dX9_kindOfMove_0 : decode cX9_kindOfMove 0 = .ok (.iload_n 0, 1) := by decide +kernel
theorem dX9_kindOfMove_1 : decode cX9_kindOfMove 1 = .ok (.bipush 114, 2) := by decide +kernel
theorem dX9_kindOfMove_3 : decode cX9_kindOfMove 3 = .ok (.if_icmp .ne 7, 3) := by decide +kernel
theorem dX9_kindOfMove_6 : decode cX9_kindOfMove 6 = .ok (.iconst 0, 1) := by decide +kernel
theorem dX9_kindOfMove_7 : decode cX9_kindOfMove 7 = .ok (.goto 54, 3) := by decide +kernel
theorem dX9_kindOfMove_10 : decode cX9_kindOfMove 10 = .ok (.iload_n 0, 1) := by decide +kernel
theorem dX9_kindOfMove_11 : decode cX9_kindOfMove 11 = .ok (.bipush 100, 2) := by decide +kernel
theorem dX9_kindOfMove_13 : decode cX9_kindOfMove 13 = .ok (.if_icmp .ne 7, 3) := by decide +kernel
theorem dX9_kindOfMove_16 : decode cX9_kindOfMove 16 = .ok (.iconst 1, 1) := by decide +kernel
theorem dX9_kindOfMove_17 : decode cX9_kindOfMove 17 = .ok (.goto 44, 3) := by decide +kernel
theorem dX9_kindOfMove_20 : decode cX9_kindOfMove 20 = .ok (.iload_n 0, 1) := by decide +kernel
theorem dX9_kindOfMove_21 : decode cX9_kindOfMove 21 = .ok (.bipush 108, 2) := by decide +kernel
theorem dX9_kindOfMove_23 : decode cX9_kindOfMove 23 = .ok (.if_icmp .ne 7, 3) := by decide +kernel
theorem dX9_kindOfMove_26 : decode cX9_kindOfMove 26 = .ok (.iconst 2, 1) := by decide +kernel
theorem dX9_kindOfMove_27 : decode cX9_kindOfMove 27 = .ok (.goto 34, 3) := by decide +kernel
theorem dX9_kindOfMove_30 : decode cX9_kindOfMove 30 = .ok (.iload_n 0, 1) := by decide +kernel
theorem dX9_kindOfMove_31 : decode cX9_kindOfMove 31 = .ok (.bipush 117, 2) := by decide +kernel
theorem dX9_kindOfMove_33 : decode cX9_kindOfMove 33 = .ok (.if_icmp .ne 7, 3) := by decide +kernel
theorem dX9_kindOfMove_36 : decode cX9_kindOfMove 36 = .ok (.iconst 3, 1) := by decide +kernel
theorem dX9_kindOfMove_37 : decode cX9_kindOfMove 37 = .ok (.goto 24, 3) := by decide +kernel
theorem dX9_kindOfMove_40 : decode cX9_kindOfMove 40 = .ok (.iload_n 0, 1) := by decide +kernel
theorem dX9_kindOfMove_41 : decode cX9_kindOfMove 41 = .ok (.bipush 116, 2) := by decide +kernel
theorem dX9_kindOfMove_43 : decode cX9_kindOfMove 43 = .ok (.if_icmp .ne 7, 3) := by decide +kernel
theorem dX9_kindOfMove_46 : decode cX9_kindOfMove 46 = .ok (.iconst 4, 1) := by decide +kernel
theorem dX9_kindOfMove_47 : decode cX9_kindOfMove 47 = .ok (.goto 14, 3) := by decide +kernel
theorem dX9_kindOfMove_50 : decode cX9_kindOfMove 50 = .ok (.iload_n 0, 1) := by decide +kernel
theorem dX9_kindOfMove_51 : decode cX9_kindOfMove 51 = .ok (.bipush 115, 2) := by decide +kernel
theorem dX9_kindOfMove_53 : decode cX9_kindOfMove 53 = .ok (.if_icmp .ne 7, 3) := by decide +kernel
theorem dX9_kindOfMove_56 : decode cX9_kindOfMove 56 = .ok (.iconst 5, 1) := by decide +kernel
theorem dX9_kindOfMove_57 : decode cX9_kindOfMove 57 = .ok (.goto 4, 3) := by decide +kernel
theorem dX9_kindOfMove_60 : decode cX9_kindOfMove 60 = .ok (.iconst (-1), 1) := by decide +kernel
theorem dX9_kindOfMove_61 : decode cX9_kindOfMove 61 = .ok (.ireturn, 1) := by decide +kernel
theorem dX9_goThrough_0 : decode cX9_goThrough 0 = .ok (.iconst 0, 1) := by decide +kernel
theorem dX9_goThrough_1 : decode cX9_goThrough 1 = .ok (.istore_n 1, 1) := by decide +kernel
theorem dX9_goThrough_2 : decode cX9_goThrough 2 = .ok (.iload_n 1, 1) := by decide +kernel
theorem dX9_goThrough_3 : decode cX9_goThrough 3 = .ok (.aload_n 0, 1) := by decide +kernel
theorem dX9_goThrough_4 : decode cX9_goThrough 4 = .ok (.getfield 130, 3) := by decide +kernel
theorem dX9_goThrough_7 : decode cX9_goThrough 7 = .ok (.if_icmp .ge 88, 3) := by decide +kernel
theorem dX9_goThrough_10 : decode cX9_goThrough 10 = .ok (.aload_n 0, 1) := by decide +kernel
theorem dX9_goThrough_11 : decode cX9_goThrough 11 = .ok (.getfield 40, 3) := by decide +kernel
theorem dX9_goThrough_14 : decode cX9_goThrough 14 = .ok (.iload_n 1, 1) := by decide +kernel
theorem dX9_goThrough_15 : decode cX9_goThrough 15 = .ok (.caload, 1) := by decide +kernel
theorem dX9_goThrough_16 : decode cX9_goThrough 16 = .ok (.bipush 97, 2) := by decide +kernel
theorem dX9_goThrough_18 : decode cX9_goThrough 18 = .ok (.isub, 1) := by decide +kernel
theorem dX9_goThrough_19 : decode cX9_goThrough 19 = .ok (.istore_n 2, 1) := by decide +kernel
theorem dX9_goThrough_20 : decode cX9_goThrough 20 = .ok (.aload_n 0, 1) := by decide +kernel
theorem dX9_goThrough_21 : decode cX9_goThrough 21 = .ok (.iload_n 2, 1) := by decide +kernel
theorem dX9_goThrough_22 : decode cX9_goThrough 22 = .ok (.invokevirtual 225, 3) := by decide +kernel
theorem dX9_goThrough_25 : decode cX9_goThrough 25 = .ok (.ifCond .eq 5, 3) := by decide +kernel
theorem dX9_goThrough_28 : decode cX9_goThrough 28 = .ok (.iload_n 1, 1) := by decide +kernel
theorem dX9_goThrough_29 : decode cX9_goThrough 29 = .ok (.ireturn, 1) := by decide +kernel
theorem dX9_goThrough_30 : decode cX9_goThrough 30 = .ok (.iload_n 1, 1) := by decide +kernel
theorem dX9_goThrough_31 : decode cX9_goThrough 31 = .ok (.iconst 1, 1) := by decide +kernel
theorem dX9_goThrough_32 : decode cX9_goThrough 32 = .ok (.iadd, 1) := by decide +kernel
theorem dX9_goThrough_33 : decode cX9_goThrough 33 = .ok (.aload_n 0, 1) := by decide +kernel
theorem dX9_goThrough_34 : decode cX9_goThrough 34 = .ok (.getfield 130, 3) := by decide +kernel
theorem dX9_goThrough_37 : decode cX9_goThrough 37 = .ok (.if_icmp .ne 8, 3) := by decide +kernel
theorem dX9_goThrough_40 : decode cX9_goThrough 40 = .ok (.aload_n 0, 1) := by decide +kernel
theorem dX9_goThrough_41 : decode cX9_goThrough 41 = .ok (.getfield 130, 3) := by decide +kernel
theorem dX9_goThrough_44 : decode cX9_goThrough 44 = .ok (.ireturn, 1) := by decide +kernel
theorem dX9_goThrough_45 : decode cX9_goThrough 45 = .ok (.aload_n 0, 1) := by decide +kernel
theorem dX9_goThrough_46 : decode cX9_goThrough 46 = .ok (.getfield 40, 3) := by decide +kernel
theorem dX9_goThrough_49 : decode cX9_goThrough 49 = .ok (.iload_n 1, 1) := by decide +kernel
theorem dX9_goThrough_50 : decode cX9_goThrough 50 = .ok (.iconst 1, 1) := by decide +kernel
theorem dX9_goThrough_51 : decode cX9_goThrough 51 = .ok (.iadd, 1) := by decide +kernel
theorem dX9_goThrough_52 : decode cX9_goThrough 52 = .ok (.caload, 1) := by decide +kernel
theorem dX9_goThrough_53 : decode cX9_goThrough 53 = .ok (.invokestatic 246, 3) := by decide +kernel
theorem dX9_goThrough_56 : decode cX9_goThrough 56 = .ok (.istore_n 3, 1) := by decide +kernel
theorem dX9_goThrough_57 : decode cX9_goThrough 57 = .ok (.iload_n 3, 1) := by decide +kernel
theorem dX9_goThrough_58 : decode cX9_goThrough 58 = .ok (.ifCond .ge 7, 3) := by decide +kernel
theorem dX9_goThrough_61 : decode cX9_goThrough 61 = .ok (.iconst 0, 1) := by decide +kernel
theorem dX9_goThrough_62 : decode cX9_goThrough 62 = .ok (.goto 9, 3) := by decide +kernel
theorem dX9_goThrough_65 : decode cX9_goThrough 65 = .ok (.aload_n 0, 1) := by decide +kernel
theorem dX9_goThrough_66 : decode cX9_goThrough 66 = .ok (.iload_n 2, 1) := by decide +kernel
theorem dX9_goThrough_67 : decode cX9_goThrough 67 = .ok (.iload_n 3, 1) := by decide +kernel
theorem dX9_goThrough_68 : decode cX9_goThrough 68 = .ok (.invokevirtual 232, 3) := by decide +kernel
theorem dX9_goThrough_71 : decode cX9_goThrough 71 = .ok (.istore 4, 2) := by decide +kernel
theorem dX9_goThrough_73 : decode cX9_goThrough 73 = .ok (.iload 4, 2) := by decide +kernel
theorem dX9_goThrough_75 : decode cX9_goThrough 75 = .ok (.ifCond .ne 7, 3) := by decide +kernel
theorem dX9_goThrough_78 : decode cX9_goThrough 78 = .ok (.iload_n 1, 1) := by decide +kernel
theorem dX9_goThrough_79 : decode cX9_goThrough 79 = .ok (.iconst 1, 1) := by decide +kernel
theorem dX9_goThrough_80 : decode cX9_goThrough 80 = .ok (.iadd, 1) := by decide +kernel
theorem dX9_goThrough_81 : decode cX9_goThrough 81 = .ok (.ireturn, 1) := by decide +kernel
theorem dX9_goThrough_82 : decode cX9_goThrough 82 = .ok (.aload_n 0, 1) := by decide +kernel
theorem dX9_goThrough_83 : decode cX9_goThrough 83 = .ok (.iload 4, 2) := by decide +kernel
theorem dX9_goThrough_85 : decode cX9_goThrough 85 = .ok (.iload_n 3, 1) := by decide +kernel
theorem dX9_goThrough_86 : decode cX9_goThrough 86 = .ok (.invokevirtual 221, 3) := by decide +kernel
theorem dX9_goThrough_89 : decode cX9_goThrough 89 = .ok (.iinc 1 2, 3) := by decide +kernel
theorem dX9_goThrough_92 : decode cX9_goThrough 92 = .ok (.goto (-90), 3) := by decide +kernel
theorem dX9_goThrough_95 : decode cX9_goThrough 95 = .ok (.iconst (-1), 1) := by decide +kernel
theorem dX9_goThrough_96 : decode cX9_goThrough 96 = .ok (.ireturn, 1) := by decide +kernel
theorem dX9_readMoves_0 : decode cX9_readMoves 0 = .ok (.aload_n 0, 1) := by decide +kernel
theorem dX9_readMoves_1 : decode cX9_readMoves 1 = .ok (.invokevirtual 217, 3) := by decide +kernel
theorem dX9_readMoves_4 : decode cX9_readMoves 4 = .ok (.lstore_n 1, 1) := by decide +kernel
theorem dX9_readMoves_5 : decode cX9_readMoves 5 = .ok (.aload_n 0, 1) := by decide +kernel
theorem dX9_readMoves_6 : decode cX9_readMoves 6 = .ok (.invokevirtual 249, 3) := by decide +kernel
theorem dX9_readMoves_9 : decode cX9_readMoves 9 = .ok (.istore_n 3, 1) := by decide +kernel
theorem dX9_readMoves_10 : decode cX9_readMoves 10 = .ok (.aload_n 0, 1) := by decide +kernel
theorem dX9_readMoves_11 : decode cX9_readMoves 11 = .ok (.lload_n 1, 1) := by decide +kernel
theorem dX9_readMoves_12 : decode cX9_readMoves 12 = .ok (.invokevirtual 242, 3) := by decide +kernel
theorem dX9_readMoves_15 : decode cX9_readMoves 15 = .ok (.iload_n 3, 1) := by decide +kernel
theorem dX9_readMoves_16 : decode cX9_readMoves 16 = .ok (.ifCond .lt 8, 3) := by decide +kernel
theorem dX9_readMoves_19 : decode cX9_readMoves 19 = .ok (.bipush (-100), 2) := by decide +kernel
theorem dX9_readMoves_21 : decode cX9_readMoves 21 = .ok (.iload_n 3, 1) := by decide +kernel
theorem dX9_readMoves_22 : decode cX9_readMoves 22 = .ok (.isub, 1) := by decide +kernel
theorem dX9_readMoves_23 : decode cX9_readMoves 23 = .ok (.ireturn, 1) := by decide +kernel
theorem dX9_readMoves_24 : decode cX9_readMoves 24 = .ok (.aload_n 0, 1) := by decide +kernel
theorem dX9_readMoves_25 : decode cX9_readMoves 25 = .ok (.getfield 153, 3) := by decide +kernel
theorem dX9_readMoves_28 : decode cX9_readMoves 28 = .ok (.aload_n 0, 1) := by decide +kernel
theorem dX9_readMoves_29 : decode cX9_readMoves 29 = .ok (.getfield 130, 3) := by decide +kernel
theorem dX9_readMoves_32 : decode cX9_readMoves 32 = .ok (.iconst 2, 1) := by decide +kernel
theorem dX9_readMoves_33 : decode cX9_readMoves 33 = .ok (.idiv, 1) := by decide +kernel
theorem dX9_readMoves_34 : decode cX9_readMoves 34 = .ok (.iadd, 1) := by decide +kernel
theorem dX9_readMoves_35 : decode cX9_readMoves 35 = .ok (.sipush 200, 3) := by decide +kernel
theorem dX9_readMoves_38 : decode cX9_readMoves 38 = .ok (.if_icmp .le 6, 3) := by decide +kernel
theorem dX9_readMoves_41 : decode cX9_readMoves 41 = .ok (.bipush (-5), 2) := by decide +kernel
theorem dX9_readMoves_43 : decode cX9_readMoves 43 = .ok (.ireturn, 1) := by decide +kernel
theorem dX9_readMoves_44 : decode cX9_readMoves 44 = .ok (.iconst 0, 1) := by decide +kernel
theorem dX9_readMoves_45 : decode cX9_readMoves 45 = .ok (.istore 4, 2) := by decide +kernel
theorem dX9_readMoves_47 : decode cX9_readMoves 47 = .ok (.iload 4, 2) := by decide +kernel
theorem dX9_readMoves_49 : decode cX9_readMoves 49 = .ok (.aload_n 0, 1) := by decide +kernel
theorem dX9_readMoves_50 : decode cX9_readMoves 50 = .ok (.getfield 130, 3) := by decide +kernel
theorem dX9_readMoves_53 : decode cX9_readMoves 53 = .ok (.if_icmp .ge 51, 3) := by decide +kernel
theorem dX9_readMoves_56 : decode cX9_readMoves 56 = .ok (.aload_n 0, 1) := by decide +kernel
theorem dX9_readMoves_57 : decode cX9_readMoves 57 = .ok (.getfield 40, 3) := by decide +kernel
theorem dX9_readMoves_60 : decode cX9_readMoves 60 = .ok (.iload 4, 2) := by decide +kernel
theorem dX9_readMoves_62 : decode cX9_readMoves 62 = .ok (.caload, 1) := by decide +kernel
theorem dX9_readMoves_63 : decode cX9_readMoves 63 = .ok (.bipush 97, 2) := by decide +kernel
theorem dX9_readMoves_65 : decode cX9_readMoves 65 = .ok (.isub, 1) := by decide +kernel
theorem dX9_readMoves_66 : decode cX9_readMoves 66 = .ok (.istore 5, 2) := by decide +kernel
theorem dX9_readMoves_68 : decode cX9_readMoves 68 = .ok (.aload_n 0, 1) := by decide +kernel
theorem dX9_readMoves_69 : decode cX9_readMoves 69 = .ok (.getfield 40, 3) := by decide +kernel
theorem dX9_readMoves_72 : decode cX9_readMoves 72 = .ok (.iload 4, 2) := by decide +kernel
theorem dX9_readMoves_74 : decode cX9_readMoves 74 = .ok (.iconst 1, 1) := by decide +kernel
theorem dX9_readMoves_75 : decode cX9_readMoves 75 = .ok (.iadd, 1) := by decide +kernel
theorem dX9_readMoves_76 : decode cX9_readMoves 76 = .ok (.caload, 1) := by decide +kernel
theorem dX9_readMoves_77 : decode cX9_readMoves 77 = .ok (.invokestatic 246, 3) := by decide +kernel
theorem dX9_readMoves_80 : decode cX9_readMoves 80 = .ok (.istore 6, 2) := by decide +kernel
theorem dX9_readMoves_82 : decode cX9_readMoves 82 = .ok (.aload_n 0, 1) := by decide +kernel
theorem dX9_readMoves_83 : decode cX9_readMoves 83 = .ok (.iload 5, 2) := by decide +kernel
theorem dX9_readMoves_85 : decode cX9_readMoves 85 = .ok (.iload 6, 2) := by decide +kernel
theorem dX9_readMoves_87 : decode cX9_readMoves 87 = .ok (.aload_n 0, 1) := by decide +kernel
theorem dX9_readMoves_88 : decode cX9_readMoves 88 = .ok (.iload 5, 2) := by decide +kernel
theorem dX9_readMoves_90 : decode cX9_readMoves 90 = .ok (.iload 6, 2) := by decide +kernel
theorem dX9_readMoves_92 : decode cX9_readMoves 92 = .ok (.invokevirtual 232, 3) := by decide +kernel
theorem dX9_readMoves_95 : decode cX9_readMoves 95 = .ok (.invokevirtual 235, 3) := by decide +kernel
theorem dX9_readMoves_98 : decode cX9_readMoves 98 = .ok (.iinc 4 2, 3) := by decide +kernel
theorem dX9_readMoves_101 : decode cX9_readMoves 101 = .ok (.goto (-54), 3) := by decide +kernel
theorem dX9_readMoves_104 : decode cX9_readMoves 104 = .ok (.aload_n 0, 1) := by decide +kernel
theorem dX9_readMoves_105 : decode cX9_readMoves 105 = .ok (.getfield 130, 3) := by decide +kernel
theorem dX9_readMoves_108 : decode cX9_readMoves 108 = .ok (.iconst 2, 1) := by decide +kernel
theorem dX9_readMoves_109 : decode cX9_readMoves 109 = .ok (.idiv, 1) := by decide +kernel
theorem dX9_readMoves_110 : decode cX9_readMoves 110 = .ok (.ireturn, 1) := by decide +kernel
theorem dX9_size_0 : decode cX9_size 0 = .ok (.iconst 0, 1) := by decide +kernel
theorem dX9_size_1 : decode cX9_size 1 = .ok (.istore_n 2, 1) := by decide +kernel
theorem dX9_size_2 : decode cX9_size 2 = .ok (.iconst 0, 1) := by decide +kernel
theorem dX9_size_3 : decode cX9_size 3 = .ok (.istore_n 3, 1) := by decide +kernel
theorem dX9_size_4 : decode cX9_size 4 = .ok (.iload_n 3, 1) := by decide +kernel
theorem dX9_size_5 : decode cX9_size 5 = .ok (.iconst 5, 1) := by decide +kernel
theorem dX9_size_6 : decode cX9_size 6 = .ok (.if_icmp .ge 26, 3) := by decide +kernel
theorem dX9_size_9 : decode cX9_size 9 = .ok (.iload_n 2, 1) := by decide +kernel
theorem dX9_size_10 : decode cX9_size 10 = .ok (.aload_n 0, 1) := by decide +kernel
theorem dX9_size_11 : decode cX9_size 11 = .ok (.getfield 16, 3) := by decide +kernel
theorem dX9_size_14 : decode cX9_size 14 = .ok (.iload_n 3, 1) := by decide +kernel
theorem dX9_size_15 : decode cX9_size 15 = .ok (.iaload, 1) := by decide +kernel
theorem dX9_size_16 : decode cX9_size 16 = .ok (.ifCond .ne 7, 3) := by decide +kernel
theorem dX9_size_19 : decode cX9_size 19 = .ok (.iconst 0, 1) := by decide +kernel
theorem dX9_size_20 : decode cX9_size 20 = .ok (.goto 4, 3) := by decide +kernel
theorem dX9_size_23 : decode cX9_size 23 = .ok (.iconst 1, 1) := by decide +kernel
theorem dX9_size_24 : decode cX9_size 24 = .ok (.iadd, 1) := by decide +kernel
theorem dX9_size_25 : decode cX9_size 25 = .ok (.istore_n 2, 1) := by decide +kernel
theorem dX9_size_26 : decode cX9_size 26 = .ok (.iinc 3 1, 3) := by decide +kernel
theorem dX9_size_29 : decode cX9_size 29 = .ok (.goto (-25), 3) := by decide +kernel
theorem dX9_size_32 : decode cX9_size 32 = .ok (.iload_n 1, 1) := by decide +kernel
theorem dX9_size_33 : decode cX9_size 33 = .ok (.ifCond .ne 10, 3) := by decide +kernel
theorem dX9_size_36 : decode cX9_size 36 = .ok (.aload_n 0, 1) := by decide +kernel
theorem dX9_size_37 : decode cX9_size 37 = .ok (.getfield 109, 3) := by decide +kernel
theorem dX9_size_40 : decode cX9_size 40 = .ok (.goto 38, 3) := by decide +kernel
theorem dX9_size_43 : decode cX9_size 43 = .ok (.iload_n 1, 1) := by decide +kernel
theorem dX9_size_44 : decode cX9_size 44 = .ok (.iconst 1, 1) := by decide +kernel
theorem dX9_size_45 : decode cX9_size 45 = .ok (.if_icmp .ne 10, 3) := by decide +kernel
theorem dX9_size_48 : decode cX9_size 48 = .ok (.aload_n 0, 1) := by decide +kernel
theorem dX9_size_49 : decode cX9_size 49 = .ok (.getfield 113, 3) := by decide +kernel
theorem dX9_size_52 : decode cX9_size 52 = .ok (.goto 26, 3) := by decide +kernel
theorem dX9_size_55 : decode cX9_size 55 = .ok (.iload_n 1, 1) := by decide +kernel
theorem dX9_size_56 : decode cX9_size 56 = .ok (.iconst 2, 1) := by decide +kernel
theorem dX9_size_57 : decode cX9_size 57 = .ok (.if_icmp .ne 7, 3) := by decide +kernel
theorem dX9_size_60 : decode cX9_size 60 = .ok (.iload_n 2, 1) := by decide +kernel
theorem dX9_size_61 : decode cX9_size 61 = .ok (.goto 17, 3) := by decide +kernel
theorem dX9_size_64 : decode cX9_size 64 = .ok (.iload_n 1, 1) := by decide +kernel
theorem dX9_size_65 : decode cX9_size 65 = .ok (.iconst 3, 1) := by decide +kernel
theorem dX9_size_66 : decode cX9_size 66 = .ok (.if_icmp .ne 10, 3) := by decide +kernel
theorem dX9_size_69 : decode cX9_size 69 = .ok (.aload_n 0, 1) := by decide +kernel
theorem dX9_size_70 : decode cX9_size 70 = .ok (.getfield 116, 3) := by decide +kernel
theorem dX9_size_73 : decode cX9_size 73 = .ok (.goto 5, 3) := by decide +kernel
theorem dX9_size_76 : decode cX9_size 76 = .ok (.bipush (-3), 2) := by decide +kernel
theorem dX9_size_78 : decode cX9_size 78 = .ok (.ireturn, 1) := by decide +kernel
theorem dX9_cell_0 : decode cX9_cell 0 = .ok (.aload_n 0, 1) := by decide +kernel
theorem dX9_cell_1 : decode cX9_cell 1 = .ok (.iload_n 1, 1) := by decide +kernel
theorem dX9_cell_2 : decode cX9_cell 2 = .ok (.iload_n 2, 1) := by decide +kernel
theorem dX9_cell_3 : decode cX9_cell 3 = .ok (.invokevirtual 167, 3) := by decide +kernel
theorem dX9_cell_6 : decode cX9_cell 6 = .ok (.ifCond .eq 12, 3) := by decide +kernel
theorem dX9_cell_9 : decode cX9_cell 9 = .ok (.aload_n 0, 1) := by decide +kernel
theorem dX9_cell_10 : decode cX9_cell 10 = .ok (.iload_n 1, 1) := by decide +kernel
theorem dX9_cell_11 : decode cX9_cell 11 = .ok (.iload_n 2, 1) := by decide +kernel
theorem dX9_cell_12 : decode cX9_cell 12 = .ok (.invokevirtual 171, 3) := by decide +kernel
theorem dX9_cell_15 : decode cX9_cell 15 = .ok (.goto 5, 3) := by decide +kernel
theorem dX9_cell_18 : decode cX9_cell 18 = .ok (.bipush (-2), 2) := by decide +kernel
theorem dX9_cell_20 : decode cX9_cell 20 = .ok (.ireturn, 1) := by decide +kernel
theorem dX9_blockAt_0 : decode cX9_blockAt 0 = .ok (.aload_n 0, 1) := by decide +kernel
theorem dX9_blockAt_1 : decode cX9_blockAt 1 = .ok (.iload_n 1, 1) := by decide +kernel
theorem dX9_blockAt_2 : decode cX9_blockAt 2 = .ok (.iload_n 2, 1) := by decide +kernel
theorem dX9_blockAt_3 : decode cX9_blockAt 3 = .ok (.invokevirtual 167, 3) := by decide +kernel
theorem dX9_blockAt_6 : decode cX9_blockAt 6 = .ok (.ifCond .ne 6, 3) := by decide +kernel
theorem dX9_blockAt_9 : decode cX9_blockAt 9 = .ok (.bipush (-2), 2) := by decide +kernel
theorem dX9_blockAt_11 : decode cX9_blockAt 11 = .ok (.ireturn, 1) := by decide +kernel
theorem dX9_blockAt_12 : decode cX9_blockAt 12 = .ok (.aload_n 0, 1) := by decide +kernel
theorem dX9_blockAt_13 : decode cX9_blockAt 13 = .ok (.invokevirtual 201, 3) := by decide +kernel
theorem dX9_blockAt_16 : decode cX9_blockAt 16 = .ok (.aload_n 0, 1) := by decide +kernel
theorem dX9_blockAt_17 : decode cX9_blockAt 17 = .ok (.getfield 65, 3) := by decide +kernel
theorem dX9_blockAt_20 : decode cX9_blockAt 20 = .ok (.bipush 8, 2) := by decide +kernel
theorem dX9_blockAt_22 : decode cX9_blockAt 22 = .ok (.iload_n 2, 1) := by decide +kernel
theorem dX9_blockAt_23 : decode cX9_blockAt 23 = .ok (.imul, 1) := by decide +kernel
theorem dX9_blockAt_24 : decode cX9_blockAt 24 = .ok (.iload_n 1, 1) := by decide +kernel
theorem dX9_blockAt_25 : decode cX9_blockAt 25 = .ok (.iadd, 1) := by decide +kernel
theorem dX9_blockAt_26 : decode cX9_blockAt 26 = .ok (.iaload, 1) := by decide +kernel
theorem dX9_blockAt_27 : decode cX9_blockAt 27 = .ok (.ifCond .ge 8, 3) := by decide +kernel
theorem dX9_blockAt_30 : decode cX9_blockAt 30 = .ok (.bipush (-7), 2) := by decide +kernel
theorem dX9_blockAt_32 : decode cX9_blockAt 32 = .ok (.goto 14, 3) := by decide +kernel
theorem dX9_blockAt_35 : decode cX9_blockAt 35 = .ok (.aload_n 0, 1) := by decide +kernel
theorem dX9_blockAt_36 : decode cX9_blockAt 36 = .ok (.getfield 65, 3) := by decide +kernel
theorem dX9_blockAt_39 : decode cX9_blockAt 39 = .ok (.bipush 8, 2) := by decide +kernel
theorem dX9_blockAt_41 : decode cX9_blockAt 41 = .ok (.iload_n 2, 1) := by decide +kernel
theorem dX9_blockAt_42 : decode cX9_blockAt 42 = .ok (.imul, 1) := by decide +kernel
theorem dX9_blockAt_43 : decode cX9_blockAt 43 = .ok (.iload_n 1, 1) := by decide +kernel
theorem dX9_blockAt_44 : decode cX9_blockAt 44 = .ok (.iadd, 1) := by decide +kernel
theorem dX9_blockAt_45 : decode cX9_blockAt 45 = .ok (.iaload, 1) := by decide +kernel
theorem dX9_blockAt_46 : decode cX9_blockAt 46 = .ok (.ireturn, 1) := by decide +kernel
theorem dX9_block_0 : decode cX9_block 0 = .ok (.aload_n 0, 1) := by decide +kernel
theorem dX9_block_1 : decode cX9_block 1 = .ok (.iload_n 1, 1) := by decide +kernel
theorem dX9_block_2 : decode cX9_block 2 = .ok (.invokevirtual 225, 3) := by decide +kernel
theorem dX9_block_5 : decode cX9_block 5 = .ok (.ifCond .eq 5, 3) := by decide +kernel
theorem dX9_block_8 : decode cX9_block 8 = .ok (.iconst (-1), 1) := by decide +kernel
theorem dX9_block_9 : decode cX9_block 9 = .ok (.ireturn, 1) := by decide +kernel
theorem dX9_block_10 : decode cX9_block 10 = .ok (.iload_n 2, 1) := by decide +kernel
theorem dX9_block_11 : decode cX9_block 11 = .ok (.iconst 5, 1) := by decide +kernel
theorem dX9_block_12 : decode cX9_block 12 = .ok (.bipush 7, 2) := by decide +kernel
theorem dX9_block_14 : decode cX9_block 14 = .ok (.invokestatic 119, 3) := by decide +kernel
theorem dX9_block_17 : decode cX9_block 17 = .ok (.ifCond .eq 15, 3) := by decide +kernel
theorem dX9_block_20 : decode cX9_block 20 = .ok (.aload_n 0, 1) := by decide +kernel
theorem dX9_block_21 : decode cX9_block 21 = .ok (.getfield 34, 3) := by decide +kernel
theorem dX9_block_24 : decode cX9_block 24 = .ok (.iload_n 1, 1) := by decide +kernel
theorem dX9_block_25 : decode cX9_block 25 = .ok (.iaload, 1) := by decide +kernel
theorem dX9_block_26 : decode cX9_block 26 = .ok (.ifCond .ge 6, 3) := by decide +kernel
theorem dX9_block_29 : decode cX9_block 29 = .ok (.bipush (-7), 2) := by decide +kernel
theorem dX9_block_31 : decode cX9_block 31 = .ok (.ireturn, 1) := by decide +kernel
theorem dX9_block_32 : decode cX9_block 32 = .ok (.iload_n 2, 1) := by decide +kernel
theorem dX9_block_33 : decode cX9_block 33 = .ok (.tableswitch 115 0 7 #[47, 57, 70, 80, 87, 94, 101, 108], 47) := by decide +kernel
theorem dX9_block_80 : decode cX9_block 80 = .ok (.aload_n 0, 1) := by decide +kernel
theorem dX9_block_81 : decode cX9_block 81 = .ok (.getfield 37, 3) := by decide +kernel
theorem dX9_block_84 : decode cX9_block 84 = .ok (.iload_n 1, 1) := by decide +kernel
theorem dX9_block_85 : decode cX9_block 85 = .ok (.iaload, 1) := by decide +kernel
theorem dX9_block_86 : decode cX9_block 86 = .ok (.bipush 8, 2) := by decide +kernel
theorem dX9_block_88 : decode cX9_block 88 = .ok (.irem, 1) := by decide +kernel
theorem dX9_block_89 : decode cX9_block 89 = .ok (.ireturn, 1) := by decide +kernel
theorem dX9_block_90 : decode cX9_block 90 = .ok (.aload_n 0, 1) := by decide +kernel
theorem dX9_block_91 : decode cX9_block 91 = .ok (.getfield 37, 3) := by decide +kernel
theorem dX9_block_94 : decode cX9_block 94 = .ok (.iload_n 1, 1) := by decide +kernel
theorem dX9_block_95 : decode cX9_block 95 = .ok (.iaload, 1) := by decide +kernel
theorem dX9_block_96 : decode cX9_block 96 = .ok (.bipush 8, 2) := by decide +kernel
theorem dX9_block_98 : decode cX9_block 98 = .ok (.idiv, 1) := by decide +kernel
theorem dX9_block_99 : decode cX9_block 99 = .ok (.bipush 8, 2) := by decide +kernel
theorem dX9_block_101 : decode cX9_block 101 = .ok (.irem, 1) := by decide +kernel
theorem dX9_block_102 : decode cX9_block 102 = .ok (.ireturn, 1) := by decide +kernel
theorem dX9_block_103 : decode cX9_block 103 = .ok (.aload_n 0, 1) := by decide +kernel
theorem dX9_block_104 : decode cX9_block 104 = .ok (.getfield 37, 3) := by decide +kernel
theorem dX9_block_107 : decode cX9_block 107 = .ok (.iload_n 1, 1) := by decide +kernel
theorem dX9_block_108 : decode cX9_block 108 = .ok (.iaload, 1) := by decide +kernel
theorem dX9_block_109 : decode cX9_block 109 = .ok (.bipush 64, 2) := by decide +kernel
theorem dX9_block_111 : decode cX9_block 111 = .ok (.idiv, 1) := by decide +kernel
theorem dX9_block_112 : decode cX9_block 112 = .ok (.ireturn, 1) := by decide +kernel
theorem dX9_block_113 : decode cX9_block 113 = .ok (.aload_n 0, 1) := by decide +kernel
theorem dX9_block_114 : decode cX9_block 114 = .ok (.getfield 25, 3) := by decide +kernel
theorem dX9_block_117 : decode cX9_block 117 = .ok (.iload_n 1, 1) := by decide +kernel
theorem dX9_block_118 : decode cX9_block 118 = .ok (.iaload, 1) := by decide +kernel
theorem dX9_block_119 : decode cX9_block 119 = .ok (.ireturn, 1) := by decide +kernel
theorem dX9_block_120 : decode cX9_block 120 = .ok (.aload_n 0, 1) := by decide +kernel
theorem dX9_block_121 : decode cX9_block 121 = .ok (.getfield 16, 3) := by decide +kernel
theorem dX9_block_124 : decode cX9_block 124 = .ok (.iload_n 1, 1) := by decide +kernel
theorem dX9_block_125 : decode cX9_block 125 = .ok (.iaload, 1) := by decide +kernel
theorem dX9_block_126 : decode cX9_block 126 = .ok (.ireturn, 1) := by decide +kernel
theorem dX9_block_127 : decode cX9_block 127 = .ok (.aload_n 0, 1) := by decide +kernel
theorem dX9_block_128 : decode cX9_block 128 = .ok (.getfield 28, 3) := by decide +kernel
theorem dX9_block_131 : decode cX9_block 131 = .ok (.iload_n 1, 1) := by decide +kernel
theorem dX9_block_132 : decode cX9_block 132 = .ok (.iaload, 1) := by decide +kernel
theorem dX9_block_133 : decode cX9_block 133 = .ok (.ireturn, 1) := by decide +kernel
theorem dX9_block_134 : decode cX9_block 134 = .ok (.aload_n 0, 1) := by decide +kernel
theorem dX9_block_135 : decode cX9_block 135 = .ok (.getfield 31, 3) := by decide +kernel
theorem dX9_block_138 : decode cX9_block 138 = .ok (.iload_n 1, 1) := by decide +kernel
theorem dX9_block_139 : decode cX9_block 139 = .ok (.iaload, 1) := by decide +kernel
theorem dX9_block_140 : decode cX9_block 140 = .ok (.ireturn, 1) := by decide +kernel
theorem dX9_block_141 : decode cX9_block 141 = .ok (.aload_n 0, 1) := by decide +kernel
theorem dX9_block_142 : decode cX9_block 142 = .ok (.getfield 34, 3) := by decide +kernel
theorem dX9_block_145 : decode cX9_block 145 = .ok (.iload_n 1, 1) := by decide +kernel
theorem dX9_block_146 : decode cX9_block 146 = .ok (.iaload, 1) := by decide +kernel
theorem dX9_block_147 : decode cX9_block 147 = .ok (.ireturn, 1) := by decide +kernel
theorem dX9_block_148 : decode cX9_block 148 = .ok (.bipush (-3), 2) := by decide +kernel
theorem dX9_block_150 : decode cX9_block 150 = .ok (.ireturn, 1) := by decide +kernel
theorem dX9_setWeight_0 : decode cX9_setWeight 0 = .ok (.aload_n 0, 1) := by decide +kernel
theorem dX9_setWeight_1 : decode cX9_setWeight 1 = .ok (.iload_n 1, 1) := by decide +kernel
theorem dX9_setWeight_2 : decode cX9_setWeight 2 = .ok (.invokevirtual 225, 3) := by decide +kernel
theorem dX9_setWeight_5 : decode cX9_setWeight 5 = .ok (.ifCond .eq 5, 3) := by decide +kernel
theorem dX9_setWeight_8 : decode cX9_setWeight 8 = .ok (.iconst (-1), 1) := by decide +kernel
theorem dX9_setWeight_9 : decode cX9_setWeight 9 = .ok (.ireturn, 1) := by decide +kernel
theorem dX9_setWeight_10 : decode cX9_setWeight 10 = .ok (.iload_n 2, 1) := by decide +kernel
theorem dX9_setWeight_11 : decode cX9_setWeight 11 = .ok (.iconst 1, 1) := by decide +kernel
theorem dX9_setWeight_12 : decode cX9_setWeight 12 = .ok (.bipush 9, 2) := by decide +kernel
theorem dX9_setWeight_14 : decode cX9_setWeight 14 = .ok (.invokestatic 119, 3) := by decide +kernel
theorem dX9_setWeight_17 : decode cX9_setWeight 17 = .ok (.ifCond .ne 6, 3) := by decide +kernel
theorem dX9_setWeight_20 : decode cX9_setWeight 20 = .ok (.bipush (-3), 2) := by decide +kernel
theorem dX9_setWeight_22 : decode cX9_setWeight 22 = .ok (.ireturn, 1) := by decide +kernel
theorem dX9_setWeight_23 : decode cX9_setWeight 23 = .ok (.aload_n 0, 1) := by decide +kernel
theorem dX9_setWeight_24 : decode cX9_setWeight 24 = .ok (.getfield 25, 3) := by decide +kernel
theorem dX9_setWeight_27 : decode cX9_setWeight 27 = .ok (.iload_n 1, 1) := by decide +kernel
theorem dX9_setWeight_28 : decode cX9_setWeight 28 = .ok (.iaload, 1) := by decide +kernel
theorem dX9_setWeight_29 : decode cX9_setWeight 29 = .ok (.istore_n 3, 1) := by decide +kernel
theorem dX9_setWeight_30 : decode cX9_setWeight 30 = .ok (.aload_n 0, 1) := by decide +kernel
theorem dX9_setWeight_31 : decode cX9_setWeight 31 = .ok (.getfield 25, 3) := by decide +kernel
theorem dX9_setWeight_34 : decode cX9_setWeight 34 = .ok (.iload_n 1, 1) := by decide +kernel
theorem dX9_setWeight_35 : decode cX9_setWeight 35 = .ok (.iload_n 2, 1) := by decide +kernel
theorem dX9_setWeight_36 : decode cX9_setWeight 36 = .ok (.iastore, 1) := by decide +kernel
theorem dX9_setWeight_37 : decode cX9_setWeight 37 = .ok (.iload_n 3, 1) := by decide +kernel
theorem dX9_setWeight_38 : decode cX9_setWeight 38 = .ok (.ireturn, 1) := by decide +kernel
theorem dX9_setGoal_0 : decode cX9_setGoal 0 = .ok (.aload_n 0, 1) := by decide +kernel
theorem dX9_setGoal_1 : decode cX9_setGoal 1 = .ok (.iload_n 1, 1) := by decide +kernel
theorem dX9_setGoal_2 : decode cX9_setGoal 2 = .ok (.invokevirtual 225, 3) := by decide +kernel
theorem dX9_setGoal_5 : decode cX9_setGoal 5 = .ok (.ifCond .eq 5, 3) := by decide +kernel
theorem dX9_setGoal_8 : decode cX9_setGoal 8 = .ok (.iconst (-1), 1) := by decide +kernel
theorem dX9_setGoal_9 : decode cX9_setGoal 9 = .ok (.ireturn, 1) := by decide +kernel
theorem dX9_setGoal_10 : decode cX9_setGoal 10 = .ok (.aload_n 0, 1) := by decide +kernel
theorem dX9_setGoal_11 : decode cX9_setGoal 11 = .ok (.iload_n 2, 1) := by decide +kernel
theorem dX9_setGoal_12 : decode cX9_setGoal 12 = .ok (.iload_n 3, 1) := by decide +kernel
theorem dX9_setGoal_13 : decode cX9_setGoal 13 = .ok (.invokevirtual 167, 3) := by decide +kernel
theorem dX9_setGoal_16 : decode cX9_setGoal 16 = .ok (.ifCond .ne 6, 3) := by decide +kernel
theorem dX9_setGoal_19 : decode cX9_setGoal 19 = .ok (.bipush (-2), 2) := by decide +kernel
theorem dX9_setGoal_21 : decode cX9_setGoal 21 = .ok (.ireturn, 1) := by decide +kernel
theorem dX9_setGoal_22 : decode cX9_setGoal 22 = .ok (.iload 4, 2) := by decide +kernel
theorem dX9_setGoal_24 : decode cX9_setGoal 24 = .ok (.iconst 0, 1) := by decide +kernel
theorem dX9_setGoal_25 : decode cX9_setGoal 25 = .ok (.iconst 4, 1) := by decide +kernel
theorem dX9_setGoal_26 : decode cX9_setGoal 26 = .ok (.invokestatic 119, 3) := by decide +kernel
theorem dX9_setGoal_29 : decode cX9_setGoal 29 = .ok (.ifCond .ne 6, 3) := by decide +kernel
theorem dX9_setGoal_32 : decode cX9_setGoal 32 = .ok (.bipush (-3), 2) := by decide +kernel
theorem dX9_setGoal_34 : decode cX9_setGoal 34 = .ok (.ireturn, 1) := by decide +kernel
theorem dX9_setGoal_35 : decode cX9_setGoal 35 = .ok (.aload_n 0, 1) := by decide +kernel
theorem dX9_setGoal_36 : decode cX9_setGoal 36 = .ok (.getfield 34, 3) := by decide +kernel
theorem dX9_setGoal_39 : decode cX9_setGoal 39 = .ok (.iload_n 1, 1) := by decide +kernel
theorem dX9_setGoal_40 : decode cX9_setGoal 40 = .ok (.iaload, 1) := by decide +kernel
theorem dX9_setGoal_41 : decode cX9_setGoal 41 = .ok (.iload 4, 2) := by decide +kernel
theorem dX9_setGoal_43 : decode cX9_setGoal 43 = .ok (.if_icmp .ne 27, 3) := by decide +kernel
theorem dX9_setGoal_46 : decode cX9_setGoal 46 = .ok (.aload_n 0, 1) := by decide +kernel
theorem dX9_setGoal_47 : decode cX9_setGoal 47 = .ok (.getfield 28, 3) := by decide +kernel
theorem dX9_setGoal_50 : decode cX9_setGoal 50 = .ok (.iload_n 1, 1) := by decide +kernel
theorem dX9_setGoal_51 : decode cX9_setGoal 51 = .ok (.iaload, 1) := by decide +kernel
theorem dX9_setGoal_52 : decode cX9_setGoal 52 = .ok (.iload_n 2, 1) := by decide +kernel
theorem dX9_setGoal_53 : decode cX9_setGoal 53 = .ok (.if_icmp .ne 17, 3) := by decide +kernel
theorem dX9_setGoal_56 : decode cX9_setGoal 56 = .ok (.aload_n 0, 1) := by decide +kernel
theorem dX9_setGoal_57 : decode cX9_setGoal 57 = .ok (.getfield 31, 3) := by decide +kernel
theorem dX9_setGoal_60 : decode cX9_setGoal 60 = .ok (.iload_n 1, 1) := by decide +kernel
theorem dX9_setGoal_61 : decode cX9_setGoal 61 = .ok (.iaload, 1) := by decide +kernel
theorem dX9_setGoal_62 : decode cX9_setGoal 62 = .ok (.iload_n 3, 1) := by decide +kernel
theorem dX9_setGoal_63 : decode cX9_setGoal 63 = .ok (.if_icmp .ne 7, 3) := by decide +kernel
theorem dX9_setGoal_66 : decode cX9_setGoal 66 = .ok (.iconst 1, 1) := by decide +kernel
theorem dX9_setGoal_67 : decode cX9_setGoal 67 = .ok (.goto 4, 3) := by decide +kernel
theorem dX9_setGoal_70 : decode cX9_setGoal 70 = .ok (.iconst 0, 1) := by decide +kernel
theorem dX9_setGoal_71 : decode cX9_setGoal 71 = .ok (.istore 5, 2) := by decide +kernel
theorem dX9_setGoal_73 : decode cX9_setGoal 73 = .ok (.aload_n 0, 1) := by decide +kernel
theorem dX9_setGoal_74 : decode cX9_setGoal 74 = .ok (.getfield 28, 3) := by decide +kernel
theorem dX9_setGoal_77 : decode cX9_setGoal 77 = .ok (.iload_n 1, 1) := by decide +kernel
theorem dX9_setGoal_78 : decode cX9_setGoal 78 = .ok (.iload_n 2, 1) := by decide +kernel
theorem dX9_setGoal_79 : decode cX9_setGoal 79 = .ok (.iastore, 1) := by decide +kernel
theorem dX9_setGoal_80 : decode cX9_setGoal 80 = .ok (.aload_n 0, 1) := by decide +kernel
theorem dX9_setGoal_81 : decode cX9_setGoal 81 = .ok (.getfield 31, 3) := by decide +kernel
theorem dX9_setGoal_84 : decode cX9_setGoal 84 = .ok (.iload_n 1, 1) := by decide +kernel
theorem dX9_setGoal_85 : decode cX9_setGoal 85 = .ok (.iload_n 3, 1) := by decide +kernel
theorem dX9_setGoal_86 : decode cX9_setGoal 86 = .ok (.iastore, 1) := by decide +kernel
theorem dX9_setGoal_87 : decode cX9_setGoal 87 = .ok (.aload_n 0, 1) := by decide +kernel
theorem dX9_setGoal_88 : decode cX9_setGoal 88 = .ok (.getfield 34, 3) := by decide +kernel
theorem dX9_setGoal_91 : decode cX9_setGoal 91 = .ok (.iload_n 1, 1) := by decide +kernel
theorem dX9_setGoal_92 : decode cX9_setGoal 92 = .ok (.iload 4, 2) := by decide +kernel
theorem dX9_setGoal_94 : decode cX9_setGoal 94 = .ok (.iastore, 1) := by decide +kernel
theorem dX9_setGoal_95 : decode cX9_setGoal 95 = .ok (.iload 5, 2) := by decide +kernel
theorem dX9_setGoal_97 : decode cX9_setGoal 97 = .ok (.ifCond .eq 7, 3) := by decide +kernel
theorem dX9_setGoal_100 : decode cX9_setGoal 100 = .ok (.iconst 0, 1) := by decide +kernel
theorem dX9_setGoal_101 : decode cX9_setGoal 101 = .ok (.goto 4, 3) := by decide +kernel
theorem dX9_setGoal_104 : decode cX9_setGoal 104 = .ok (.iconst 1, 1) := by decide +kernel
theorem dX9_setGoal_105 : decode cX9_setGoal 105 = .ok (.ireturn, 1) := by decide +kernel
theorem dX9_clearGoal_0 : decode cX9_clearGoal 0 = .ok (.aload_n 0, 1) := by decide +kernel
theorem dX9_clearGoal_1 : decode cX9_clearGoal 1 = .ok (.iload_n 1, 1) := by decide +kernel
theorem dX9_clearGoal_2 : decode cX9_clearGoal 2 = .ok (.invokevirtual 225, 3) := by decide +kernel
theorem dX9_clearGoal_5 : decode cX9_clearGoal 5 = .ok (.ifCond .eq 5, 3) := by decide +kernel
theorem dX9_clearGoal_8 : decode cX9_clearGoal 8 = .ok (.iconst (-1), 1) := by decide +kernel
theorem dX9_clearGoal_9 : decode cX9_clearGoal 9 = .ok (.ireturn, 1) := by decide +kernel
theorem dX9_clearGoal_10 : decode cX9_clearGoal 10 = .ok (.aload_n 0, 1) := by decide +kernel
theorem dX9_clearGoal_11 : decode cX9_clearGoal 11 = .ok (.getfield 34, 3) := by decide +kernel
theorem dX9_clearGoal_14 : decode cX9_clearGoal 14 = .ok (.iload_n 1, 1) := by decide +kernel
theorem dX9_clearGoal_15 : decode cX9_clearGoal 15 = .ok (.iaload, 1) := by decide +kernel
theorem dX9_clearGoal_16 : decode cX9_clearGoal 16 = .ok (.ifCond .ge 7, 3) := by decide +kernel
theorem dX9_clearGoal_19 : decode cX9_clearGoal 19 = .ok (.iconst 0, 1) := by decide +kernel
theorem dX9_clearGoal_20 : decode cX9_clearGoal 20 = .ok (.goto 4, 3) := by decide +kernel
theorem dX9_clearGoal_23 : decode cX9_clearGoal 23 = .ok (.iconst 1, 1) := by decide +kernel
theorem dX9_clearGoal_24 : decode cX9_clearGoal 24 = .ok (.istore_n 2, 1) := by decide +kernel
theorem dX9_clearGoal_25 : decode cX9_clearGoal 25 = .ok (.aload_n 0, 1) := by decide +kernel
theorem dX9_clearGoal_26 : decode cX9_clearGoal 26 = .ok (.getfield 34, 3) := by decide +kernel
theorem dX9_clearGoal_29 : decode cX9_clearGoal 29 = .ok (.iload_n 1, 1) := by decide +kernel
theorem dX9_clearGoal_30 : decode cX9_clearGoal 30 = .ok (.iconst (-1), 1) := by decide +kernel
theorem dX9_clearGoal_31 : decode cX9_clearGoal 31 = .ok (.iastore, 1) := by decide +kernel
theorem dX9_clearGoal_32 : decode cX9_clearGoal 32 = .ok (.iload_n 2, 1) := by decide +kernel
theorem dX9_clearGoal_33 : decode cX9_clearGoal 33 = .ok (.ireturn, 1) := by decide +kernel
theorem dX9_isGroup_0 : decode cX9_isGroup 0 = .ok (.iload_n 0, 1) := by decide +kernel
theorem dX9_isGroup_1 : decode cX9_isGroup 1 = .ok (.iconst 0, 1) := by decide +kernel
theorem dX9_isGroup_2 : decode cX9_isGroup 2 = .ok (.iconst 3, 1) := by decide +kernel
theorem dX9_isGroup_3 : decode cX9_isGroup 3 = .ok (.invokestatic 119, 3) := by decide +kernel
theorem dX9_isGroup_6 : decode cX9_isGroup 6 = .ok (.ireturn, 1) := by decide +kernel
theorem dX9_setThreshold_0 : decode cX9_setThreshold 0 = .ok (.iload_n 1, 1) := by decide +kernel
theorem dX9_setThreshold_1 : decode cX9_setThreshold 1 = .ok (.invokestatic 252, 3) := by decide +kernel
theorem dX9_setThreshold_4 : decode cX9_setThreshold 4 = .ok (.ifCond .eq 13, 3) := by decide +kernel
theorem dX9_setThreshold_7 : decode cX9_setThreshold 7 = .ok (.iload_n 2, 1) := by decide +kernel
theorem dX9_setThreshold_8 : decode cX9_setThreshold 8 = .ok (.iconst 1, 1) := by decide +kernel
theorem dX9_setThreshold_9 : decode cX9_setThreshold 9 = .ok (.bipush 45, 2) := by decide +kernel
theorem dX9_setThreshold_11 : decode cX9_setThreshold 11 = .ok (.invokestatic 119, 3) := by decide +kernel
theorem dX9_setThreshold_14 : decode cX9_setThreshold 14 = .ok (.ifCond .ne 6, 3) := by decide +kernel
theorem dX9_setThreshold_17 : decode cX9_setThreshold 17 = .ok (.bipush (-3), 2) := by decide +kernel
theorem dX9_setThreshold_19 : decode cX9_setThreshold 19 = .ok (.ireturn, 1) := by decide +kernel
theorem dX9_setThreshold_20 : decode cX9_setThreshold 20 = .ok (.aload_n 0, 1) := by decide +kernel
theorem dX9_setThreshold_21 : decode cX9_setThreshold 21 = .ok (.getfield 7, 3) := by decide +kernel
theorem dX9_setThreshold_24 : decode cX9_setThreshold 24 = .ok (.iload_n 1, 1) := by decide +kernel
theorem dX9_setThreshold_25 : decode cX9_setThreshold 25 = .ok (.iaload, 1) := by decide +kernel
theorem dX9_setThreshold_26 : decode cX9_setThreshold 26 = .ok (.istore_n 3, 1) := by decide +kernel
theorem dX9_setThreshold_27 : decode cX9_setThreshold 27 = .ok (.aload_n 0, 1) := by decide +kernel
theorem dX9_setThreshold_28 : decode cX9_setThreshold 28 = .ok (.getfield 7, 3) := by decide +kernel
theorem dX9_setThreshold_31 : decode cX9_setThreshold 31 = .ok (.iload_n 1, 1) := by decide +kernel
theorem dX9_setThreshold_32 : decode cX9_setThreshold 32 = .ok (.iload_n 2, 1) := by decide +kernel
theorem dX9_setThreshold_33 : decode cX9_setThreshold 33 = .ok (.iastore, 1) := by decide +kernel
theorem dX9_setThreshold_34 : decode cX9_setThreshold 34 = .ok (.iload_n 3, 1) := by decide +kernel
theorem dX9_setThreshold_35 : decode cX9_setThreshold 35 = .ok (.ireturn, 1) := by decide +kernel
theorem dX9_setStrength_0 : decode cX9_setStrength 0 = .ok (.iload_n 1, 1) := by decide +kernel
theorem dX9_setStrength_1 : decode cX9_setStrength 1 = .ok (.iconst 1, 1) := by decide +kernel
theorem dX9_setStrength_2 : decode cX9_setStrength 2 = .ok (.bipush 45, 2) := by decide +kernel
theorem dX9_setStrength_4 : decode cX9_setStrength 4 = .ok (.invokestatic 119, 3) := by decide +kernel
theorem dX9_setStrength_7 : decode cX9_setStrength 7 = .ok (.ifCond .ne 6, 3) := by decide +kernel
theorem dX9_setStrength_10 : decode cX9_setStrength 10 = .ok (.bipush (-3), 2) := by decide +kernel
theorem dX9_setStrength_12 : decode cX9_setStrength 12 = .ok (.ireturn, 1) := by decide +kernel
theorem dX9_setStrength_13 : decode cX9_setStrength 13 = .ok (.aload_n 0, 1) := by decide +kernel
theorem dX9_setStrength_14 : decode cX9_setStrength 14 = .ok (.getfield 116, 3) := by decide +kernel
theorem dX9_setStrength_17 : decode cX9_setStrength 17 = .ok (.istore_n 2, 1) := by decide +kernel
theorem dX9_setStrength_18 : decode cX9_setStrength 18 = .ok (.aload_n 0, 1) := by decide +kernel
theorem dX9_setStrength_19 : decode cX9_setStrength 19 = .ok (.iload_n 1, 1) := by decide +kernel
theorem dX9_setStrength_20 : decode cX9_setStrength 20 = .ok (.putfield 116, 3) := by decide +kernel
theorem dX9_setStrength_23 : decode cX9_setStrength 23 = .ok (.iload_n 2, 1) := by decide +kernel
theorem dX9_setStrength_24 : decode cX9_setStrength 24 = .ok (.ireturn, 1) := by decide +kernel
theorem dX9_load_0 : decode cX9_load 0 = .ok (.iload_n 1, 1) := by decide +kernel
theorem dX9_load_1 : decode cX9_load 1 = .ok (.invokestatic 252, 3) := by decide +kernel
theorem dX9_load_4 : decode cX9_load 4 = .ok (.ifCond .ne 6, 3) := by decide +kernel
theorem dX9_load_7 : decode cX9_load 7 = .ok (.bipush (-3), 2) := by decide +kernel
theorem dX9_load_9 : decode cX9_load 9 = .ok (.ireturn, 1) := by decide +kernel
theorem dX9_load_10 : decode cX9_load 10 = .ok (.aload_n 0, 1) := by decide +kernel
theorem dX9_load_11 : decode cX9_load 11 = .ok (.invokevirtual 201, 3) := by decide +kernel
theorem dX9_load_14 : decode cX9_load 14 = .ok (.aload_n 0, 1) := by decide +kernel
theorem dX9_load_15 : decode cX9_load 15 = .ok (.getfield 68, 3) := by decide +kernel
theorem dX9_load_18 : decode cX9_load 18 = .ok (.iload_n 1, 1) := by decide +kernel
theorem dX9_load_19 : decode cX9_load 19 = .ok (.iaload, 1) := by decide +kernel
theorem dX9_load_20 : decode cX9_load 20 = .ok (.ireturn, 1) := by decide +kernel
theorem dX9_isOpen_0 : decode cX9_isOpen 0 = .ok (.iload_n 1, 1) := by decide +kernel
theorem dX9_isOpen_1 : decode cX9_isOpen 1 = .ok (.invokestatic 252, 3) := by decide +kernel
theorem dX9_isOpen_4 : decode cX9_isOpen 4 = .ok (.ifCond .ne 6, 3) := by decide +kernel
theorem dX9_isOpen_7 : decode cX9_isOpen 7 = .ok (.bipush (-3), 2) := by decide +kernel
theorem dX9_isOpen_9 : decode cX9_isOpen 9 = .ok (.ireturn, 1) := by decide +kernel
theorem dX9_isOpen_10 : decode cX9_isOpen 10 = .ok (.aload_n 0, 1) := by decide +kernel
theorem dX9_isOpen_11 : decode cX9_isOpen 11 = .ok (.invokevirtual 201, 3) := by decide +kernel
theorem dX9_isOpen_14 : decode cX9_isOpen 14 = .ok (.aload_n 0, 1) := by decide +kernel
theorem dX9_isOpen_15 : decode cX9_isOpen 15 = .ok (.getfield 68, 3) := by decide +kernel
theorem dX9_isOpen_18 : decode cX9_isOpen 18 = .ok (.iload_n 1, 1) := by decide +kernel
theorem dX9_isOpen_19 : decode cX9_isOpen 19 = .ok (.iaload, 1) := by decide +kernel
theorem dX9_isOpen_20 : decode cX9_isOpen 20 = .ok (.aload_n 0, 1) := by decide +kernel
theorem dX9_isOpen_21 : decode cX9_isOpen 21 = .ok (.getfield 7, 3) := by decide +kernel
theorem dX9_isOpen_24 : decode cX9_isOpen 24 = .ok (.iload_n 1, 1) := by decide +kernel
theorem dX9_isOpen_25 : decode cX9_isOpen 25 = .ok (.iaload, 1) := by decide +kernel
theorem dX9_isOpen_26 : decode cX9_isOpen 26 = .ok (.if_icmp .lt 7, 3) := by decide +kernel
theorem dX9_isOpen_29 : decode cX9_isOpen 29 = .ok (.iconst 1, 1) := by decide +kernel
theorem dX9_isOpen_30 : decode cX9_isOpen 30 = .ok (.goto 4, 3) := by decide +kernel
theorem dX9_isOpen_33 : decode cX9_isOpen 33 = .ok (.iconst 0, 1) := by decide +kernel
theorem dX9_isOpen_34 : decode cX9_isOpen 34 = .ok (.ireturn, 1) := by decide +kernel
theorem dX9_save_0 : decode cX9_save 0 = .ok (.iload_n 1, 1) := by decide +kernel
theorem dX9_save_1 : decode cX9_save 1 = .ok (.iconst 0, 1) := by decide +kernel
theorem dX9_save_2 : decode cX9_save 2 = .ok (.iconst 3, 1) := by decide +kernel
theorem dX9_save_3 : decode cX9_save 3 = .ok (.invokestatic 119, 3) := by decide +kernel
theorem dX9_save_6 : decode cX9_save 6 = .ok (.ifCond .ne 6, 3) := by decide +kernel
theorem dX9_save_9 : decode cX9_save 9 = .ok (.bipush (-3), 2) := by decide +kernel
theorem dX9_save_11 : decode cX9_save 11 = .ok (.ireturn, 1) := by decide +kernel
theorem dX9_save_12 : decode cX9_save 12 = .ok (.aload_n 0, 1) := by decide +kernel
theorem dX9_save_13 : decode cX9_save 13 = .ok (.getfield 84, 3) := by decide +kernel
theorem dX9_save_16 : decode cX9_save 16 = .ok (.iload_n 1, 1) := by decide +kernel
theorem dX9_save_17 : decode cX9_save 17 = .ok (.baload, 1) := by decide +kernel
theorem dX9_save_18 : decode cX9_save 18 = .ok (.ifCond .eq 7, 3) := by decide +kernel
theorem dX9_save_21 : decode cX9_save 21 = .ok (.iconst 0, 1) := by decide +kernel
theorem dX9_save_22 : decode cX9_save 22 = .ok (.goto 4, 3) := by decide +kernel
theorem dX9_save_25 : decode cX9_save 25 = .ok (.iconst 1, 1) := by decide +kernel
theorem dX9_save_26 : decode cX9_save 26 = .ok (.istore_n 2, 1) := by decide +kernel
theorem dX9_save_27 : decode cX9_save 27 = .ok (.aload_n 0, 1) := by decide +kernel
theorem dX9_save_28 : decode cX9_save 28 = .ok (.getfield 84, 3) := by decide +kernel
theorem dX9_save_31 : decode cX9_save 31 = .ok (.iload_n 1, 1) := by decide +kernel
theorem dX9_save_32 : decode cX9_save 32 = .ok (.iconst 1, 1) := by decide +kernel
theorem dX9_save_33 : decode cX9_save 33 = .ok (.bastore, 1) := by decide +kernel
theorem dX9_save_34 : decode cX9_save 34 = .ok (.aload_n 0, 1) := by decide +kernel
theorem dX9_save_35 : decode cX9_save 35 = .ok (.getfield 88, 3) := by decide +kernel
theorem dX9_save_38 : decode cX9_save 38 = .ok (.iload_n 1, 1) := by decide +kernel
theorem dX9_save_39 : decode cX9_save 39 = .ok (.aload_n 0, 1) := by decide +kernel
theorem dX9_save_40 : decode cX9_save 40 = .ok (.invokevirtual 217, 3) := by decide +kernel
theorem dX9_save_43 : decode cX9_save 43 = .ok (.lastore, 1) := by decide +kernel
theorem dX9_save_44 : decode cX9_save 44 = .ok (.iload_n 2, 1) := by decide +kernel
theorem dX9_save_45 : decode cX9_save 45 = .ok (.ireturn, 1) := by decide +kernel
theorem dX9_restore_0 : decode cX9_restore 0 = .ok (.iload_n 1, 1) := by decide +kernel
theorem dX9_restore_1 : decode cX9_restore 1 = .ok (.iconst 0, 1) := by decide +kernel
theorem dX9_restore_2 : decode cX9_restore 2 = .ok (.iconst 3, 1) := by decide +kernel
theorem dX9_restore_3 : decode cX9_restore 3 = .ok (.invokestatic 119, 3) := by decide +kernel
theorem dX9_restore_6 : decode cX9_restore 6 = .ok (.ifCond .ne 6, 3) := by decide +kernel
theorem dX9_restore_9 : decode cX9_restore 9 = .ok (.bipush (-3), 2) := by decide +kernel
theorem dX9_restore_11 : decode cX9_restore 11 = .ok (.ireturn, 1) := by decide +kernel
theorem dX9_restore_12 : decode cX9_restore 12 = .ok (.aload_n 0, 1) := by decide +kernel
theorem dX9_restore_13 : decode cX9_restore 13 = .ok (.getfield 84, 3) := by decide +kernel
theorem dX9_restore_16 : decode cX9_restore 16 = .ok (.iload_n 1, 1) := by decide +kernel
theorem dX9_restore_17 : decode cX9_restore 17 = .ok (.baload, 1) := by decide +kernel
theorem dX9_restore_18 : decode cX9_restore 18 = .ok (.ifCond .ne 6, 3) := by decide +kernel
theorem dX9_restore_21 : decode cX9_restore 21 = .ok (.bipush (-7), 2) := by decide +kernel
theorem dX9_restore_23 : decode cX9_restore 23 = .ok (.ireturn, 1) := by decide +kernel
theorem dX9_restore_24 : decode cX9_restore 24 = .ok (.aload_n 0, 1) := by decide +kernel
theorem dX9_restore_25 : decode cX9_restore 25 = .ok (.invokevirtual 217, 3) := by decide +kernel
theorem dX9_restore_28 : decode cX9_restore 28 = .ok (.lstore_n 2, 1) := by decide +kernel
theorem dX9_restore_29 : decode cX9_restore 29 = .ok (.aload_n 0, 1) := by decide +kernel
theorem dX9_restore_30 : decode cX9_restore 30 = .ok (.aload_n 0, 1) := by decide +kernel
theorem dX9_restore_31 : decode cX9_restore 31 = .ok (.getfield 88, 3) := by decide +kernel
theorem dX9_restore_34 : decode cX9_restore 34 = .ok (.iload_n 1, 1) := by decide +kernel
theorem dX9_restore_35 : decode cX9_restore 35 = .ok (.laload, 1) := by decide +kernel
theorem dX9_restore_36 : decode cX9_restore 36 = .ok (.invokevirtual 242, 3) := by decide +kernel
theorem dX9_restore_39 : decode cX9_restore 39 = .ok (.iconst 0, 1) := by decide +kernel
theorem dX9_restore_40 : decode cX9_restore 40 = .ok (.istore 4, 2) := by decide +kernel
theorem dX9_restore_42 : decode cX9_restore 42 = .ok (.iconst 0, 1) := by decide +kernel
theorem dX9_restore_43 : decode cX9_restore 43 = .ok (.istore 5, 2) := by decide +kernel
theorem dX9_restore_45 : decode cX9_restore 45 = .ok (.iload 5, 2) := by decide +kernel
theorem dX9_restore_47 : decode cX9_restore 47 = .ok (.iconst 5, 1) := by decide +kernel
theorem dX9_restore_48 : decode cX9_restore 48 = .ok (.if_icmp .ge 42, 3) := by decide +kernel
theorem dX9_restore_51 : decode cX9_restore 51 = .ok (.iload 4, 2) := by decide +kernel
theorem dX9_restore_53 : decode cX9_restore 53 = .ok (.lload_n 2, 1) := by decide +kernel
theorem dX9_restore_54 : decode cX9_restore 54 = .ok (.ldc2_w 159, 3) := by decide +kernel
theorem dX9_restore_57 : decode cX9_restore 57 = .ok (.lrem, 1) := by decide +kernel
theorem dX9_restore_58 : decode cX9_restore 58 = .ok (.aload_n 0, 1) := by decide +kernel
theorem dX9_restore_59 : decode cX9_restore 59 = .ok (.getfield 37, 3) := by decide +kernel
theorem dX9_restore_62 : decode cX9_restore 62 = .ok (.iload 5, 2) := by decide +kernel
theorem dX9_restore_64 : decode cX9_restore 64 = .ok (.iaload, 1) := by decide +kernel
theorem dX9_restore_65 : decode cX9_restore 65 = .ok (.i2l, 1) := by decide +kernel
theorem dX9_restore_66 : decode cX9_restore 66 = .ok (.lcmp, 1) := by decide +kernel
theorem dX9_restore_67 : decode cX9_restore 67 = .ok (.ifCond .eq 7, 3) := by decide +kernel
theorem dX9_restore_70 : decode cX9_restore 70 = .ok (.iconst 1, 1) := by decide +kernel
theorem dX9_restore_71 : decode cX9_restore 71 = .ok (.goto 4, 3) := by decide +kernel
theorem dX9_restore_74 : decode cX9_restore 74 = .ok (.iconst 0, 1) := by decide +kernel
theorem dX9_restore_75 : decode cX9_restore 75 = .ok (.iadd, 1) := by decide +kernel
theorem dX9_restore_76 : decode cX9_restore 76 = .ok (.istore 4, 2) := by decide +kernel
theorem dX9_restore_78 : decode cX9_restore 78 = .ok (.lload_n 2, 1) := by decide +kernel
theorem dX9_restore_79 : decode cX9_restore 79 = .ok (.ldc2_w 159, 3) := by decide +kernel
theorem dX9_restore_82 : decode cX9_restore 82 = .ok (.ldiv, 1) := by decide +kernel
theorem dX9_restore_83 : decode cX9_restore 83 = .ok (.lstore_n 2, 1) := by decide +kernel
theorem dX9_restore_84 : decode cX9_restore 84 = .ok (.iinc 5 1, 3) := by decide +kernel
theorem dX9_restore_87 : decode cX9_restore 87 = .ok (.goto (-42), 3) := by decide +kernel
theorem dX9_restore_90 : decode cX9_restore 90 = .ok (.aload_n 0, 1) := by decide +kernel
theorem dX9_restore_91 : decode cX9_restore 91 = .ok (.iconst 0, 1) := by decide +kernel
theorem dX9_restore_92 : decode cX9_restore 92 = .ok (.putfield 153, 3) := by decide +kernel
theorem dX9_restore_95 : decode cX9_restore 95 = .ok (.aload_n 0, 1) := by decide +kernel
theorem dX9_restore_96 : decode cX9_restore 96 = .ok (.iconst 0, 1) := by decide +kernel
theorem dX9_restore_97 : decode cX9_restore 97 = .ok (.putfield 156, 3) := by decide +kernel
theorem dX9_restore_100 : decode cX9_restore 100 = .ok (.iload 4, 2) := by decide +kernel
theorem dX9_restore_102 : decode cX9_restore 102 = .ok (.ireturn, 1) := by decide +kernel
theorem dX9_isFree_0 : decode cX9_isFree 0 = .ok (.aload_n 0, 1) := by decide +kernel
theorem dX9_isFree_1 : decode cX9_isFree 1 = .ok (.iload_n 1, 1) := by decide +kernel
theorem dX9_isFree_2 : decode cX9_isFree 2 = .ok (.iload_n 2, 1) := by decide +kernel
theorem dX9_isFree_3 : decode cX9_isFree 3 = .ok (.invokevirtual 167, 3) := by decide +kernel
theorem dX9_isFree_6 : decode cX9_isFree 6 = .ok (.ifCond .eq 17, 3) := by decide +kernel
theorem dX9_isFree_9 : decode cX9_isFree 9 = .ok (.aload_n 0, 1) := by decide +kernel
theorem dX9_isFree_10 : decode cX9_isFree 10 = .ok (.iload_n 1, 1) := by decide +kernel
theorem dX9_isFree_11 : decode cX9_isFree 11 = .ok (.iload_n 2, 1) := by decide +kernel
theorem dX9_isFree_12 : decode cX9_isFree 12 = .ok (.invokevirtual 171, 3) := by decide +kernel
theorem dX9_isFree_15 : decode cX9_isFree 15 = .ok (.iconst 1, 1) := by decide +kernel
theorem dX9_isFree_16 : decode cX9_isFree 16 = .ok (.if_icmp .eq 7, 3) := by decide +kernel
theorem dX9_isFree_19 : decode cX9_isFree 19 = .ok (.iconst 1, 1) := by decide +kernel
theorem dX9_isFree_20 : decode cX9_isFree 20 = .ok (.goto 4, 3) := by decide +kernel
theorem dX9_isFree_23 : decode cX9_isFree 23 = .ok (.iconst 0, 1) := by decide +kernel
theorem dX9_isFree_24 : decode cX9_isFree 24 = .ok (.ireturn, 1) := by decide +kernel
theorem dX9_isPlacement_0 : decode cX9_isPlacement 0 = .ok (.aload_n 0, 1) := by decide +kernel
theorem dX9_isPlacement_1 : decode cX9_isPlacement 1 = .ok (.iload_n 2, 1) := by decide +kernel
theorem dX9_isPlacement_2 : decode cX9_isPlacement 2 = .ok (.bipush 8, 2) := by decide +kernel
theorem dX9_isPlacement_4 : decode cX9_isPlacement 4 = .ok (.irem, 1) := by decide +kernel
theorem dX9_isPlacement_5 : decode cX9_isPlacement 5 = .ok (.iload_n 2, 1) := by decide +kernel
theorem dX9_isPlacement_6 : decode cX9_isPlacement 6 = .ok (.bipush 8, 2) := by decide +kernel
theorem dX9_isPlacement_8 : decode cX9_isPlacement 8 = .ok (.idiv, 1) := by decide +kernel
theorem dX9_isPlacement_9 : decode cX9_isPlacement 9 = .ok (.bipush 8, 2) := by decide +kernel
theorem dX9_isPlacement_11 : decode cX9_isPlacement 11 = .ok (.irem, 1) := by decide +kernel
theorem dX9_isPlacement_12 : decode cX9_isPlacement 12 = .ok (.invokevirtual 255, 3) := by decide +kernel
theorem dX9_isPlacement_15 : decode cX9_isPlacement 15 = .ok (.istore_n 3, 1) := by decide +kernel
theorem dX9_isPlacement_16 : decode cX9_isPlacement 16 = .ok (.iconst 0, 1) := by decide +kernel
theorem dX9_isPlacement_17 : decode cX9_isPlacement 17 = .ok (.istore 4, 2) := by decide +kernel
theorem dX9_isPlacement_19 : decode cX9_isPlacement 19 = .ok (.iload 4, 2) := by decide +kernel
theorem dX9_isPlacement_21 : decode cX9_isPlacement 21 = .ok (.aload_n 0, 1) := by decide +kernel
theorem dX9_isPlacement_22 : decode cX9_isPlacement 22 = .ok (.getfield 16, 3) := by decide +kernel
theorem dX9_isPlacement_25 : decode cX9_isPlacement 25 = .ok (.iload_n 1, 1) := by decide +kernel
theorem dX9_isPlacement_26 : decode cX9_isPlacement 26 = .ok (.iaload, 1) := by decide +kernel
theorem dX9_isPlacement_27 : decode cX9_isPlacement 27 = .ok (.if_icmp .ge 42, 3) := by decide +kernel
theorem dX9_isPlacement_30 : decode cX9_isPlacement 30 = .ok (.iload_n 3, 1) := by decide +kernel
theorem dX9_isPlacement_31 : decode cX9_isPlacement 31 = .ok (.ifCond .eq 30, 3) := by decide +kernel
theorem dX9_isPlacement_34 : decode cX9_isPlacement 34 = .ok (.aload_n 0, 1) := by decide +kernel
theorem dX9_isPlacement_35 : decode cX9_isPlacement 35 = .ok (.aload_n 0, 1) := by decide +kernel
theorem dX9_isPlacement_36 : decode cX9_isPlacement 36 = .ok (.iload_n 1, 1) := by decide +kernel
theorem dX9_isPlacement_37 : decode cX9_isPlacement 37 = .ok (.iload 4, 2) := by decide +kernel
theorem dX9_isPlacement_39 : decode cX9_isPlacement 39 = .ok (.iload_n 2, 1) := by decide +kernel
theorem dX9_isPlacement_40 : decode cX9_isPlacement 40 = .ok (.invokevirtual 164, 3) := by decide +kernel
theorem dX9_isPlacement_43 : decode cX9_isPlacement 43 = .ok (.aload_n 0, 1) := by decide +kernel
theorem dX9_isPlacement_44 : decode cX9_isPlacement 44 = .ok (.iload_n 1, 1) := by decide +kernel
theorem dX9_isPlacement_45 : decode cX9_isPlacement 45 = .ok (.iload 4, 2) := by decide +kernel
theorem dX9_isPlacement_47 : decode cX9_isPlacement 47 = .ok (.iload_n 2, 1) := by decide +kernel
theorem dX9_isPlacement_48 : decode cX9_isPlacement 48 = .ok (.invokevirtual 161, 3) := by decide +kernel
theorem dX9_isPlacement_51 : decode cX9_isPlacement 51 = .ok (.invokevirtual 255, 3) := by decide +kernel
theorem dX9_isPlacement_54 : decode cX9_isPlacement 54 = .ok (.ifCond .eq 7, 3) := by decide +kernel
theorem dX9_isPlacement_57 : decode cX9_isPlacement 57 = .ok (.iconst 1, 1) := by decide +kernel
theorem dX9_isPlacement_58 : decode cX9_isPlacement 58 = .ok (.goto 4, 3) := by decide +kernel
theorem dX9_isPlacement_61 : decode cX9_isPlacement 61 = .ok (.iconst 0, 1) := by decide +kernel
theorem dX9_isPlacement_62 : decode cX9_isPlacement 62 = .ok (.istore_n 3, 1) := by decide +kernel
theorem dX9_isPlacement_63 : decode cX9_isPlacement 63 = .ok (.iinc 4 1, 3) := by decide +kernel
theorem dX9_isPlacement_66 : decode cX9_isPlacement 66 = .ok (.goto (-47), 3) := by decide +kernel
theorem dX9_isPlacement_69 : decode cX9_isPlacement 69 = .ok (.iload_n 3, 1) := by decide +kernel
theorem dX9_isPlacement_70 : decode cX9_isPlacement 70 = .ok (.ireturn, 1) := by decide +kernel
theorem dX9_maySlideAlone_0 : decode cX9_maySlideAlone 0 = .ok (.iconst 1, 1) := by decide +kernel
theorem dX9_maySlideAlone_1 : decode cX9_maySlideAlone 1 = .ok (.istore 4, 2) := by decide +kernel
theorem dX9_maySlideAlone_3 : decode cX9_maySlideAlone 3 = .ok (.iconst 0, 1) := by decide +kernel
theorem dX9_maySlideAlone_4 : decode cX9_maySlideAlone 4 = .ok (.istore 5, 2) := by decide +kernel
theorem dX9_maySlideAlone_6 : decode cX9_maySlideAlone 6 = .ok (.iload 5, 2) := by decide +kernel
theorem dX9_maySlideAlone_8 : decode cX9_maySlideAlone 8 = .ok (.aload_n 0, 1) := by decide +kernel
theorem dX9_maySlideAlone_9 : decode cX9_maySlideAlone 9 = .ok (.getfield 16, 3) := by decide +kernel
theorem dX9_maySlideAlone_12 : decode cX9_maySlideAlone 12 = .ok (.iload_n 1, 1) := by decide +kernel
theorem dX9_maySlideAlone_13 : decode cX9_maySlideAlone 13 = .ok (.iaload, 1) := by decide +kernel
theorem dX9_maySlideAlone_14 : decode cX9_maySlideAlone 14 = .ok (.if_icmp .ge 92, 3) := by decide +kernel
theorem dX9_maySlideAlone_17 : decode cX9_maySlideAlone 17 = .ok (.iload 4, 2) := by decide +kernel
theorem dX9_maySlideAlone_19 : decode cX9_maySlideAlone 19 = .ok (.ifCond .eq 87, 3) := by decide +kernel
theorem dX9_maySlideAlone_22 : decode cX9_maySlideAlone 22 = .ok (.aload_n 0, 1) := by decide +kernel
theorem dX9_maySlideAlone_23 : decode cX9_maySlideAlone 23 = .ok (.iload_n 1, 1) := by decide +kernel
theorem dX9_maySlideAlone_24 : decode cX9_maySlideAlone 24 = .ok (.iload 5, 2) := by decide +kernel
theorem dX9_maySlideAlone_26 : decode cX9_maySlideAlone 26 = .ok (.iload_n 2, 1) := by decide +kernel
theorem dX9_maySlideAlone_27 : decode cX9_maySlideAlone 27 = .ok (.invokevirtual 164, 3) := by decide +kernel
theorem dX9_maySlideAlone_30 : decode cX9_maySlideAlone 30 = .ok (.iload_n 3, 1) := by decide +kernel
theorem dX9_maySlideAlone_31 : decode cX9_maySlideAlone 31 = .ok (.invokestatic 175, 3) := by decide +kernel
theorem dX9_maySlideAlone_34 : decode cX9_maySlideAlone 34 = .ok (.iadd, 1) := by decide +kernel
theorem dX9_maySlideAlone_35 : decode cX9_maySlideAlone 35 = .ok (.istore 6, 2) := by decide +kernel
theorem dX9_maySlideAlone_37 : decode cX9_maySlideAlone 37 = .ok (.aload_n 0, 1) := by decide +kernel
theorem dX9_maySlideAlone_38 : decode cX9_maySlideAlone 38 = .ok (.iload_n 1, 1) := by decide +kernel
theorem dX9_maySlideAlone_39 : decode cX9_maySlideAlone 39 = .ok (.iload 5, 2) := by decide +kernel
theorem dX9_maySlideAlone_41 : decode cX9_maySlideAlone 41 = .ok (.iload_n 2, 1) := by decide +kernel
theorem dX9_maySlideAlone_42 : decode cX9_maySlideAlone 42 = .ok (.invokevirtual 161, 3) := by decide +kernel
theorem dX9_maySlideAlone_45 : decode cX9_maySlideAlone 45 = .ok (.iload_n 3, 1) := by decide +kernel
theorem dX9_maySlideAlone_46 : decode cX9_maySlideAlone 46 = .ok (.invokestatic 179, 3) := by decide +kernel
theorem dX9_maySlideAlone_49 : decode cX9_maySlideAlone 49 = .ok (.iadd, 1) := by decide +kernel
theorem dX9_maySlideAlone_50 : decode cX9_maySlideAlone 50 = .ok (.istore 7, 2) := by decide +kernel
theorem dX9_maySlideAlone_52 : decode cX9_maySlideAlone 52 = .ok (.aload_n 0, 1) := by decide +kernel
theorem dX9_maySlideAlone_53 : decode cX9_maySlideAlone 53 = .ok (.iload 6, 2) := by decide +kernel
theorem dX9_maySlideAlone_55 : decode cX9_maySlideAlone 55 = .ok (.iload 7, 2) := by decide +kernel
theorem dX9_maySlideAlone_57 : decode cX9_maySlideAlone 57 = .ok (.invokevirtual 255, 3) := by decide +kernel
theorem dX9_maySlideAlone_60 : decode cX9_maySlideAlone 60 = .ok (.ifCond .eq 37, 3) := by decide +kernel
theorem dX9_maySlideAlone_63 : decode cX9_maySlideAlone 63 = .ok (.aload_n 0, 1) := by decide +kernel
theorem dX9_maySlideAlone_64 : decode cX9_maySlideAlone 64 = .ok (.iload 6, 2) := by decide +kernel
theorem dX9_maySlideAlone_66 : decode cX9_maySlideAlone 66 = .ok (.iload 7, 2) := by decide +kernel
theorem dX9_maySlideAlone_68 : decode cX9_maySlideAlone 68 = .ok (.invokevirtual 171, 3) := by decide +kernel
theorem dX9_maySlideAlone_71 : decode cX9_maySlideAlone 71 = .ok (.iconst 2, 1) := by decide +kernel
theorem dX9_maySlideAlone_72 : decode cX9_maySlideAlone 72 = .ok (.iconst 5, 1) := by decide +kernel
theorem dX9_maySlideAlone_73 : decode cX9_maySlideAlone 73 = .ok (.invokestatic 119, 3) := by decide +kernel
theorem dX9_maySlideAlone_76 : decode cX9_maySlideAlone 76 = .ok (.ifCond .eq 17, 3) := by decide +kernel
theorem dX9_maySlideAlone_79 : decode cX9_maySlideAlone 79 = .ok (.aload_n 0, 1) := by decide +kernel
theorem dX9_maySlideAlone_80 : decode cX9_maySlideAlone 80 = .ok (.iload 6, 2) := by decide +kernel
theorem dX9_maySlideAlone_82 : decode cX9_maySlideAlone 82 = .ok (.iload 7, 2) := by decide +kernel
theorem dX9_maySlideAlone_84 : decode cX9_maySlideAlone 84 = .ok (.invokevirtual 171, 3) := by decide +kernel
theorem dX9_maySlideAlone_87 : decode cX9_maySlideAlone 87 = .ok (.iconst 2, 1) := by decide +kernel
theorem dX9_maySlideAlone_88 : decode cX9_maySlideAlone 88 = .ok (.iload_n 3, 1) := by decide +kernel
theorem dX9_maySlideAlone_89 : decode cX9_maySlideAlone 89 = .ok (.iadd, 1) := by decide +kernel
theorem dX9_maySlideAlone_90 : decode cX9_maySlideAlone 90 = .ok (.if_icmp .ne 7, 3) := by decide +kernel
theorem dX9_maySlideAlone_93 : decode cX9_maySlideAlone 93 = .ok (.iconst 1, 1) := by decide +kernel
theorem dX9_maySlideAlone_94 : decode cX9_maySlideAlone 94 = .ok (.goto 4, 3) := by decide +kernel
theorem dX9_maySlideAlone_97 : decode cX9_maySlideAlone 97 = .ok (.iconst 0, 1) := by decide +kernel
theorem dX9_maySlideAlone_98 : decode cX9_maySlideAlone 98 = .ok (.istore 4, 2) := by decide +kernel
theorem dX9_maySlideAlone_100 : decode cX9_maySlideAlone 100 = .ok (.iinc 5 1, 3) := by decide +kernel
theorem dX9_maySlideAlone_103 : decode cX9_maySlideAlone 103 = .ok (.goto (-97), 3) := by decide +kernel
theorem dX9_maySlideAlone_106 : decode cX9_maySlideAlone 106 = .ok (.iload 4, 2) := by decide +kernel
theorem dX9_maySlideAlone_108 : decode cX9_maySlideAlone 108 = .ok (.ireturn, 1) := by decide +kernel
theorem dX9_mayTurnAlone_0 : decode cX9_mayTurnAlone 0 = .ok (.iload_n 2, 1) := by decide +kernel
theorem dX9_mayTurnAlone_1 : decode cX9_mayTurnAlone 1 = .ok (.bipush 8, 2) := by decide +kernel
theorem dX9_mayTurnAlone_3 : decode cX9_mayTurnAlone 3 = .ok (.irem, 1) := by decide +kernel
theorem dX9_mayTurnAlone_4 : decode cX9_mayTurnAlone 4 = .ok (.istore 4, 2) := by decide +kernel
theorem dX9_mayTurnAlone_6 : decode cX9_mayTurnAlone 6 = .ok (.iload_n 2, 1) := by decide +kernel
theorem dX9_mayTurnAlone_7 : decode cX9_mayTurnAlone 7 = .ok (.bipush 8, 2) := by decide +kernel
theorem dX9_mayTurnAlone_9 : decode cX9_mayTurnAlone 9 = .ok (.idiv, 1) := by decide +kernel
theorem dX9_mayTurnAlone_10 : decode cX9_mayTurnAlone 10 = .ok (.bipush 8, 2) := by decide +kernel
theorem dX9_mayTurnAlone_12 : decode cX9_mayTurnAlone 12 = .ok (.irem, 1) := by decide +kernel
theorem dX9_mayTurnAlone_13 : decode cX9_mayTurnAlone 13 = .ok (.istore 5, 2) := by decide +kernel
theorem dX9_mayTurnAlone_15 : decode cX9_mayTurnAlone 15 = .ok (.iconst 1, 1) := by decide +kernel
theorem dX9_mayTurnAlone_16 : decode cX9_mayTurnAlone 16 = .ok (.istore 6, 2) := by decide +kernel
theorem dX9_mayTurnAlone_18 : decode cX9_mayTurnAlone 18 = .ok (.iconst 0, 1) := by decide +kernel
theorem dX9_mayTurnAlone_19 : decode cX9_mayTurnAlone 19 = .ok (.istore 7, 2) := by decide +kernel
theorem dX9_mayTurnAlone_21 : decode cX9_mayTurnAlone 21 = .ok (.iload 7, 2) := by decide +kernel
theorem dX9_mayTurnAlone_23 : decode cX9_mayTurnAlone 23 = .ok (.aload_n 0, 1) := by decide +kernel
theorem dX9_mayTurnAlone_24 : decode cX9_mayTurnAlone 24 = .ok (.getfield 16, 3) := by decide +kernel
theorem dX9_mayTurnAlone_27 : decode cX9_mayTurnAlone 27 = .ok (.iload_n 1, 1) := by decide +kernel
theorem dX9_mayTurnAlone_28 : decode cX9_mayTurnAlone 28 = .ok (.iaload, 1) := by decide +kernel
theorem dX9_mayTurnAlone_29 : decode cX9_mayTurnAlone 29 = .ok (.if_icmp .ge 164, 3) := by decide +kernel
theorem dX9_mayTurnAlone_32 : decode cX9_mayTurnAlone 32 = .ok (.iload 6, 2) := by decide +kernel
theorem dX9_mayTurnAlone_34 : decode cX9_mayTurnAlone 34 = .ok (.ifCond .eq 159, 3) := by decide +kernel
theorem dX9_mayTurnAlone_37 : decode cX9_mayTurnAlone 37 = .ok (.aload_n 0, 1) := by decide +kernel
theorem dX9_mayTurnAlone_38 : decode cX9_mayTurnAlone 38 = .ok (.aload_n 0, 1) := by decide +kernel
theorem dX9_mayTurnAlone_39 : decode cX9_mayTurnAlone 39 = .ok (.iload_n 1, 1) := by decide +kernel
theorem dX9_mayTurnAlone_40 : decode cX9_mayTurnAlone 40 = .ok (.iload 7, 2) := by decide +kernel
theorem dX9_mayTurnAlone_42 : decode cX9_mayTurnAlone 42 = .ok (.iload_n 2, 1) := by decide +kernel
theorem dX9_mayTurnAlone_43 : decode cX9_mayTurnAlone 43 = .ok (.invokevirtual 164, 3) := by decide +kernel
theorem dX9_mayTurnAlone_46 : decode cX9_mayTurnAlone 46 = .ok (.iload 4, 2) := by decide +kernel
theorem dX9_mayTurnAlone_48 : decode cX9_mayTurnAlone 48 = .ok (.isub, 1) := by decide +kernel
theorem dX9_mayTurnAlone_49 : decode cX9_mayTurnAlone 49 = .ok (.putfield 188, 3) := by decide +kernel
theorem dX9_mayTurnAlone_52 : decode cX9_mayTurnAlone 52 = .ok (.aload_n 0, 1) := by decide +kernel
theorem dX9_mayTurnAlone_53 : decode cX9_mayTurnAlone 53 = .ok (.aload_n 0, 1) := by decide +kernel
theorem dX9_mayTurnAlone_54 : decode cX9_mayTurnAlone 54 = .ok (.iload_n 1, 1) := by decide +kernel
theorem dX9_mayTurnAlone_55 : decode cX9_mayTurnAlone 55 = .ok (.iload 7, 2) := by decide +kernel
theorem dX9_mayTurnAlone_57 : decode cX9_mayTurnAlone 57 = .ok (.iload_n 2, 1) := by decide +kernel
theorem dX9_mayTurnAlone_58 : decode cX9_mayTurnAlone 58 = .ok (.invokevirtual 161, 3) := by decide +kernel
theorem dX9_mayTurnAlone_61 : decode cX9_mayTurnAlone 61 = .ok (.iload 5, 2) := by decide +kernel
theorem dX9_mayTurnAlone_63 : decode cX9_mayTurnAlone 63 = .ok (.isub, 1) := by decide +kernel
theorem dX9_mayTurnAlone_64 : decode cX9_mayTurnAlone 64 = .ok (.putfield 191, 3) := by decide +kernel
theorem dX9_mayTurnAlone_67 : decode cX9_mayTurnAlone 67 = .ok (.aload_n 0, 1) := by decide +kernel
theorem dX9_mayTurnAlone_68 : decode cX9_mayTurnAlone 68 = .ok (.getfield 188, 3) := by decide +kernel
theorem dX9_mayTurnAlone_71 : decode cX9_mayTurnAlone 71 = .ok (.invokestatic 194, 3) := by decide +kernel
theorem dX9_mayTurnAlone_74 : decode cX9_mayTurnAlone 74 = .ok (.aload_n 0, 1) := by decide +kernel
theorem dX9_mayTurnAlone_75 : decode cX9_mayTurnAlone 75 = .ok (.getfield 191, 3) := by decide +kernel
theorem dX9_mayTurnAlone_78 : decode cX9_mayTurnAlone 78 = .ok (.invokestatic 194, 3) := by decide +kernel
theorem dX9_mayTurnAlone_81 : decode cX9_mayTurnAlone 81 = .ok (.if_icmp .le 13, 3) := by decide +kernel
theorem dX9_mayTurnAlone_84 : decode cX9_mayTurnAlone 84 = .ok (.aload_n 0, 1) := by decide +kernel
theorem dX9_mayTurnAlone_85 : decode cX9_mayTurnAlone 85 = .ok (.getfield 188, 3) := by decide +kernel
theorem dX9_mayTurnAlone_88 : decode cX9_mayTurnAlone 88 = .ok (.invokestatic 194, 3) := by decide +kernel
theorem dX9_mayTurnAlone_91 : decode cX9_mayTurnAlone 91 = .ok (.goto 10, 3) := by decide +kernel
theorem dX9_mayTurnAlone_94 : decode cX9_mayTurnAlone 94 = .ok (.aload_n 0, 1) := by decide +kernel
theorem dX9_mayTurnAlone_95 : decode cX9_mayTurnAlone 95 = .ok (.getfield 191, 3) := by decide +kernel
theorem dX9_mayTurnAlone_98 : decode cX9_mayTurnAlone 98 = .ok (.invokestatic 194, 3) := by decide +kernel
theorem dX9_mayTurnAlone_101 : decode cX9_mayTurnAlone 101 = .ok (.istore 8, 2) := by decide +kernel
theorem dX9_mayTurnAlone_103 : decode cX9_mayTurnAlone 103 = .ok (.iconst 0, 1) := by decide +kernel
theorem dX9_mayTurnAlone_104 : decode cX9_mayTurnAlone 104 = .ok (.istore 9, 2) := by decide +kernel
theorem dX9_mayTurnAlone_106 : decode cX9_mayTurnAlone 106 = .ok (.iload 9, 2) := by decide +kernel
theorem dX9_mayTurnAlone_108 : decode cX9_mayTurnAlone 108 = .ok (.iconst 2, 1) := by decide +kernel
theorem dX9_mayTurnAlone_109 : decode cX9_mayTurnAlone 109 = .ok (.iload 8, 2) := by decide +kernel
theorem dX9_mayTurnAlone_111 : decode cX9_mayTurnAlone 111 = .ok (.imul, 1) := by decide +kernel
theorem dX9_mayTurnAlone_112 : decode cX9_mayTurnAlone 112 = .ok (.if_icmp .ge 75, 3) := by decide +kernel
theorem dX9_mayTurnAlone_115 : decode cX9_mayTurnAlone 115 = .ok (.iload 6, 2) := by decide +kernel
theorem dX9_mayTurnAlone_117 : decode cX9_mayTurnAlone 117 = .ok (.ifCond .eq 70, 3) := by decide +kernel
theorem dX9_mayTurnAlone_120 : decode cX9_mayTurnAlone 120 = .ok (.aload_n 0, 1) := by decide +kernel
theorem dX9_mayTurnAlone_121 : decode cX9_mayTurnAlone 121 = .ok (.iload 8, 2) := by decide +kernel
theorem dX9_mayTurnAlone_123 : decode cX9_mayTurnAlone 123 = .ok (.iload_n 3, 1) := by decide +kernel
theorem dX9_mayTurnAlone_124 : decode cX9_mayTurnAlone 124 = .ok (.invokevirtual 197, 3) := by decide +kernel
theorem dX9_mayTurnAlone_127 : decode cX9_mayTurnAlone 127 = .ok (.aload_n 0, 1) := by decide +kernel
theorem dX9_mayTurnAlone_128 : decode cX9_mayTurnAlone 128 = .ok (.iload 4, 2) := by decide +kernel
theorem dX9_mayTurnAlone_130 : decode cX9_mayTurnAlone 130 = .ok (.aload_n 0, 1) := by decide +kernel
theorem dX9_mayTurnAlone_131 : decode cX9_mayTurnAlone 131 = .ok (.getfield 188, 3) := by decide +kernel
theorem dX9_mayTurnAlone_134 : decode cX9_mayTurnAlone 134 = .ok (.iadd, 1) := by decide +kernel
theorem dX9_mayTurnAlone_135 : decode cX9_mayTurnAlone 135 = .ok (.iload 5, 2) := by decide +kernel
theorem dX9_mayTurnAlone_137 : decode cX9_mayTurnAlone 137 = .ok (.aload_n 0, 1) := by decide +kernel
theorem dX9_mayTurnAlone_138 : decode cX9_mayTurnAlone 138 = .ok (.getfield 191, 3) := by decide +kernel
theorem dX9_mayTurnAlone_141 : decode cX9_mayTurnAlone 141 = .ok (.iadd, 1) := by decide +kernel
theorem dX9_mayTurnAlone_142 : decode cX9_mayTurnAlone 142 = .ok (.invokevirtual 255, 3) := by decide +kernel
theorem dX9_mayTurnAlone_145 : decode cX9_mayTurnAlone 145 = .ok (.ifCond .eq 33, 3) := by decide +kernel
theorem dX9_mayTurnAlone_148 : decode cX9_mayTurnAlone 148 = .ok (.aload_n 0, 1) := by decide +kernel
theorem dX9_mayTurnAlone_149 : decode cX9_mayTurnAlone 149 = .ok (.iload 4, 2) := by decide +kernel
theorem dX9_mayTurnAlone_151 : decode cX9_mayTurnAlone 151 = .ok (.aload_n 0, 1) := by decide +kernel
theorem dX9_mayTurnAlone_152 : decode cX9_mayTurnAlone 152 = .ok (.getfield 188, 3) := by decide +kernel
theorem dX9_mayTurnAlone_155 : decode cX9_mayTurnAlone 155 = .ok (.iadd, 1) := by decide +kernel
theorem dX9_mayTurnAlone_156 : decode cX9_mayTurnAlone 156 = .ok (.iload 5, 2) := by decide +kernel
theorem dX9_mayTurnAlone_158 : decode cX9_mayTurnAlone 158 = .ok (.aload_n 0, 1) := by decide +kernel
theorem dX9_mayTurnAlone_159 : decode cX9_mayTurnAlone 159 = .ok (.getfield 191, 3) := by decide +kernel
theorem dX9_mayTurnAlone_162 : decode cX9_mayTurnAlone 162 = .ok (.iadd, 1) := by decide +kernel
theorem dX9_mayTurnAlone_163 : decode cX9_mayTurnAlone 163 = .ok (.invokevirtual 171, 3) := by decide +kernel
theorem dX9_mayTurnAlone_166 : decode cX9_mayTurnAlone 166 = .ok (.iconst 2, 1) := by decide +kernel
theorem dX9_mayTurnAlone_167 : decode cX9_mayTurnAlone 167 = .ok (.iconst 5, 1) := by decide +kernel
theorem dX9_mayTurnAlone_168 : decode cX9_mayTurnAlone 168 = .ok (.invokestatic 119, 3) := by decide +kernel
theorem dX9_mayTurnAlone_171 : decode cX9_mayTurnAlone 171 = .ok (.ifCond .ne 7, 3) := by decide +kernel
theorem dX9_mayTurnAlone_174 : decode cX9_mayTurnAlone 174 = .ok (.iconst 1, 1) := by decide +kernel
theorem dX9_mayTurnAlone_175 : decode cX9_mayTurnAlone 175 = .ok (.goto 4, 3) := by decide +kernel
theorem dX9_mayTurnAlone_178 : decode cX9_mayTurnAlone 178 = .ok (.iconst 0, 1) := by decide +kernel
theorem dX9_mayTurnAlone_179 : decode cX9_mayTurnAlone 179 = .ok (.istore 6, 2) := by decide +kernel
theorem dX9_mayTurnAlone_181 : decode cX9_mayTurnAlone 181 = .ok (.iinc 9 1, 3) := by decide +kernel
theorem dX9_mayTurnAlone_184 : decode cX9_mayTurnAlone 184 = .ok (.goto (-78), 3) := by decide +kernel
theorem dX9_mayTurnAlone_187 : decode cX9_mayTurnAlone 187 = .ok (.iinc 7 1, 3) := by decide +kernel
theorem dX9_mayTurnAlone_190 : decode cX9_mayTurnAlone 190 = .ok (.goto (-169), 3) := by decide +kernel
theorem dX9_mayTurnAlone_193 : decode cX9_mayTurnAlone 193 = .ok (.iload 6, 2) := by decide +kernel
theorem dX9_mayTurnAlone_195 : decode cX9_mayTurnAlone 195 = .ok (.ireturn, 1) := by decide +kernel
