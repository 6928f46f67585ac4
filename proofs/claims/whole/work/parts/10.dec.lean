theorem dX0_init_0 : decode cX0_init 0 = .ok (.aload_n 0, 1) := by decide +kernel
theorem dX0_init_1 : decode cX0_init 1 = .ok (.invokespecial 1, 3) := by decide +kernel
theorem dX0_init_4 : decode cX0_init 4 = .ok (.aload_n 0, 1) := by decide +kernel
theorem dX0_init_5 : decode cX0_init 5 = .ok (.bipush 50, 2) := by decide +kernel
theorem dX0_init_7 : decode cX0_init 7 = .ok (.newarray .int, 2) := by decide +kernel
theorem dX0_init_9 : decode cX0_init 9 = .ok (.putfield 9, 3) := by decide +kernel
theorem dX0_init_12 : decode cX0_init 12 = .ok (.aload_n 0, 1) := by decide +kernel
theorem dX0_init_13 : decode cX0_init 13 = .ok (.bipush 24, 2) := by decide +kernel
theorem dX0_init_15 : decode cX0_init 15 = .ok (.newarray .int, 2) := by decide +kernel
theorem dX0_init_17 : decode cX0_init 17 = .ok (.putfield 13, 3) := by decide +kernel
theorem dX0_init_20 : decode cX0_init 20 = .ok (.return_, 1) := by decide +kernel
theorem dX0_isFull_0 : decode cX0_isFull 0 = .ok (.aload_n 0, 1) := by decide +kernel
theorem dX0_isFull_1 : decode cX0_isFull 1 = .ok (.getfield 16, 3) := by decide +kernel
theorem dX0_isFull_4 : decode cX0_isFull 4 = .ok (.bipush 50, 2) := by decide +kernel
theorem dX0_isFull_6 : decode cX0_isFull 6 = .ok (.if_icmp .lt 7, 3) := by decide +kernel
theorem dX0_isFull_9 : decode cX0_isFull 9 = .ok (.iconst 1, 1) := by decide +kernel
theorem dX0_isFull_10 : decode cX0_isFull 10 = .ok (.goto 4, 3) := by decide +kernel
theorem dX0_isFull_13 : decode cX0_isFull 13 = .ok (.iconst 0, 1) := by decide +kernel
theorem dX0_isFull_14 : decode cX0_isFull 14 = .ok (.ireturn, 1) := by decide +kernel
theorem dX0_add_0 : decode cX0_add 0 = .ok (.aload_n 0, 1) := by decide +kernel
theorem dX0_add_1 : decode cX0_add 1 = .ok (.getfield 9, 3) := by decide +kernel
theorem dX0_add_4 : decode cX0_add 4 = .ok (.aload_n 0, 1) := by decide +kernel
theorem dX0_add_5 : decode cX0_add 5 = .ok (.getfield 16, 3) := by decide +kernel
theorem dX0_add_8 : decode cX0_add 8 = .ok (.iload_n 1, 1) := by decide +kernel
theorem dX0_add_9 : decode cX0_add 9 = .ok (.iastore, 1) := by decide +kernel
theorem dX0_add_10 : decode cX0_add 10 = .ok (.aload_n 0, 1) := by decide +kernel
theorem dX0_add_11 : decode cX0_add 11 = .ok (.dup, 1) := by decide +kernel
theorem dX0_add_12 : decode cX0_add 12 = .ok (.getfield 16, 3) := by decide +kernel
theorem dX0_add_15 : decode cX0_add 15 = .ok (.iconst 1, 1) := by decide +kernel
theorem dX0_add_16 : decode cX0_add 16 = .ok (.iadd, 1) := by decide +kernel
theorem dX0_add_17 : decode cX0_add 17 = .ok (.putfield 16, 3) := by decide +kernel
theorem dX0_add_20 : decode cX0_add 20 = .ok (.aload_n 0, 1) := by decide +kernel
theorem dX0_add_21 : decode cX0_add 21 = .ok (.getfield 16, 3) := by decide +kernel
theorem dX0_add_24 : decode cX0_add 24 = .ok (.iconst 1, 1) := by decide +kernel
theorem dX0_add_25 : decode cX0_add 25 = .ok (.isub, 1) := by decide +kernel
theorem dX0_add_26 : decode cX0_add 26 = .ok (.ireturn, 1) := by decide +kernel
theorem dX0_knows_0 : decode cX0_knows 0 = .ok (.iload_n 1, 1) := by decide +kernel
theorem dX0_knows_1 : decode cX0_knows 1 = .ok (.ifCond .lt 15, 3) := by decide +kernel
theorem dX0_knows_4 : decode cX0_knows 4 = .ok (.iload_n 1, 1) := by decide +kernel
theorem dX0_knows_5 : decode cX0_knows 5 = .ok (.aload_n 0, 1) := by decide +kernel
theorem dX0_knows_6 : decode cX0_knows 6 = .ok (.getfield 16, 3) := by decide +kernel
theorem dX0_knows_9 : decode cX0_knows 9 = .ok (.if_icmp .ge 7, 3) := by decide +kernel
theorem dX0_knows_12 : decode cX0_knows 12 = .ok (.iconst 1, 1) := by decide +kernel
theorem dX0_knows_13 : decode cX0_knows 13 = .ok (.goto 4, 3) := by decide +kernel
theorem dX0_knows_16 : decode cX0_knows 16 = .ok (.iconst 0, 1) := by decide +kernel
theorem dX0_knows_17 : decode cX0_knows 17 = .ok (.ireturn, 1) := by decide +kernel
theorem dX0_traced_0 : decode cX0_traced 0 = .ok (.aload_n 0, 1) := by decide +kernel
theorem dX0_traced_1 : decode cX0_traced 1 = .ok (.getfield 20, 3) := by decide +kernel
theorem dX0_traced_4 : decode cX0_traced 4 = .ok (.bipush 24, 2) := by decide +kernel
theorem dX0_traced_6 : decode cX0_traced 6 = .ok (.invokestatic 23, 3) := by decide +kernel
theorem dX0_traced_9 : decode cX0_traced 9 = .ok (.ireturn, 1) := by decide +kernel
theorem dX0_isUnder_0 : decode cX0_isUnder 0 = .ok (.iload_n 0, 1) := by decide +kernel
theorem dX0_isUnder_1 : decode cX0_isUnder 1 = .ok (.istore_n 2, 1) := by decide +kernel
theorem dX0_isUnder_2 : decode cX0_isUnder 2 = .ok (.iconst 0, 1) := by decide +kernel
theorem dX0_isUnder_3 : decode cX0_isUnder 3 = .ok (.istore_n 3, 1) := by decide +kernel
theorem dX0_isUnder_4 : decode cX0_isUnder 4 = .ok (.iload_n 3, 1) := by decide +kernel
theorem dX0_isUnder_5 : decode cX0_isUnder 5 = .ok (.bipush 8, 2) := by decide +kernel
theorem dX0_isUnder_7 : decode cX0_isUnder 7 = .ok (.if_icmp .ge 26, 3) := by decide +kernel
theorem dX0_isUnder_10 : decode cX0_isUnder 10 = .ok (.iload_n 2, 1) := by decide +kernel
theorem dX0_isUnder_11 : decode cX0_isUnder 11 = .ok (.ifCond .lt 22, 3) := by decide +kernel
theorem dX0_isUnder_14 : decode cX0_isUnder 14 = .ok (.iload_n 2, 1) := by decide +kernel
theorem dX0_isUnder_15 : decode cX0_isUnder 15 = .ok (.iload_n 1, 1) := by decide +kernel
theorem dX0_isUnder_16 : decode cX0_isUnder 16 = .ok (.if_icmp .ne 5, 3) := by decide +kernel
theorem dX0_isUnder_19 : decode cX0_isUnder 19 = .ok (.iconst 1, 1) := by decide +kernel
theorem dX0_isUnder_20 : decode cX0_isUnder 20 = .ok (.ireturn, 1) := by decide +kernel
theorem dX0_isUnder_21 : decode cX0_isUnder 21 = .ok (.getstatic 29, 3) := by decide +kernel
theorem dX0_isUnder_24 : decode cX0_isUnder 24 = .ok (.iload_n 2, 1) := by decide +kernel
theorem dX0_isUnder_25 : decode cX0_isUnder 25 = .ok (.iaload, 1) := by decide +kernel
theorem dX0_isUnder_26 : decode cX0_isUnder 26 = .ok (.istore_n 2, 1) := by decide +kernel
theorem dX0_isUnder_27 : decode cX0_isUnder 27 = .ok (.iinc 3 1, 3) := by decide +kernel
theorem dX0_isUnder_30 : decode cX0_isUnder 30 = .ok (.goto (-26), 3) := by decide +kernel
theorem dX0_isUnder_33 : decode cX0_isUnder 33 = .ok (.iconst 0, 1) := by decide +kernel
theorem dX0_isUnder_34 : decode cX0_isUnder 34 = .ok (.ireturn, 1) := by decide +kernel
theorem dX0_own_0 : decode cX0_own 0 = .ok (.aload_n 0, 1) := by decide +kernel
theorem dX0_own_1 : decode cX0_own 1 = .ok (.iload_n 1, 1) := by decide +kernel
theorem dX0_own_2 : decode cX0_own 2 = .ok (.aload_n 0, 1) := by decide +kernel
theorem dX0_own_3 : decode cX0_own 3 = .ok (.getfield 9, 3) := by decide +kernel
theorem dX0_own_6 : decode cX0_own 6 = .ok (.iload_n 1, 1) := by decide +kernel
theorem dX0_own_7 : decode cX0_own 7 = .ok (.iaload, 1) := by decide +kernel
theorem dX0_own_8 : decode cX0_own 8 = .ok (.iload_n 2, 1) := by decide +kernel
theorem dX0_own_9 : decode cX0_own 9 = .ok (.iload_n 3, 1) := by decide +kernel
theorem dX0_own_10 : decode cX0_own 10 = .ok (.iload 4, 2) := by decide +kernel
theorem dX0_own_12 : decode cX0_own 12 = .ok (.iconst 1, 1) := by decide +kernel
theorem dX0_own_13 : decode cX0_own 13 = .ok (.iadd, 1) := by decide +kernel
theorem dX0_own_14 : decode cX0_own 14 = .ok (.invokevirtual 32, 3) := by decide +kernel
theorem dX0_own_17 : decode cX0_own 17 = .ok (.ireturn, 1) := by decide +kernel
theorem dX0_run_0 : decode cX0_run 0 = .ok (.iload_n 2, 1) := by decide +kernel
theorem dX0_run_1 : decode cX0_run 1 = .ok (.istore 6, 2) := by decide +kernel
theorem dX0_run_3 : decode cX0_run 3 = .ok (.iconst 0, 1) := by decide +kernel
theorem dX0_run_4 : decode cX0_run 4 = .ok (.istore 7, 2) := by decide +kernel
theorem dX0_run_6 : decode cX0_run 6 = .ok (.iload 7, 2) := by decide +kernel
theorem dX0_run_8 : decode cX0_run 8 = .ok (.bipush 8, 2) := by decide +kernel
theorem dX0_run_10 : decode cX0_run 10 = .ok (.if_icmp .ge 35, 3) := by decide +kernel
theorem dX0_run_13 : decode cX0_run 13 = .ok (.iload 6, 2) := by decide +kernel
theorem dX0_run_15 : decode cX0_run 15 = .ok (.ifCond .lt 30, 3) := by decide +kernel
theorem dX0_run_18 : decode cX0_run 18 = .ok (.getstatic 36, 3) := by decide +kernel
theorem dX0_run_21 : decode cX0_run 21 = .ok (.iload 6, 2) := by decide +kernel
theorem dX0_run_23 : decode cX0_run 23 = .ok (.iconst 4, 1) := by decide +kernel
theorem dX0_run_24 : decode cX0_run 24 = .ok (.imul, 1) := by decide +kernel
theorem dX0_run_25 : decode cX0_run 25 = .ok (.iload_n 3, 1) := by decide +kernel
theorem dX0_run_26 : decode cX0_run 26 = .ok (.iadd, 1) := by decide +kernel
theorem dX0_run_27 : decode cX0_run 27 = .ok (.iaload, 1) := by decide +kernel
theorem dX0_run_28 : decode cX0_run 28 = .ok (.ifCond .ne 17, 3) := by decide +kernel
theorem dX0_run_31 : decode cX0_run 31 = .ok (.getstatic 29, 3) := by decide +kernel
theorem dX0_run_34 : decode cX0_run 34 = .ok (.iload 6, 2) := by decide +kernel
theorem dX0_run_36 : decode cX0_run 36 = .ok (.iaload, 1) := by decide +kernel
theorem dX0_run_37 : decode cX0_run 37 = .ok (.istore 6, 2) := by decide +kernel
theorem dX0_run_39 : decode cX0_run 39 = .ok (.iinc 7 1, 3) := by decide +kernel
theorem dX0_run_42 : decode cX0_run 42 = .ok (.goto (-36), 3) := by decide +kernel
theorem dX0_run_45 : decode cX0_run 45 = .ok (.iload 6, 2) := by decide +kernel
theorem dX0_run_47 : decode cX0_run 47 = .ok (.ifCond .lt 10, 3) := by decide +kernel
theorem dX0_run_50 : decode cX0_run 50 = .ok (.iload 5, 2) := by decide +kernel
theorem dX0_run_52 : decode cX0_run 52 = .ok (.bipush 40, 2) := by decide +kernel
theorem dX0_run_54 : decode cX0_run 54 = .ok (.if_icmp .le 5, 3) := by decide +kernel
theorem dX0_run_57 : decode cX0_run 57 = .ok (.iconst 0, 1) := by decide +kernel
theorem dX0_run_58 : decode cX0_run 58 = .ok (.ireturn, 1) := by decide +kernel
theorem dX0_run_59 : decode cX0_run 59 = .ok (.getstatic 36, 3) := by decide +kernel
theorem dX0_run_62 : decode cX0_run 62 = .ok (.iload 6, 2) := by decide +kernel
theorem dX0_run_64 : decode cX0_run 64 = .ok (.iconst 4, 1) := by decide +kernel
theorem dX0_run_65 : decode cX0_run 65 = .ok (.imul, 1) := by decide +kernel
theorem dX0_run_66 : decode cX0_run 66 = .ok (.iload_n 3, 1) := by decide +kernel
theorem dX0_run_67 : decode cX0_run 67 = .ok (.iadd, 1) := by decide +kernel
theorem dX0_run_68 : decode cX0_run 68 = .ok (.iaload, 1) := by decide +kernel
theorem dX0_run_69 : decode cX0_run 69 = .ok (.istore 7, 2) := by decide +kernel
theorem dX0_run_71 : decode cX0_run 71 = .ok (.aload_n 0, 1) := by decide +kernel
theorem dX0_run_72 : decode cX0_run 72 = .ok (.iload 7, 2) := by decide +kernel
theorem dX0_run_74 : decode cX0_run 74 = .ok (.invokevirtual 39, 3) := by decide +kernel
theorem dX0_run_77 : decode cX0_run 77 = .ok (.iload 7, 2) := by decide +kernel
theorem dX0_run_79 : decode cX0_run 79 = .ok (.lookupswitch 114 #[(1, 49), (2, 54), (10, 75), (11, 88), (41, 93)], 49) := by decide +kernel
theorem dX0_run_128 : decode cX0_run 128 = .ok (.iload 4, 2) := by decide +kernel
theorem dX0_run_130 : decode cX0_run 130 = .ok (.iload_n 1, 1) := by decide +kernel
theorem dX0_run_131 : decode cX0_run 131 = .ok (.iadd, 1) := by decide +kernel
theorem dX0_run_132 : decode cX0_run 132 = .ok (.ireturn, 1) := by decide +kernel
theorem dX0_run_133 : decode cX0_run 133 = .ok (.aload_n 0, 1) := by decide +kernel
theorem dX0_run_134 : decode cX0_run 134 = .ok (.iload_n 1, 1) := by decide +kernel
theorem dX0_run_135 : decode cX0_run 135 = .ok (.iconst 1, 1) := by decide +kernel
theorem dX0_run_136 : decode cX0_run 136 = .ok (.iload 4, 2) := by decide +kernel
theorem dX0_run_138 : decode cX0_run 138 = .ok (.iload 5, 2) := by decide +kernel
theorem dX0_run_140 : decode cX0_run 140 = .ok (.invokevirtual 43, 3) := by decide +kernel
theorem dX0_run_143 : decode cX0_run 143 = .ok (.aload_n 0, 1) := by decide +kernel
theorem dX0_run_144 : decode cX0_run 144 = .ok (.iload_n 1, 1) := by decide +kernel
theorem dX0_run_145 : decode cX0_run 145 = .ok (.iconst 2, 1) := by decide +kernel
theorem dX0_run_146 : decode cX0_run 146 = .ok (.iconst 1, 1) := by decide +kernel
theorem dX0_run_147 : decode cX0_run 147 = .ok (.iload 5, 2) := by decide +kernel
theorem dX0_run_149 : decode cX0_run 149 = .ok (.invokevirtual 43, 3) := by decide +kernel
theorem dX0_run_152 : decode cX0_run 152 = .ok (.isub, 1) := by decide +kernel
theorem dX0_run_153 : decode cX0_run 153 = .ok (.ireturn, 1) := by decide +kernel
theorem dX0_run_154 : decode cX0_run 154 = .ok (.aload_n 0, 1) := by decide +kernel
theorem dX0_run_155 : decode cX0_run 155 = .ok (.iload_n 1, 1) := by decide +kernel
theorem dX0_run_156 : decode cX0_run 156 = .ok (.iconst 0, 1) := by decide +kernel
theorem dX0_run_157 : decode cX0_run 157 = .ok (.iload 4, 2) := by decide +kernel
theorem dX0_run_159 : decode cX0_run 159 = .ok (.iload 5, 2) := by decide +kernel
theorem dX0_run_161 : decode cX0_run 161 = .ok (.invokevirtual 43, 3) := by decide +kernel
theorem dX0_run_164 : decode cX0_run 164 = .ok (.iconst 2, 1) := by decide +kernel
theorem dX0_run_165 : decode cX0_run 165 = .ok (.imul, 1) := by decide +kernel
theorem dX0_run_166 : decode cX0_run 166 = .ok (.ireturn, 1) := by decide +kernel
theorem dX0_run_167 : decode cX0_run 167 = .ok (.iload 4, 2) := by decide +kernel
theorem dX0_run_169 : decode cX0_run 169 = .ok (.iload_n 1, 1) := by decide +kernel
theorem dX0_run_170 : decode cX0_run 170 = .ok (.ixor, 1) := by decide +kernel
theorem dX0_run_171 : decode cX0_run 171 = .ok (.ireturn, 1) := by decide +kernel
theorem dX0_run_172 : decode cX0_run 172 = .ok (.aload_n 0, 1) := by decide +kernel
theorem dX0_run_173 : decode cX0_run 173 = .ok (.iload_n 1, 1) := by decide +kernel
theorem dX0_run_174 : decode cX0_run 174 = .ok (.getstatic 29, 3) := by decide +kernel
theorem dX0_run_177 : decode cX0_run 177 = .ok (.iload 6, 2) := by decide +kernel
theorem dX0_run_179 : decode cX0_run 179 = .ok (.iaload, 1) := by decide +kernel
theorem dX0_run_180 : decode cX0_run 180 = .ok (.iload_n 3, 1) := by decide +kernel
theorem dX0_run_181 : decode cX0_run 181 = .ok (.iload 4, 2) := by decide +kernel
theorem dX0_run_183 : decode cX0_run 183 = .ok (.iconst 1, 1) := by decide +kernel
theorem dX0_run_184 : decode cX0_run 184 = .ok (.iadd, 1) := by decide +kernel
theorem dX0_run_185 : decode cX0_run 185 = .ok (.iload 5, 2) := by decide +kernel
theorem dX0_run_187 : decode cX0_run 187 = .ok (.iconst 1, 1) := by decide +kernel
theorem dX0_run_188 : decode cX0_run 188 = .ok (.iadd, 1) := by decide +kernel
theorem dX0_run_189 : decode cX0_run 189 = .ok (.invokevirtual 32, 3) := by decide +kernel
theorem dX0_run_192 : decode cX0_run 192 = .ok (.ireturn, 1) := by decide +kernel
theorem dX0_run_193 : decode cX0_run 193 = .ok (.aload_n 0, 1) := by decide +kernel
theorem dX0_run_194 : decode cX0_run 194 = .ok (.iload 7, 2) := by decide +kernel
theorem dX0_run_196 : decode cX0_run 196 = .ok (.aload_n 0, 1) := by decide +kernel
theorem dX0_run_197 : decode cX0_run 197 = .ok (.iload_n 1, 1) := by decide +kernel
theorem dX0_run_198 : decode cX0_run 198 = .ok (.getstatic 29, 3) := by decide +kernel
theorem dX0_run_201 : decode cX0_run 201 = .ok (.iload 6, 2) := by decide +kernel
theorem dX0_run_203 : decode cX0_run 203 = .ok (.iaload, 1) := by decide +kernel
theorem dX0_run_204 : decode cX0_run 204 = .ok (.iload_n 3, 1) := by decide +kernel
theorem dX0_run_205 : decode cX0_run 205 = .ok (.iload 4, 2) := by decide +kernel
theorem dX0_run_207 : decode cX0_run 207 = .ok (.iload 5, 2) := by decide +kernel
theorem dX0_run_209 : decode cX0_run 209 = .ok (.iconst 1, 1) := by decide +kernel
theorem dX0_run_210 : decode cX0_run 210 = .ok (.iadd, 1) := by decide +kernel
theorem dX0_run_211 : decode cX0_run 211 = .ok (.invokevirtual 32, 3) := by decide +kernel
theorem dX0_run_214 : decode cX0_run 214 = .ok (.iload_n 1, 1) := by decide +kernel
theorem dX0_run_215 : decode cX0_run 215 = .ok (.iload 5, 2) := by decide +kernel
theorem dX0_run_217 : decode cX0_run 217 = .ok (.invokevirtual 47, 3) := by decide +kernel
theorem dX0_run_220 : decode cX0_run 220 = .ok (.ireturn, 1) := by decide +kernel
theorem dX0_uponAbove_0 : decode cX0_uponAbove 0 = .ok (.iload_n 1, 1) := by decide +kernel
theorem dX0_uponAbove_1 : decode cX0_uponAbove 1 = .ok (.lookupswitch 134 #[(20, 83), (30, 87), (40, 90), (50, 94), (60, 98), (61, 110), (70, 114), (80, 118), (81, 130)], 83) := by decide +kernel
theorem dX0_uponAbove_84 : decode cX0_uponAbove 84 = .ok (.iload_n 2, 1) := by decide +kernel
theorem dX0_uponAbove_85 : decode cX0_uponAbove 85 = .ok (.iconst 3, 1) := by decide +kernel
theorem dX0_uponAbove_86 : decode cX0_uponAbove 86 = .ok (.iadd, 1) := by decide +kernel
theorem dX0_uponAbove_87 : decode cX0_uponAbove 87 = .ok (.ireturn, 1) := by decide +kernel
theorem dX0_uponAbove_88 : decode cX0_uponAbove 88 = .ok (.iload_n 2, 1) := by decide +kernel
theorem dX0_uponAbove_89 : decode cX0_uponAbove 89 = .ok (.ineg, 1) := by decide +kernel
theorem dX0_uponAbove_90 : decode cX0_uponAbove 90 = .ok (.ireturn, 1) := by decide +kernel
theorem dX0_uponAbove_91 : decode cX0_uponAbove 91 = .ok (.iload_n 2, 1) := by decide +kernel
theorem dX0_uponAbove_92 : decode cX0_uponAbove 92 = .ok (.iconst 3, 1) := by decide +kernel
theorem dX0_uponAbove_93 : decode cX0_uponAbove 93 = .ok (.imul, 1) := by decide +kernel
theorem dX0_uponAbove_94 : decode cX0_uponAbove 94 = .ok (.ireturn, 1) := by decide +kernel
theorem dX0_uponAbove_95 : decode cX0_uponAbove 95 = .ok (.iload_n 2, 1) := by decide +kernel
theorem dX0_uponAbove_96 : decode cX0_uponAbove 96 = .ok (.iconst 5, 1) := by decide +kernel
theorem dX0_uponAbove_97 : decode cX0_uponAbove 97 = .ok (.ixor, 1) := by decide +kernel
theorem dX0_uponAbove_98 : decode cX0_uponAbove 98 = .ok (.ireturn, 1) := by decide +kernel
theorem dX0_uponAbove_99 : decode cX0_uponAbove 99 = .ok (.iload_n 2, 1) := by decide +kernel
theorem dX0_uponAbove_100 : decode cX0_uponAbove 100 = .ok (.aload_n 0, 1) := by decide +kernel
theorem dX0_uponAbove_101 : decode cX0_uponAbove 101 = .ok (.iload_n 3, 1) := by decide +kernel
theorem dX0_uponAbove_102 : decode cX0_uponAbove 102 = .ok (.iconst 0, 1) := by decide +kernel
theorem dX0_uponAbove_103 : decode cX0_uponAbove 103 = .ok (.iconst 2, 1) := by decide +kernel
theorem dX0_uponAbove_104 : decode cX0_uponAbove 104 = .ok (.iload 4, 2) := by decide +kernel
theorem dX0_uponAbove_106 : decode cX0_uponAbove 106 = .ok (.invokevirtual 43, 3) := by decide +kernel
theorem dX0_uponAbove_109 : decode cX0_uponAbove 109 = .ok (.isub, 1) := by decide +kernel
theorem dX0_uponAbove_110 : decode cX0_uponAbove 110 = .ok (.ireturn, 1) := by decide +kernel
theorem dX0_uponAbove_111 : decode cX0_uponAbove 111 = .ok (.iload_n 2, 1) := by decide +kernel
theorem dX0_uponAbove_112 : decode cX0_uponAbove 112 = .ok (.iconst 1, 1) := by decide +kernel
theorem dX0_uponAbove_113 : decode cX0_uponAbove 113 = .ok (.iadd, 1) := by decide +kernel
theorem dX0_uponAbove_114 : decode cX0_uponAbove 114 = .ok (.ireturn, 1) := by decide +kernel
theorem dX0_uponAbove_115 : decode cX0_uponAbove 115 = .ok (.iload_n 2, 1) := by decide +kernel
theorem dX0_uponAbove_116 : decode cX0_uponAbove 116 = .ok (.iconst 2, 1) := by decide +kernel
theorem dX0_uponAbove_117 : decode cX0_uponAbove 117 = .ok (.imul, 1) := by decide +kernel
theorem dX0_uponAbove_118 : decode cX0_uponAbove 118 = .ok (.ireturn, 1) := by decide +kernel
theorem dX0_uponAbove_119 : decode cX0_uponAbove 119 = .ok (.iload_n 2, 1) := by decide +kernel
theorem dX0_uponAbove_120 : decode cX0_uponAbove 120 = .ok (.aload_n 0, 1) := by decide +kernel
theorem dX0_uponAbove_121 : decode cX0_uponAbove 121 = .ok (.iload_n 3, 1) := by decide +kernel
theorem dX0_uponAbove_122 : decode cX0_uponAbove 122 = .ok (.iconst 2, 1) := by decide +kernel
theorem dX0_uponAbove_123 : decode cX0_uponAbove 123 = .ok (.iconst 2, 1) := by decide +kernel
theorem dX0_uponAbove_124 : decode cX0_uponAbove 124 = .ok (.iload 4, 2) := by decide +kernel
theorem dX0_uponAbove_126 : decode cX0_uponAbove 126 = .ok (.invokevirtual 43, 3) := by decide +kernel
theorem dX0_uponAbove_129 : decode cX0_uponAbove 129 = .ok (.iadd, 1) := by decide +kernel
theorem dX0_uponAbove_130 : decode cX0_uponAbove 130 = .ok (.ireturn, 1) := by decide +kernel
theorem dX0_uponAbove_131 : decode cX0_uponAbove 131 = .ok (.iload_n 2, 1) := by decide +kernel
theorem dX0_uponAbove_132 : decode cX0_uponAbove 132 = .ok (.iconst 1, 1) := by decide +kernel
theorem dX0_uponAbove_133 : decode cX0_uponAbove 133 = .ok (.isub, 1) := by decide +kernel
theorem dX0_uponAbove_134 : decode cX0_uponAbove 134 = .ok (.ireturn, 1) := by decide +kernel
theorem dX0_uponAbove_135 : decode cX0_uponAbove 135 = .ok (.iload_n 2, 1) := by decide +kernel
theorem dX0_uponAbove_136 : decode cX0_uponAbove 136 = .ok (.ireturn, 1) := by decide +kernel
theorem dX0_begin_0 : decode cX0_begin 0 = .ok (.aload_n 0, 1) := by decide +kernel
theorem dX0_begin_1 : decode cX0_begin 1 = .ok (.getfield 20, 3) := by decide +kernel
theorem dX0_begin_4 : decode cX0_begin 4 = .ok (.bipush 24, 2) := by decide +kernel
theorem dX0_begin_6 : decode cX0_begin 6 = .ok (.if_icmp .ge 13, 3) := by decide +kernel
theorem dX0_begin_9 : decode cX0_begin 9 = .ok (.aload_n 0, 1) := by decide +kernel
theorem dX0_begin_10 : decode cX0_begin 10 = .ok (.getfield 13, 3) := by decide +kernel
theorem dX0_begin_13 : decode cX0_begin 13 = .ok (.aload_n 0, 1) := by decide +kernel
theorem dX0_begin_14 : decode cX0_begin 14 = .ok (.getfield 20, 3) := by decide +kernel
theorem dX0_begin_17 : decode cX0_begin 17 = .ok (.iload_n 1, 1) := by decide +kernel
theorem dX0_begin_18 : decode cX0_begin 18 = .ok (.iastore, 1) := by decide +kernel
theorem dX0_begin_19 : decode cX0_begin 19 = .ok (.aload_n 0, 1) := by decide +kernel
theorem dX0_begin_20 : decode cX0_begin 20 = .ok (.dup, 1) := by decide +kernel
theorem dX0_begin_21 : decode cX0_begin 21 = .ok (.getfield 20, 3) := by decide +kernel
theorem dX0_begin_24 : decode cX0_begin 24 = .ok (.iconst 1, 1) := by decide +kernel
theorem dX0_begin_25 : decode cX0_begin 25 = .ok (.iadd, 1) := by decide +kernel
theorem dX0_begin_26 : decode cX0_begin 26 = .ok (.putfield 20, 3) := by decide +kernel
theorem dX0_begin_29 : decode cX0_begin 29 = .ok (.return_, 1) := by decide +kernel
theorem dX1_init_0 : decode cX1_init 0 = .ok (.aload_n 0, 1) := by decide +kernel
theorem dX1_init_1 : decode cX1_init 1 = .ok (.invokespecial 1, 3) := by decide +kernel
theorem dX1_init_4 : decode cX1_init 4 = .ok (.aload_n 0, 1) := by decide +kernel
theorem dX1_init_5 : decode cX1_init 5 = .ok (.bipush 40, 2) := by decide +kernel
theorem dX1_init_7 : decode cX1_init 7 = .ok (.newarray .int, 2) := by decide +kernel
theorem dX1_init_9 : decode cX1_init 9 = .ok (.putfield 9, 3) := by decide +kernel
theorem dX1_init_12 : decode cX1_init 12 = .ok (.aload_n 0, 1) := by decide +kernel
theorem dX1_init_13 : decode cX1_init 13 = .ok (.bipush 40, 2) := by decide +kernel
theorem dX1_init_15 : decode cX1_init 15 = .ok (.newarray .int, 2) := by decide +kernel
theorem dX1_init_17 : decode cX1_init 17 = .ok (.putfield 13, 3) := by decide +kernel
theorem dX1_init_20 : decode cX1_init 20 = .ok (.aload_n 0, 1) := by decide +kernel
theorem dX1_init_21 : decode cX1_init 21 = .ok (.bipush 40, 2) := by decide +kernel
theorem dX1_init_23 : decode cX1_init 23 = .ok (.newarray .int, 2) := by decide +kernel
theorem dX1_init_25 : decode cX1_init 25 = .ok (.putfield 16, 3) := by decide +kernel
theorem dX1_init_28 : decode cX1_init 28 = .ok (.aload_n 0, 1) := by decide +kernel
theorem dX1_init_29 : decode cX1_init 29 = .ok (.bipush 40, 2) := by decide +kernel
theorem dX1_init_31 : decode cX1_init 31 = .ok (.newarray .int, 2) := by decide +kernel
theorem dX1_init_33 : decode cX1_init 33 = .ok (.putfield 19, 3) := by decide +kernel
theorem dX1_init_36 : decode cX1_init 36 = .ok (.return_, 1) := by decide +kernel
theorem dX1_note_0 : decode cX1_note 0 = .ok (.aload_n 0, 1) := by decide +kernel
theorem dX1_note_1 : decode cX1_note 1 = .ok (.getfield 22, 3) := by decide +kernel
theorem dX1_note_4 : decode cX1_note 4 = .ok (.bipush 40, 2) := by decide +kernel
theorem dX1_note_6 : decode cX1_note 6 = .ok (.if_icmp .lt 7, 3) := by decide +kernel
theorem dX1_note_9 : decode cX1_note 9 = .ok (.aload_n 0, 1) := by decide +kernel
theorem dX1_note_10 : decode cX1_note 10 = .ok (.invokevirtual 26, 3) := by decide +kernel
theorem dX1_note_13 : decode cX1_note 13 = .ok (.aload_n 0, 1) := by decide +kernel
theorem dX1_note_14 : decode cX1_note 14 = .ok (.getfield 9, 3) := by decide +kernel
theorem dX1_note_17 : decode cX1_note 17 = .ok (.aload_n 0, 1) := by decide +kernel
theorem dX1_note_18 : decode cX1_note 18 = .ok (.getfield 22, 3) := by decide +kernel
theorem dX1_note_21 : decode cX1_note 21 = .ok (.iload_n 1, 1) := by decide +kernel
theorem dX1_note_22 : decode cX1_note 22 = .ok (.iastore, 1) := by decide +kernel
theorem dX1_note_23 : decode cX1_note 23 = .ok (.aload_n 0, 1) := by decide +kernel
theorem dX1_note_24 : decode cX1_note 24 = .ok (.getfield 13, 3) := by decide +kernel
theorem dX1_note_27 : decode cX1_note 27 = .ok (.aload_n 0, 1) := by decide +kernel
theorem dX1_note_28 : decode cX1_note 28 = .ok (.getfield 22, 3) := by decide +kernel
theorem dX1_note_31 : decode cX1_note 31 = .ok (.iload_n 2, 1) := by decide +kernel
theorem dX1_note_32 : decode cX1_note 32 = .ok (.iastore, 1) := by decide +kernel
theorem dX1_note_33 : decode cX1_note 33 = .ok (.aload_n 0, 1) := by decide +kernel
theorem dX1_note_34 : decode cX1_note 34 = .ok (.getfield 16, 3) := by decide +kernel
theorem dX1_note_37 : decode cX1_note 37 = .ok (.aload_n 0, 1) := by decide +kernel
theorem dX1_note_38 : decode cX1_note 38 = .ok (.getfield 22, 3) := by decide +kernel
theorem dX1_note_41 : decode cX1_note 41 = .ok (.iload_n 3, 1) := by decide +kernel
theorem dX1_note_42 : decode cX1_note 42 = .ok (.iastore, 1) := by decide +kernel
theorem dX1_note_43 : decode cX1_note 43 = .ok (.aload_n 0, 1) := by decide +kernel
theorem dX1_note_44 : decode cX1_note 44 = .ok (.getfield 19, 3) := by decide +kernel
theorem dX1_note_47 : decode cX1_note 47 = .ok (.aload_n 0, 1) := by decide +kernel
theorem dX1_note_48 : decode cX1_note 48 = .ok (.getfield 22, 3) := by decide +kernel
theorem dX1_note_51 : decode cX1_note 51 = .ok (.iload 4, 2) := by decide +kernel
theorem dX1_note_53 : decode cX1_note 53 = .ok (.iastore, 1) := by decide +kernel
theorem dX1_note_54 : decode cX1_note 54 = .ok (.aload_n 0, 1) := by decide +kernel
theorem dX1_note_55 : decode cX1_note 55 = .ok (.dup, 1) := by decide +kernel
theorem dX1_note_56 : decode cX1_note 56 = .ok (.getfield 22, 3) := by decide +kernel
theorem dX1_note_59 : decode cX1_note 59 = .ok (.iconst 1, 1) := by decide +kernel
theorem dX1_note_60 : decode cX1_note 60 = .ok (.iadd, 1) := by decide +kernel
theorem dX1_note_61 : decode cX1_note 61 = .ok (.putfield 22, 3) := by decide +kernel
theorem dX1_note_64 : decode cX1_note 64 = .ok (.aload_n 0, 1) := by decide +kernel
theorem dX1_note_65 : decode cX1_note 65 = .ok (.aload_n 0, 1) := by decide +kernel
theorem dX1_note_66 : decode cX1_note 66 = .ok (.getfield 22, 3) := by decide +kernel
theorem dX1_note_69 : decode cX1_note 69 = .ok (.putfield 29, 3) := by decide +kernel
theorem dX1_note_72 : decode cX1_note 72 = .ok (.return_, 1) := by decide +kernel
theorem dX1_forgetFirst_0 : decode cX1_forgetFirst 0 = .ok (.aload_n 0, 1) := by decide +kernel
theorem dX1_forgetFirst_1 : decode cX1_forgetFirst 1 = .ok (.bipush 39, 2) := by decide +kernel
theorem dX1_forgetFirst_3 : decode cX1_forgetFirst 3 = .ok (.putfield 22, 3) := by decide +kernel
theorem dX1_forgetFirst_6 : decode cX1_forgetFirst 6 = .ok (.aload_n 0, 1) := by decide +kernel
theorem dX1_forgetFirst_7 : decode cX1_forgetFirst 7 = .ok (.getfield 9, 3) := by decide +kernel
theorem dX1_forgetFirst_10 : decode cX1_forgetFirst 10 = .ok (.iconst 1, 1) := by decide +kernel
theorem dX1_forgetFirst_11 : decode cX1_forgetFirst 11 = .ok (.aload_n 0, 1) := by decide +kernel
theorem dX1_forgetFirst_12 : decode cX1_forgetFirst 12 = .ok (.getfield 9, 3) := by decide +kernel
theorem dX1_forgetFirst_15 : decode cX1_forgetFirst 15 = .ok (.iconst 0, 1) := by decide +kernel
theorem dX1_forgetFirst_16 : decode cX1_forgetFirst 16 = .ok (.aload_n 0, 1) := by decide +kernel
theorem dX1_forgetFirst_17 : decode cX1_forgetFirst 17 = .ok (.getfield 22, 3) := by decide +kernel
theorem dX1_forgetFirst_20 : decode cX1_forgetFirst 20 = .ok (.invokestatic 32, 3) := by decide +kernel
theorem dX1_forgetFirst_23 : decode cX1_forgetFirst 23 = .ok (.aload_n 0, 1) := by decide +kernel
theorem dX1_forgetFirst_24 : decode cX1_forgetFirst 24 = .ok (.getfield 13, 3) := by decide +kernel
theorem dX1_forgetFirst_27 : decode cX1_forgetFirst 27 = .ok (.iconst 1, 1) := by decide +kernel
theorem dX1_forgetFirst_28 : decode cX1_forgetFirst 28 = .ok (.aload_n 0, 1) := by decide +kernel
theorem dX1_forgetFirst_29 : decode cX1_forgetFirst 29 = .ok (.getfield 13, 3) := by decide +kernel
theorem dX1_forgetFirst_32 : decode cX1_forgetFirst 32 = .ok (.iconst 0, 1) := by decide +kernel
theorem dX1_forgetFirst_33 : decode cX1_forgetFirst 33 = .ok (.aload_n 0, 1) := by decide +kernel
theorem dX1_forgetFirst_34 : decode cX1_forgetFirst 34 = .ok (.getfield 22, 3) := by decide +kernel
theorem dX1_forgetFirst_37 : decode cX1_forgetFirst 37 = .ok (.invokestatic 32, 3) := by decide +kernel
theorem dX1_forgetFirst_40 : decode cX1_forgetFirst 40 = .ok (.aload_n 0, 1) := by decide +kernel
theorem dX1_forgetFirst_41 : decode cX1_forgetFirst 41 = .ok (.getfield 16, 3) := by decide +kernel
theorem dX1_forgetFirst_44 : decode cX1_forgetFirst 44 = .ok (.iconst 1, 1) := by decide +kernel
theorem dX1_forgetFirst_45 : decode cX1_forgetFirst 45 = .ok (.aload_n 0, 1) := by decide +kernel
theorem dX1_forgetFirst_46 : decode cX1_forgetFirst 46 = .ok (.getfield 16, 3) := by decide +kernel
theorem dX1_forgetFirst_49 : decode cX1_forgetFirst 49 = .ok (.iconst 0, 1) := by decide +kernel
theorem dX1_forgetFirst_50 : decode cX1_forgetFirst 50 = .ok (.aload_n 0, 1) := by decide +kernel
theorem dX1_forgetFirst_51 : decode cX1_forgetFirst 51 = .ok (.getfield 22, 3) := by decide +kernel
theorem dX1_forgetFirst_54 : decode cX1_forgetFirst 54 = .ok (.invokestatic 32, 3) := by decide +kernel
theorem dX1_forgetFirst_57 : decode cX1_forgetFirst 57 = .ok (.aload_n 0, 1) := by decide +kernel
theorem dX1_forgetFirst_58 : decode cX1_forgetFirst 58 = .ok (.getfield 19, 3) := by decide +kernel
theorem dX1_forgetFirst_61 : decode cX1_forgetFirst 61 = .ok (.iconst 1, 1) := by decide +kernel
theorem dX1_forgetFirst_62 : decode cX1_forgetFirst 62 = .ok (.aload_n 0, 1) := by decide +kernel
theorem dX1_forgetFirst_63 : decode cX1_forgetFirst 63 = .ok (.getfield 19, 3) := by decide +kernel
theorem dX1_forgetFirst_66 : decode cX1_forgetFirst 66 = .ok (.iconst 0, 1) := by decide +kernel
theorem dX1_forgetFirst_67 : decode cX1_forgetFirst 67 = .ok (.aload_n 0, 1) := by decide +kernel
theorem dX1_forgetFirst_68 : decode cX1_forgetFirst 68 = .ok (.getfield 22, 3) := by decide +kernel
theorem dX1_forgetFirst_71 : decode cX1_forgetFirst 71 = .ok (.invokestatic 32, 3) := by decide +kernel
theorem dX1_forgetFirst_74 : decode cX1_forgetFirst 74 = .ok (.return_, 1) := by decide +kernel
theorem dX1_takeBack_0 : decode cX1_takeBack 0 = .ok (.aload_n 0, 1) := by decide +kernel
theorem dX1_takeBack_1 : decode cX1_takeBack 1 = .ok (.getfield 22, 3) := by decide +kernel
theorem dX1_takeBack_4 : decode cX1_takeBack 4 = .ok (.ifCond .gt 5, 3) := by decide +kernel
theorem dX1_takeBack_7 : decode cX1_takeBack 7 = .ok (.iconst 0, 1) := by decide +kernel
theorem dX1_takeBack_8 : decode cX1_takeBack 8 = .ok (.ireturn, 1) := by decide +kernel
theorem dX1_takeBack_9 : decode cX1_takeBack 9 = .ok (.aload_n 0, 1) := by decide +kernel
theorem dX1_takeBack_10 : decode cX1_takeBack 10 = .ok (.dup, 1) := by decide +kernel
theorem dX1_takeBack_11 : decode cX1_takeBack 11 = .ok (.getfield 22, 3) := by decide +kernel
theorem dX1_takeBack_14 : decode cX1_takeBack 14 = .ok (.iconst 1, 1) := by decide +kernel
theorem dX1_takeBack_15 : decode cX1_takeBack 15 = .ok (.isub, 1) := by decide +kernel
theorem dX1_takeBack_16 : decode cX1_takeBack 16 = .ok (.putfield 22, 3) := by decide +kernel
theorem dX1_takeBack_19 : decode cX1_takeBack 19 = .ok (.aload_n 1, 1) := by decide +kernel
theorem dX1_takeBack_20 : decode cX1_takeBack 20 = .ok (.aload_n 0, 1) := by decide +kernel
theorem dX1_takeBack_21 : decode cX1_takeBack 21 = .ok (.getfield 9, 3) := by decide +kernel
theorem dX1_takeBack_24 : decode cX1_takeBack 24 = .ok (.aload_n 0, 1) := by decide +kernel
theorem dX1_takeBack_25 : decode cX1_takeBack 25 = .ok (.getfield 22, 3) := by decide +kernel
theorem dX1_takeBack_28 : decode cX1_takeBack 28 = .ok (.iaload, 1) := by decide +kernel
theorem dX1_takeBack_29 : decode cX1_takeBack 29 = .ok (.aload_n 0, 1) := by decide +kernel
theorem dX1_takeBack_30 : decode cX1_takeBack 30 = .ok (.getfield 13, 3) := by decide +kernel
theorem dX1_takeBack_33 : decode cX1_takeBack 33 = .ok (.aload_n 0, 1) := by decide +kernel
theorem dX1_takeBack_34 : decode cX1_takeBack 34 = .ok (.getfield 22, 3) := by decide +kernel
theorem dX1_takeBack_37 : decode cX1_takeBack 37 = .ok (.iaload, 1) := by decide +kernel
theorem dX1_takeBack_38 : decode cX1_takeBack 38 = .ok (.aload_n 0, 1) := by decide +kernel
theorem dX1_takeBack_39 : decode cX1_takeBack 39 = .ok (.getfield 16, 3) := by decide +kernel
theorem dX1_takeBack_42 : decode cX1_takeBack 42 = .ok (.aload_n 0, 1) := by decide +kernel
theorem dX1_takeBack_43 : decode cX1_takeBack 43 = .ok (.getfield 22, 3) := by decide +kernel
theorem dX1_takeBack_46 : decode cX1_takeBack 46 = .ok (.iaload, 1) := by decide +kernel
theorem dX1_takeBack_47 : decode cX1_takeBack 47 = .ok (.invokevirtual 38, 3) := by decide +kernel
theorem dX1_takeBack_50 : decode cX1_takeBack 50 = .ok (.iconst 1, 1) := by decide +kernel
theorem dX1_takeBack_51 : decode cX1_takeBack 51 = .ok (.ireturn, 1) := by decide +kernel
theorem dX1_doAgain_0 : decode cX1_doAgain 0 = .ok (.aload_n 0, 1) := by decide +kernel
theorem dX1_doAgain_1 : decode cX1_doAgain 1 = .ok (.getfield 22, 3) := by decide +kernel
theorem dX1_doAgain_4 : decode cX1_doAgain 4 = .ok (.aload_n 0, 1) := by decide +kernel
theorem dX1_doAgain_5 : decode cX1_doAgain 5 = .ok (.getfield 29, 3) := by decide +kernel
theorem dX1_doAgain_8 : decode cX1_doAgain 8 = .ok (.if_icmp .lt 5, 3) := by decide +kernel
theorem dX1_doAgain_11 : decode cX1_doAgain 11 = .ok (.iconst 0, 1) := by decide +kernel
theorem dX1_doAgain_12 : decode cX1_doAgain 12 = .ok (.ireturn, 1) := by decide +kernel
theorem dX1_doAgain_13 : decode cX1_doAgain 13 = .ok (.aload_n 1, 1) := by decide +kernel
theorem dX1_doAgain_14 : decode cX1_doAgain 14 = .ok (.aload_n 0, 1) := by decide +kernel
theorem dX1_doAgain_15 : decode cX1_doAgain 15 = .ok (.getfield 9, 3) := by decide +kernel
theorem dX1_doAgain_18 : decode cX1_doAgain 18 = .ok (.aload_n 0, 1) := by decide +kernel
theorem dX1_doAgain_19 : decode cX1_doAgain 19 = .ok (.getfield 22, 3) := by decide +kernel
theorem dX1_doAgain_22 : decode cX1_doAgain 22 = .ok (.iaload, 1) := by decide +kernel
theorem dX1_doAgain_23 : decode cX1_doAgain 23 = .ok (.aload_n 0, 1) := by decide +kernel
theorem dX1_doAgain_24 : decode cX1_doAgain 24 = .ok (.getfield 13, 3) := by decide +kernel
theorem dX1_doAgain_27 : decode cX1_doAgain 27 = .ok (.aload_n 0, 1) := by decide +kernel
theorem dX1_doAgain_28 : decode cX1_doAgain 28 = .ok (.getfield 22, 3) := by decide +kernel
theorem dX1_doAgain_31 : decode cX1_doAgain 31 = .ok (.iaload, 1) := by decide +kernel
theorem dX1_doAgain_32 : decode cX1_doAgain 32 = .ok (.aload_n 0, 1) := by decide +kernel
theorem dX1_doAgain_33 : decode cX1_doAgain 33 = .ok (.getfield 19, 3) := by decide +kernel
theorem dX1_doAgain_36 : decode cX1_doAgain 36 = .ok (.aload_n 0, 1) := by decide +kernel
theorem dX1_doAgain_37 : decode cX1_doAgain 37 = .ok (.getfield 22, 3) := by decide +kernel
theorem dX1_doAgain_40 : decode cX1_doAgain 40 = .ok (.iaload, 1) := by decide +kernel
theorem dX1_doAgain_41 : decode cX1_doAgain 41 = .ok (.invokevirtual 38, 3) := by decide +kernel
theorem dX1_doAgain_44 : decode cX1_doAgain 44 = .ok (.aload_n 0, 1) := by decide +kernel
theorem dX1_doAgain_45 : decode cX1_doAgain 45 = .ok (.dup, 1) := by decide +kernel
theorem dX1_doAgain_46 : decode cX1_doAgain 46 = .ok (.getfield 22, 3) := by decide +kernel
theorem dX1_doAgain_49 : decode cX1_doAgain 49 = .ok (.iconst 1, 1) := by decide +kernel
theorem dX1_doAgain_50 : decode cX1_doAgain 50 = .ok (.iadd, 1) := by decide +kernel
theorem dX1_doAgain_51 : decode cX1_doAgain 51 = .ok (.putfield 22, 3) := by decide +kernel
theorem dX1_doAgain_54 : decode cX1_doAgain 54 = .ok (.iconst 1, 1) := by decide +kernel
theorem dX1_doAgain_55 : decode cX1_doAgain 55 = .ok (.ireturn, 1) := by decide +kernel
theorem dX2_init_0 : decode cX2_init 0 = .ok (.aload_n 0, 1) := by decide +kernel
theorem dX2_init_1 : decode cX2_init 1 = .ok (.invokespecial 3, 3) := by decide +kernel
theorem dX2_init_4 : decode cX2_init 4 = .ok (.aload_n 0, 1) := by decide +kernel
theorem dX2_init_5 : decode cX2_init 5 = .ok (.bipush 7, 2) := by decide +kernel
theorem dX2_init_7 : decode cX2_init 7 = .ok (.newarray .int, 2) := by decide +kernel
theorem dX2_init_9 : decode cX2_init 9 = .ok (.putfield 9, 3) := by decide +kernel
theorem dX2_init_12 : decode cX2_init 12 = .ok (.aload_n 0, 1) := by decide +kernel
theorem dX2_init_13 : decode cX2_init 13 = .ok (.bipush 7, 2) := by decide +kernel
theorem dX2_init_15 : decode cX2_init 15 = .ok (.newarray .int, 2) := by decide +kernel
theorem dX2_init_17 : decode cX2_init 17 = .ok (.putfield 15, 3) := by decide +kernel
theorem dX2_init_20 : decode cX2_init 20 = .ok (.aload_n 0, 1) := by decide +kernel
theorem dX2_init_21 : decode cX2_init 21 = .ok (.bipush 7, 2) := by decide +kernel
theorem dX2_init_23 : decode cX2_init 23 = .ok (.newarray .int, 2) := by decide +kernel
theorem dX2_init_25 : decode cX2_init 25 = .ok (.putfield 18, 3) := by decide +kernel
theorem dX2_init_28 : decode cX2_init 28 = .ok (.aload_n 0, 1) := by decide +kernel
theorem dX2_init_29 : decode cX2_init 29 = .ok (.bipush 14, 2) := by decide +kernel
theorem dX2_init_31 : decode cX2_init 31 = .ok (.newarray .int, 2) := by decide +kernel
theorem dX2_init_33 : decode cX2_init 33 = .ok (.dup, 1) := by decide +kernel
theorem dX2_init_34 : decode cX2_init 34 = .ok (.iconst 0, 1) := by decide +kernel
theorem dX2_init_35 : decode cX2_init 35 = .ok (.iconst 0, 1) := by decide +kernel
theorem dX2_init_36 : decode cX2_init 36 = .ok (.iastore, 1) := by decide +kernel
theorem dX2_init_37 : decode cX2_init 37 = .ok (.dup, 1) := by decide +kernel
theorem dX2_init_38 : decode cX2_init 38 = .ok (.iconst 1, 1) := by decide +kernel
theorem dX2_init_39 : decode cX2_init 39 = .ok (.iconst 0, 1) := by decide +kernel
theorem dX2_init_40 : decode cX2_init 40 = .ok (.iastore, 1) := by decide +kernel
theorem dX2_init_41 : decode cX2_init 41 = .ok (.dup, 1) := by decide +kernel
theorem dX2_init_42 : decode cX2_init 42 = .ok (.iconst 2, 1) := by decide +kernel
theorem dX2_init_43 : decode cX2_init 43 = .ok (.iconst 0, 1) := by decide +kernel
theorem dX2_init_44 : decode cX2_init 44 = .ok (.iastore, 1) := by decide +kernel
theorem dX2_init_45 : decode cX2_init 45 = .ok (.dup, 1) := by decide +kernel
theorem dX2_init_46 : decode cX2_init 46 = .ok (.iconst 3, 1) := by decide +kernel
theorem dX2_init_47 : decode cX2_init 47 = .ok (.iconst 0, 1) := by decide +kernel
theorem dX2_init_48 : decode cX2_init 48 = .ok (.iastore, 1) := by decide +kernel
theorem dX2_init_49 : decode cX2_init 49 = .ok (.dup, 1) := by decide +kernel
theorem dX2_init_50 : decode cX2_init 50 = .ok (.iconst 4, 1) := by decide +kernel
theorem dX2_init_51 : decode cX2_init 51 = .ok (.bipush 20, 2) := by decide +kernel
theorem dX2_init_53 : decode cX2_init 53 = .ok (.iastore, 1) := by decide +kernel
theorem dX2_init_54 : decode cX2_init 54 = .ok (.dup, 1) := by decide +kernel
theorem dX2_init_55 : decode cX2_init 55 = .ok (.iconst 5, 1) := by decide +kernel
theorem dX2_init_56 : decode cX2_init 56 = .ok (.iconst 1, 1) := by decide +kernel
theorem dX2_init_57 : decode cX2_init 57 = .ok (.iastore, 1) := by decide +kernel
theorem dX2_init_58 : decode cX2_init 58 = .ok (.dup, 1) := by decide +kernel
theorem dX2_init_59 : decode cX2_init 59 = .ok (.bipush 6, 2) := by decide +kernel
theorem dX2_init_61 : decode cX2_init 61 = .ok (.bipush 9, 2) := by decide +kernel
theorem dX2_init_63 : decode cX2_init 63 = .ok (.iastore, 1) := by decide +kernel
theorem dX2_init_64 : decode cX2_init 64 = .ok (.dup, 1) := by decide +kernel
theorem dX2_init_65 : decode cX2_init 65 = .ok (.bipush 7, 2) := by decide +kernel
theorem dX2_init_67 : decode cX2_init 67 = .ok (.iconst 4, 1) := by decide +kernel
theorem dX2_init_68 : decode cX2_init 68 = .ok (.iastore, 1) := by decide +kernel
theorem dX2_init_69 : decode cX2_init 69 = .ok (.dup, 1) := by decide +kernel
theorem dX2_init_70 : decode cX2_init 70 = .ok (.bipush 8, 2) := by decide +kernel
theorem dX2_init_72 : decode cX2_init 72 = .ok (.iconst 3, 1) := by decide +kernel
theorem dX2_init_73 : decode cX2_init 73 = .ok (.iastore, 1) := by decide +kernel
theorem dX2_init_74 : decode cX2_init 74 = .ok (.dup, 1) := by decide +kernel
theorem dX2_init_75 : decode cX2_init 75 = .ok (.bipush 9, 2) := by decide +kernel
theorem dX2_init_77 : decode cX2_init 77 = .ok (.iconst 3, 1) := by decide +kernel
theorem dX2_init_78 : decode cX2_init 78 = .ok (.iastore, 1) := by decide +kernel
theorem dX2_init_79 : decode cX2_init 79 = .ok (.dup, 1) := by decide +kernel
theorem dX2_init_80 : decode cX2_init 80 = .ok (.bipush 10, 2) := by decide +kernel
theorem dX2_init_82 : decode cX2_init 82 = .ok (.iconst 3, 1) := by decide +kernel
theorem dX2_init_83 : decode cX2_init 83 = .ok (.iastore, 1) := by decide +kernel
theorem dX2_init_84 : decode cX2_init 84 = .ok (.dup, 1) := by decide +kernel
theorem dX2_init_85 : decode cX2_init 85 = .ok (.bipush 11, 2) := by decide +kernel
theorem dX2_init_87 : decode cX2_init 87 = .ok (.iconst 1, 1) := by decide +kernel
theorem dX2_init_88 : decode cX2_init 88 = .ok (.iastore, 1) := by decide +kernel
theorem dX2_init_89 : decode cX2_init 89 = .ok (.dup, 1) := by decide +kernel
theorem dX2_init_90 : decode cX2_init 90 = .ok (.bipush 12, 2) := by decide +kernel
theorem dX2_init_92 : decode cX2_init 92 = .ok (.iconst 1, 1) := by decide +kernel
theorem dX2_init_93 : decode cX2_init 93 = .ok (.iastore, 1) := by decide +kernel
theorem dX2_init_94 : decode cX2_init 94 = .ok (.dup, 1) := by decide +kernel
theorem dX2_init_95 : decode cX2_init 95 = .ok (.bipush 13, 2) := by decide +kernel
theorem dX2_init_97 : decode cX2_init 97 = .ok (.iconst 2, 1) := by decide +kernel
theorem dX2_init_98 : decode cX2_init 98 = .ok (.iastore, 1) := by decide +kernel
theorem dX2_init_99 : decode cX2_init 99 = .ok (.putfield 21, 3) := by decide +kernel
theorem dX2_init_102 : decode cX2_init 102 = .ok (.aload_n 0, 1) := by decide +kernel
theorem dX2_init_103 : decode cX2_init 103 = .ok (.new 24, 3) := by decide +kernel
theorem dX2_init_106 : decode cX2_init 106 = .ok (.dup, 1) := by decide +kernel
theorem dX2_init_107 : decode cX2_init 107 = .ok (.invokespecial 26, 3) := by decide +kernel
theorem dX2_init_110 : decode cX2_init 110 = .ok (.putfield 27, 3) := by decide +kernel
theorem dX2_init_113 : decode cX2_init 113 = .ok (.return_, 1) := by decide +kernel
theorem dX2_isFull_0 : decode cX2_isFull 0 = .ok (.aload_n 0, 1) := by decide +kernel
theorem dX2_isFull_1 : decode cX2_isFull 1 = .ok (.getfield 31, 3) := by decide +kernel
theorem dX2_isFull_4 : decode cX2_isFull 4 = .ok (.bipush 7, 2) := by decide +kernel
theorem dX2_isFull_6 : decode cX2_isFull 6 = .ok (.if_icmp .lt 7, 3) := by decide +kernel
theorem dX2_isFull_9 : decode cX2_isFull 9 = .ok (.iconst 1, 1) := by decide +kernel
theorem dX2_isFull_10 : decode cX2_isFull 10 = .ok (.goto 4, 3) := by decide +kernel
theorem dX2_isFull_13 : decode cX2_isFull 13 = .ok (.iconst 0, 1) := by decide +kernel
theorem dX2_isFull_14 : decode cX2_isFull 14 = .ok (.ireturn, 1) := by decide +kernel
theorem dX2_add_0 : decode cX2_add 0 = .ok (.aload_n 0, 1) := by decide +kernel
theorem dX2_add_1 : decode cX2_add 1 = .ok (.getfield 31, 3) := by decide +kernel
theorem dX2_add_4 : decode cX2_add 4 = .ok (.istore 4, 2) := by decide +kernel
theorem dX2_add_6 : decode cX2_add 6 = .ok (.aload_n 0, 1) := by decide +kernel
theorem dX2_add_7 : decode cX2_add 7 = .ok (.getfield 9, 3) := by decide +kernel
theorem dX2_add_10 : decode cX2_add 10 = .ok (.iload 4, 2) := by decide +kernel
theorem dX2_add_12 : decode cX2_add 12 = .ok (.iload_n 1, 1) := by decide +kernel
theorem dX2_add_13 : decode cX2_add 13 = .ok (.iastore, 1) := by decide +kernel
theorem dX2_add_14 : decode cX2_add 14 = .ok (.aload_n 0, 1) := by decide +kernel
theorem dX2_add_15 : decode cX2_add 15 = .ok (.getfield 15, 3) := by decide +kernel
theorem dX2_add_18 : decode cX2_add 18 = .ok (.iload 4, 2) := by decide +kernel
theorem dX2_add_20 : decode cX2_add 20 = .ok (.iload_n 2, 1) := by decide +kernel
theorem dX2_add_21 : decode cX2_add 21 = .ok (.iastore, 1) := by decide +kernel
theorem dX2_add_22 : decode cX2_add 22 = .ok (.aload_n 0, 1) := by decide +kernel
theorem dX2_add_23 : decode cX2_add 23 = .ok (.getfield 18, 3) := by decide +kernel
theorem dX2_add_26 : decode cX2_add 26 = .ok (.iload 4, 2) := by decide +kernel
theorem dX2_add_28 : decode cX2_add 28 = .ok (.iload_n 3, 1) := by decide +kernel
theorem dX2_add_29 : decode cX2_add 29 = .ok (.iastore, 1) := by decide +kernel
theorem dX2_add_30 : decode cX2_add 30 = .ok (.aload_n 0, 1) := by decide +kernel
theorem dX2_add_31 : decode cX2_add 31 = .ok (.dup, 1) := by decide +kernel
theorem dX2_add_32 : decode cX2_add 32 = .ok (.getfield 35, 3) := by decide +kernel
theorem dX2_add_35 : decode cX2_add 35 = .ok (.iconst 1, 1) := by decide +kernel
theorem dX2_add_36 : decode cX2_add 36 = .ok (.iload 4, 2) := by decide +kernel
theorem dX2_add_38 : decode cX2_add 38 = .ok (.ishl, 1) := by decide +kernel
theorem dX2_add_39 : decode cX2_add 39 = .ok (.ior, 1) := by decide +kernel
theorem dX2_add_40 : decode cX2_add 40 = .ok (.putfield 35, 3) := by decide +kernel
theorem dX2_add_43 : decode cX2_add 43 = .ok (.aload_n 0, 1) := by decide +kernel
theorem dX2_add_44 : decode cX2_add 44 = .ok (.dup, 1) := by decide +kernel
theorem dX2_add_45 : decode cX2_add 45 = .ok (.getfield 31, 3) := by decide +kernel
theorem dX2_add_48 : decode cX2_add 48 = .ok (.iconst 1, 1) := by decide +kernel
theorem dX2_add_49 : decode cX2_add 49 = .ok (.iadd, 1) := by decide +kernel
theorem dX2_add_50 : decode cX2_add 50 = .ok (.putfield 31, 3) := by decide +kernel
theorem dX2_add_53 : decode cX2_add 53 = .ok (.aload_n 0, 1) := by decide +kernel
theorem dX2_add_54 : decode cX2_add 54 = .ok (.dup, 1) := by decide +kernel
theorem dX2_add_55 : decode cX2_add 55 = .ok (.getfield 38, 3) := by decide +kernel
theorem dX2_add_58 : decode cX2_add 58 = .ok (.iconst 1, 1) := by decide +kernel
theorem dX2_add_59 : decode cX2_add 59 = .ok (.iadd, 1) := by decide +kernel
theorem dX2_add_60 : decode cX2_add 60 = .ok (.putfield 38, 3) := by decide +kernel
theorem dX2_add_63 : decode cX2_add 63 = .ok (.iload 4, 2) := by decide +kernel
theorem dX2_add_65 : decode cX2_add 65 = .ok (.ireturn, 1) := by decide +kernel
theorem dX2_exists_0 : decode cX2_exists 0 = .ok (.iload_n 1, 1) := by decide +kernel
theorem dX2_exists_1 : decode cX2_exists 1 = .ok (.ifCond .lt 15, 3) := by decide +kernel
theorem dX2_exists_4 : decode cX2_exists 4 = .ok (.iload_n 1, 1) := by decide +kernel
theorem dX2_exists_5 : decode cX2_exists 5 = .ok (.aload_n 0, 1) := by decide +kernel
theorem dX2_exists_6 : decode cX2_exists 6 = .ok (.getfield 31, 3) := by decide +kernel
theorem dX2_exists_9 : decode cX2_exists 9 = .ok (.if_icmp .ge 7, 3) := by decide +kernel
theorem dX2_exists_12 : decode cX2_exists 12 = .ok (.iconst 1, 1) := by decide +kernel
theorem dX2_exists_13 : decode cX2_exists 13 = .ok (.goto 4, 3) := by decide +kernel
theorem dX2_exists_16 : decode cX2_exists 16 = .ok (.iconst 0, 1) := by decide +kernel
theorem dX2_exists_17 : decode cX2_exists 17 = .ok (.ireturn, 1) := by decide +kernel
theorem dX2_isInside_0 : decode cX2_isInside 0 = .ok (.aload_n 0, 1) := by decide +kernel
theorem dX2_isInside_1 : decode cX2_isInside 1 = .ok (.iload_n 1, 1) := by decide +kernel
theorem dX2_isInside_2 : decode cX2_isInside 2 = .ok (.invokevirtual 41, 3) := by decide +kernel
theorem dX2_isInside_5 : decode cX2_isInside 5 = .ok (.ifCond .eq 19, 3) := by decide +kernel
theorem dX2_isInside_8 : decode cX2_isInside 8 = .ok (.aload_n 0, 1) := by decide +kernel
theorem dX2_isInside_9 : decode cX2_isInside 9 = .ok (.getfield 35, 3) := by decide +kernel
theorem dX2_isInside_12 : decode cX2_isInside 12 = .ok (.iload_n 1, 1) := by decide +kernel
theorem dX2_isInside_13 : decode cX2_isInside 13 = .ok (.ishr, 1) := by decide +kernel
theorem dX2_isInside_14 : decode cX2_isInside 14 = .ok (.iconst 1, 1) := by decide +kernel
theorem dX2_isInside_15 : decode cX2_isInside 15 = .ok (.iand, 1) := by decide +kernel
theorem dX2_isInside_16 : decode cX2_isInside 16 = .ok (.iconst 1, 1) := by decide +kernel
theorem dX2_isInside_17 : decode cX2_isInside 17 = .ok (.if_icmp .ne 7, 3) := by decide +kernel
theorem dX2_isInside_20 : decode cX2_isInside 20 = .ok (.iconst 1, 1) := by decide +kernel
theorem dX2_isInside_21 : decode cX2_isInside 21 = .ok (.goto 4, 3) := by decide +kernel
theorem dX2_isInside_24 : decode cX2_isInside 24 = .ok (.iconst 0, 1) := by decide +kernel
theorem dX2_isInside_25 : decode cX2_isInside 25 = .ok (.ireturn, 1) := by decide +kernel
theorem dX2_knows_0 : decode cX2_knows 0 = .ok (.iload_n 2, 1) := by decide +kernel
theorem dX2_knows_1 : decode cX2_knows 1 = .ok (.ifCond .lt 9, 3) := by decide +kernel
theorem dX2_knows_4 : decode cX2_knows 4 = .ok (.iload_n 2, 1) := by decide +kernel
theorem dX2_knows_5 : decode cX2_knows 5 = .ok (.bipush 13, 2) := by decide +kernel
theorem dX2_knows_7 : decode cX2_knows 7 = .ok (.if_icmp .le 5, 3) := by decide +kernel
theorem dX2_knows_10 : decode cX2_knows 10 = .ok (.iconst 0, 1) := by decide +kernel
theorem dX2_knows_11 : decode cX2_knows 11 = .ok (.ireturn, 1) := by decide +kernel
theorem dX2_knows_12 : decode cX2_knows 12 = .ok (.iload_n 2, 1) := by decide +kernel
theorem dX2_knows_13 : decode cX2_knows 13 = .ok (.iconst 3, 1) := by decide +kernel
theorem dX2_knows_14 : decode cX2_knows 14 = .ok (.if_icmp .gt 11, 3) := by decide +kernel
theorem dX2_knows_17 : decode cX2_knows 17 = .ok (.aload_n 0, 1) := by decide +kernel
theorem dX2_knows_18 : decode cX2_knows 18 = .ok (.iload_n 1, 1) := by decide +kernel
theorem dX2_knows_19 : decode cX2_knows 19 = .ok (.invokevirtual 41, 3) := by decide +kernel
theorem dX2_knows_22 : decode cX2_knows 22 = .ok (.goto 12, 3) := by decide +kernel
theorem dX2_knows_25 : decode cX2_knows 25 = .ok (.iload_n 1, 1) := by decide +kernel
theorem dX2_knows_26 : decode cX2_knows 26 = .ok (.ifCond .ne 7, 3) := by decide +kernel
theorem dX2_knows_29 : decode cX2_knows 29 = .ok (.iconst 1, 1) := by decide +kernel
theorem dX2_knows_30 : decode cX2_knows 30 = .ok (.goto 4, 3) := by decide +kernel
theorem dX2_knows_33 : decode cX2_knows 33 = .ok (.iconst 0, 1) := by decide +kernel
theorem dX2_knows_34 : decode cX2_knows 34 = .ok (.ireturn, 1) := by decide +kernel
theorem dX2_tell_0 : decode cX2_tell 0 = .ok (.iload_n 2, 1) := by decide +kernel
theorem dX2_tell_1 : decode cX2_tell 1 = .ok (.tableswitch 61 0 3 #[31, 38, 45, 52], 31) := by decide +kernel
theorem dX2_tell_32 : decode cX2_tell 32 = .ok (.aload_n 0, 1) := by decide +kernel
theorem dX2_tell_33 : decode cX2_tell 33 = .ok (.getfield 9, 3) := by decide +kernel
theorem dX2_tell_36 : decode cX2_tell 36 = .ok (.iload_n 1, 1) := by decide +kernel
theorem dX2_tell_37 : decode cX2_tell 37 = .ok (.iaload, 1) := by decide +kernel
theorem dX2_tell_38 : decode cX2_tell 38 = .ok (.ireturn, 1) := by decide +kernel
theorem dX2_tell_39 : decode cX2_tell 39 = .ok (.aload_n 0, 1) := by decide +kernel
theorem dX2_tell_40 : decode cX2_tell 40 = .ok (.getfield 15, 3) := by decide +kernel
theorem dX2_tell_43 : decode cX2_tell 43 = .ok (.iload_n 1, 1) := by decide +kernel
theorem dX2_tell_44 : decode cX2_tell 44 = .ok (.iaload, 1) := by decide +kernel
theorem dX2_tell_45 : decode cX2_tell 45 = .ok (.ireturn, 1) := by decide +kernel
theorem dX2_tell_46 : decode cX2_tell 46 = .ok (.aload_n 0, 1) := by decide +kernel
theorem dX2_tell_47 : decode cX2_tell 47 = .ok (.getfield 18, 3) := by decide +kernel
theorem dX2_tell_50 : decode cX2_tell 50 = .ok (.iload_n 1, 1) := by decide +kernel
theorem dX2_tell_51 : decode cX2_tell 51 = .ok (.iaload, 1) := by decide +kernel
theorem dX2_tell_52 : decode cX2_tell 52 = .ok (.ireturn, 1) := by decide +kernel
theorem dX2_tell_53 : decode cX2_tell 53 = .ok (.aload_n 0, 1) := by decide +kernel
theorem dX2_tell_54 : decode cX2_tell 54 = .ok (.getfield 35, 3) := by decide +kernel
theorem dX2_tell_57 : decode cX2_tell 57 = .ok (.iload_n 1, 1) := by decide +kernel
theorem dX2_tell_58 : decode cX2_tell 58 = .ok (.ishr, 1) := by decide +kernel
theorem dX2_tell_59 : decode cX2_tell 59 = .ok (.iconst 1, 1) := by decide +kernel
theorem dX2_tell_60 : decode cX2_tell 60 = .ok (.iand, 1) := by decide +kernel
theorem dX2_tell_61 : decode cX2_tell 61 = .ok (.ireturn, 1) := by decide +kernel
theorem dX2_tell_62 : decode cX2_tell 62 = .ok (.aload_n 0, 1) := by decide +kernel
theorem dX2_tell_63 : decode cX2_tell 63 = .ok (.getfield 21, 3) := by decide +kernel
theorem dX2_tell_66 : decode cX2_tell 66 = .ok (.iload_n 2, 1) := by decide +kernel
theorem dX2_tell_67 : decode cX2_tell 67 = .ok (.iaload, 1) := by decide +kernel
theorem dX2_tell_68 : decode cX2_tell 68 = .ok (.ireturn, 1) := by decide +kernel
theorem dX2_change_0 : decode cX2_change 0 = .ok (.aload_n 0, 1) := by decide +kernel
theorem dX2_change_1 : decode cX2_change 1 = .ok (.dup, 1) := by decide +kernel
theorem dX2_change_2 : decode cX2_change 2 = .ok (.getfield 38, 3) := by decide +kernel
theorem dX2_change_5 : decode cX2_change 5 = .ok (.iconst 1, 1) := by decide +kernel
theorem dX2_change_6 : decode cX2_change 6 = .ok (.iadd, 1) := by decide +kernel
theorem dX2_change_7 : decode cX2_change 7 = .ok (.putfield 38, 3) := by decide +kernel
theorem dX2_change_10 : decode cX2_change 10 = .ok (.iload_n 2, 1) := by decide +kernel
theorem dX2_change_11 : decode cX2_change 11 = .ok (.tableswitch 80 0 3 #[29, 39, 49, 59], 29) := by decide +kernel
theorem dX2_change_40 : decode cX2_change 40 = .ok (.aload_n 0, 1) := by decide +kernel
theorem dX2_change_41 : decode cX2_change 41 = .ok (.getfield 9, 3) := by decide +kernel
theorem dX2_change_44 : decode cX2_change 44 = .ok (.iload_n 1, 1) := by decide +kernel
theorem dX2_change_45 : decode cX2_change 45 = .ok (.iload_n 3, 1) := by decide +kernel
theorem dX2_change_46 : decode cX2_change 46 = .ok (.iastore, 1) := by decide +kernel
theorem dX2_change_47 : decode cX2_change 47 = .ok (.goto 51, 3) := by decide +kernel
theorem dX2_change_50 : decode cX2_change 50 = .ok (.aload_n 0, 1) := by decide +kernel
theorem dX2_change_51 : decode cX2_change 51 = .ok (.getfield 15, 3) := by decide +kernel
theorem dX2_change_54 : decode cX2_change 54 = .ok (.iload_n 1, 1) := by decide +kernel
theorem dX2_change_55 : decode cX2_change 55 = .ok (.iload_n 3, 1) := by decide +kernel
theorem dX2_change_56 : decode cX2_change 56 = .ok (.iastore, 1) := by decide +kernel
theorem dX2_change_57 : decode cX2_change 57 = .ok (.goto 41, 3) := by decide +kernel
theorem dX2_change_60 : decode cX2_change 60 = .ok (.aload_n 0, 1) := by decide +kernel
theorem dX2_change_61 : decode cX2_change 61 = .ok (.getfield 18, 3) := by decide +kernel
theorem dX2_change_64 : decode cX2_change 64 = .ok (.iload_n 1, 1) := by decide +kernel
theorem dX2_change_65 : decode cX2_change 65 = .ok (.iload_n 3, 1) := by decide +kernel
theorem dX2_change_66 : decode cX2_change 66 = .ok (.iastore, 1) := by decide +kernel
theorem dX2_change_67 : decode cX2_change 67 = .ok (.goto 31, 3) := by decide +kernel
theorem dX2_change_70 : decode cX2_change 70 = .ok (.aload_n 0, 1) := by decide +kernel
theorem dX2_change_71 : decode cX2_change 71 = .ok (.aload_n 0, 1) := by decide +kernel
theorem dX2_change_72 : decode cX2_change 72 = .ok (.getfield 35, 3) := by decide +kernel
theorem dX2_change_75 : decode cX2_change 75 = .ok (.iconst 1, 1) := by decide +kernel
theorem dX2_change_76 : decode cX2_change 76 = .ok (.iload_n 1, 1) := by decide +kernel
theorem dX2_change_77 : decode cX2_change 77 = .ok (.ishl, 1) := by decide +kernel
theorem dX2_change_78 : decode cX2_change 78 = .ok (.iconst (-1), 1) := by decide +kernel
theorem dX2_change_79 : decode cX2_change 79 = .ok (.ixor, 1) := by decide +kernel
theorem dX2_change_80 : decode cX2_change 80 = .ok (.iand, 1) := by decide +kernel
theorem dX2_change_81 : decode cX2_change 81 = .ok (.iload_n 3, 1) := by decide +kernel
theorem dX2_change_82 : decode cX2_change 82 = .ok (.iload_n 1, 1) := by decide +kernel
theorem dX2_change_83 : decode cX2_change 83 = .ok (.ishl, 1) := by decide +kernel
theorem dX2_change_84 : decode cX2_change 84 = .ok (.ior, 1) := by decide +kernel
theorem dX2_change_85 : decode cX2_change 85 = .ok (.putfield 35, 3) := by decide +kernel
theorem dX2_change_88 : decode cX2_change 88 = .ok (.goto 10, 3) := by decide +kernel
theorem dX2_change_91 : decode cX2_change 91 = .ok (.aload_n 0, 1) := by decide +kernel
theorem dX2_change_92 : decode cX2_change 92 = .ok (.getfield 21, 3) := by decide +kernel
theorem dX2_change_95 : decode cX2_change 95 = .ok (.iload_n 2, 1) := by decide +kernel
theorem dX2_change_96 : decode cX2_change 96 = .ok (.iload_n 3, 1) := by decide +kernel
theorem dX2_change_97 : decode cX2_change 97 = .ok (.iastore, 1) := by decide +kernel
theorem dX2_change_98 : decode cX2_change 98 = .ok (.return_, 1) := by decide +kernel
theorem dX2_everybody_0 : decode cX2_everybody 0 = .ok (.iconst 1, 1) := by decide +kernel
theorem dX2_everybody_1 : decode cX2_everybody 1 = .ok (.aload_n 0, 1) := by decide +kernel
theorem dX2_everybody_2 : decode cX2_everybody 2 = .ok (.getfield 31, 3) := by decide +kernel
theorem dX2_everybody_5 : decode cX2_everybody 5 = .ok (.ishl, 1) := by decide +kernel
theorem dX2_everybody_6 : decode cX2_everybody 6 = .ok (.iconst 1, 1) := by decide +kernel
theorem dX2_everybody_7 : decode cX2_everybody 7 = .ok (.isub, 1) := by decide +kernel
theorem dX2_everybody_8 : decode cX2_everybody 8 = .ok (.ireturn, 1) := by decide +kernel
theorem dX2_letIn_0 : decode cX2_letIn 0 = .ok (.aload_n 0, 1) := by decide +kernel
theorem dX2_letIn_1 : decode cX2_letIn 1 = .ok (.iload_n 1, 1) := by decide +kernel
theorem dX2_letIn_2 : decode cX2_letIn 2 = .ok (.putfield 35, 3) := by decide +kernel
theorem dX2_letIn_5 : decode cX2_letIn 5 = .ok (.aload_n 0, 1) := by decide +kernel
theorem dX2_letIn_6 : decode cX2_letIn 6 = .ok (.dup, 1) := by decide +kernel
theorem dX2_letIn_7 : decode cX2_letIn 7 = .ok (.getfield 38, 3) := by decide +kernel
theorem dX2_letIn_10 : decode cX2_letIn 10 = .ok (.iconst 1, 1) := by decide +kernel
theorem dX2_letIn_11 : decode cX2_letIn 11 = .ok (.iadd, 1) := by decide +kernel
theorem dX2_letIn_12 : decode cX2_letIn 12 = .ok (.putfield 38, 3) := by decide +kernel
theorem dX2_letIn_15 : decode cX2_letIn 15 = .ok (.return_, 1) := by decide +kernel
theorem dX2_follow_0 : decode cX2_follow 0 = .ok (.aload_n 0, 1) := by decide +kernel
theorem dX2_follow_1 : decode cX2_follow 1 = .ok (.getfield 27, 3) := by decide +kernel
theorem dX2_follow_4 : decode cX2_follow 4 = .ok (.astore_n 2, 1) := by decide +kernel
theorem dX2_follow_5 : decode cX2_follow 5 = .ok (.aload_n 0, 1) := by decide +kernel
theorem dX2_follow_6 : decode cX2_follow 6 = .ok (.aload_n 1, 1) := by decide +kernel
theorem dX2_follow_7 : decode cX2_follow 7 = .ok (.putfield 27, 3) := by decide +kernel
theorem dX2_follow_10 : decode cX2_follow 10 = .ok (.aload_n 0, 1) := by decide +kernel
theorem dX2_follow_11 : decode cX2_follow 11 = .ok (.dup, 1) := by decide +kernel
theorem dX2_follow_12 : decode cX2_follow 12 = .ok (.getfield 38, 3) := by decide +kernel
theorem dX2_follow_15 : decode cX2_follow 15 = .ok (.iconst 1, 1) := by decide +kernel
theorem dX2_follow_16 : decode cX2_follow 16 = .ok (.iadd, 1) := by decide +kernel
theorem dX2_follow_17 : decode cX2_follow 17 = .ok (.putfield 38, 3) := by decide +kernel
theorem dX2_follow_20 : decode cX2_follow 20 = .ok (.aload_n 2, 1) := by decide +kernel
theorem dX2_follow_21 : decode cX2_follow 21 = .ok (.areturn, 1) := by decide +kernel
theorem dX2_pointsForCatch_0 : decode cX2_pointsForCatch 0 = .ok (.aload_n 0, 1) := by decide +kernel
theorem dX2_pointsForCatch_1 : decode cX2_pointsForCatch 1 = .ok (.getfield 35, 3) := by decide +kernel
theorem dX2_pointsForCatch_4 : decode cX2_pointsForCatch 4 = .ok (.invokestatic 45, 3) := by decide +kernel
theorem dX2_pointsForCatch_7 : decode cX2_pointsForCatch 7 = .ok (.iconst 3, 1) := by decide +kernel
theorem dX2_pointsForCatch_8 : decode cX2_pointsForCatch 8 = .ok (.if_icmp .gt 7, 3) := by decide +kernel
theorem dX2_pointsForCatch_11 : decode cX2_pointsForCatch 11 = .ok (.iconst 2, 1) := by decide +kernel
theorem dX2_pointsForCatch_12 : decode cX2_pointsForCatch 12 = .ok (.goto 4, 3) := by decide +kernel
theorem dX2_pointsForCatch_15 : decode cX2_pointsForCatch 15 = .ok (.iconst 1, 1) := by decide +kernel
theorem dX2_pointsForCatch_16 : decode cX2_pointsForCatch 16 = .ok (.ireturn, 1) := by decide +kernel
theorem dX2_corners_0 : decode cX2_corners 0 = .ok (.iconst 0, 1) := by decide +kernel
theorem dX2_corners_1 : decode cX2_corners 1 = .ok (.istore_n 1, 1) := by decide +kernel
theorem dX2_corners_2 : decode cX2_corners 2 = .ok (.iconst 0, 1) := by decide +kernel
theorem dX2_corners_3 : decode cX2_corners 3 = .ok (.istore_n 2, 1) := by decide +kernel
theorem dX2_corners_4 : decode cX2_corners 4 = .ok (.iload_n 2, 1) := by decide +kernel
theorem dX2_corners_5 : decode cX2_corners 5 = .ok (.aload_n 0, 1) := by decide +kernel
theorem dX2_corners_6 : decode cX2_corners 6 = .ok (.getfield 31, 3) := by decide +kernel
theorem dX2_corners_9 : decode cX2_corners 9 = .ok (.if_icmp .ge 43, 3) := by decide +kernel
theorem dX2_corners_12 : decode cX2_corners 12 = .ok (.aload_n 0, 1) := by decide +kernel
theorem dX2_corners_13 : decode cX2_corners 13 = .ok (.iload_n 2, 1) := by decide +kernel
theorem dX2_corners_14 : decode cX2_corners 14 = .ok (.invokevirtual 51, 3) := by decide +kernel
theorem dX2_corners_17 : decode cX2_corners 17 = .ok (.ifCond .eq 29, 3) := by decide +kernel
theorem dX2_corners_20 : decode cX2_corners 20 = .ok (.aload_n 0, 1) := by decide +kernel
theorem dX2_corners_21 : decode cX2_corners 21 = .ok (.getfield 9, 3) := by decide +kernel
theorem dX2_corners_24 : decode cX2_corners 24 = .ok (.iload_n 2, 1) := by decide +kernel
theorem dX2_corners_25 : decode cX2_corners 25 = .ok (.iaload, 1) := by decide +kernel
theorem dX2_corners_26 : decode cX2_corners 26 = .ok (.ifCond .eq 14, 3) := by decide +kernel
theorem dX2_corners_29 : decode cX2_corners 29 = .ok (.aload_n 0, 1) := by decide +kernel
theorem dX2_corners_30 : decode cX2_corners 30 = .ok (.getfield 9, 3) := by decide +kernel
theorem dX2_corners_33 : decode cX2_corners 33 = .ok (.iload_n 2, 1) := by decide +kernel
theorem dX2_corners_34 : decode cX2_corners 34 = .ok (.iaload, 1) := by decide +kernel
theorem dX2_corners_35 : decode cX2_corners 35 = .ok (.bipush 8, 2) := by decide +kernel
theorem dX2_corners_37 : decode cX2_corners 37 = .ok (.if_icmp .ne 9, 3) := by decide +kernel
theorem dX2_corners_40 : decode cX2_corners 40 = .ok (.iload_n 1, 1) := by decide +kernel
theorem dX2_corners_41 : decode cX2_corners 41 = .ok (.iconst 1, 1) := by decide +kernel
theorem dX2_corners_42 : decode cX2_corners 42 = .ok (.iload_n 2, 1) := by decide +kernel
theorem dX2_corners_43 : decode cX2_corners 43 = .ok (.ishl, 1) := by decide +kernel
theorem dX2_corners_44 : decode cX2_corners 44 = .ok (.ior, 1) := by decide +kernel
theorem dX2_corners_45 : decode cX2_corners 45 = .ok (.istore_n 1, 1) := by decide +kernel
theorem dX2_corners_46 : decode cX2_corners 46 = .ok (.iinc 2 1, 3) := by decide +kernel
theorem dX2_corners_49 : decode cX2_corners 49 = .ok (.goto (-45), 3) := by decide +kernel
theorem dX2_corners_52 : decode cX2_corners 52 = .ok (.iload_n 1, 1) := by decide +kernel
theorem dX2_corners_53 : decode cX2_corners 53 = .ok (.ireturn, 1) := by decide +kernel
theorem dX2_alone_0 : decode cX2_alone 0 = .ok (.iconst 0, 1) := by decide +kernel
theorem dX2_alone_1 : decode cX2_alone 1 = .ok (.istore_n 1, 1) := by decide +kernel
theorem dX2_alone_2 : decode cX2_alone 2 = .ok (.iconst 0, 1) := by decide +kernel
theorem dX2_alone_3 : decode cX2_alone 3 = .ok (.istore_n 2, 1) := by decide +kernel
theorem dX2_alone_4 : decode cX2_alone 4 = .ok (.iload_n 2, 1) := by decide +kernel
theorem dX2_alone_5 : decode cX2_alone 5 = .ok (.aload_n 0, 1) := by decide +kernel
theorem dX2_alone_6 : decode cX2_alone 6 = .ok (.getfield 31, 3) := by decide +kernel
theorem dX2_alone_9 : decode cX2_alone 9 = .ok (.if_icmp .ge 34, 3) := by decide +kernel
theorem dX2_alone_12 : decode cX2_alone 12 = .ok (.aload_n 0, 1) := by decide +kernel
theorem dX2_alone_13 : decode cX2_alone 13 = .ok (.iload_n 2, 1) := by decide +kernel
theorem dX2_alone_14 : decode cX2_alone 14 = .ok (.invokevirtual 51, 3) := by decide +kernel
theorem dX2_alone_17 : decode cX2_alone 17 = .ok (.ifCond .eq 20, 3) := by decide +kernel
theorem dX2_alone_20 : decode cX2_alone 20 = .ok (.aload_n 0, 1) := by decide +kernel
theorem dX2_alone_21 : decode cX2_alone 21 = .ok (.iload_n 2, 1) := by decide +kernel
theorem dX2_alone_22 : decode cX2_alone 22 = .ok (.invokevirtual 54, 3) := by decide +kernel
theorem dX2_alone_25 : decode cX2_alone 25 = .ok (.iconst 1, 1) := by decide +kernel
theorem dX2_alone_26 : decode cX2_alone 26 = .ok (.iload_n 2, 1) := by decide +kernel
theorem dX2_alone_27 : decode cX2_alone 27 = .ok (.ishl, 1) := by decide +kernel
theorem dX2_alone_28 : decode cX2_alone 28 = .ok (.if_icmp .ne 9, 3) := by decide +kernel
theorem dX2_alone_31 : decode cX2_alone 31 = .ok (.iload_n 1, 1) := by decide +kernel
theorem dX2_alone_32 : decode cX2_alone 32 = .ok (.iconst 1, 1) := by decide +kernel
theorem dX2_alone_33 : decode cX2_alone 33 = .ok (.iload_n 2, 1) := by decide +kernel
theorem dX2_alone_34 : decode cX2_alone 34 = .ok (.ishl, 1) := by decide +kernel
theorem dX2_alone_35 : decode cX2_alone 35 = .ok (.ior, 1) := by decide +kernel
theorem dX2_alone_36 : decode cX2_alone 36 = .ok (.istore_n 1, 1) := by decide +kernel
theorem dX2_alone_37 : decode cX2_alone 37 = .ok (.iinc 2 1, 3) := by decide +kernel
theorem dX2_alone_40 : decode cX2_alone 40 = .ok (.goto (-36), 3) := by decide +kernel
theorem dX2_alone_43 : decode cX2_alone 43 = .ok (.iload_n 1, 1) := by decide +kernel
theorem dX2_alone_44 : decode cX2_alone 44 = .ok (.ireturn, 1) := by decide +kernel
theorem dX2_chain_0 : decode cX2_chain 0 = .ok (.iconst 0, 1) := by decide +kernel
theorem dX2_chain_1 : decode cX2_chain 1 = .ok (.istore_n 1, 1) := by decide +kernel
theorem dX2_chain_2 : decode cX2_chain 2 = .ok (.iconst 0, 1) := by decide +kernel
theorem dX2_chain_3 : decode cX2_chain 3 = .ok (.istore_n 2, 1) := by decide +kernel
theorem dX2_chain_4 : decode cX2_chain 4 = .ok (.iload_n 2, 1) := by decide +kernel
theorem dX2_chain_5 : decode cX2_chain 5 = .ok (.aload_n 0, 1) := by decide +kernel
theorem dX2_chain_6 : decode cX2_chain 6 = .ok (.getfield 31, 3) := by decide +kernel
theorem dX2_chain_9 : decode cX2_chain 9 = .ok (.if_icmp .ge 30, 3) := by decide +kernel
theorem dX2_chain_12 : decode cX2_chain 12 = .ok (.aload_n 0, 1) := by decide +kernel
theorem dX2_chain_13 : decode cX2_chain 13 = .ok (.iload_n 2, 1) := by decide +kernel
theorem dX2_chain_14 : decode cX2_chain 14 = .ok (.invokevirtual 51, 3) := by decide +kernel
theorem dX2_chain_17 : decode cX2_chain 17 = .ok (.ifCond .eq 16, 3) := by decide +kernel
theorem dX2_chain_20 : decode cX2_chain 20 = .ok (.iload_n 1, 1) := by decide +kernel
theorem dX2_chain_21 : decode cX2_chain 21 = .ok (.aload_n 0, 1) := by decide +kernel
theorem dX2_chain_22 : decode cX2_chain 22 = .ok (.iload_n 2, 1) := by decide +kernel
theorem dX2_chain_23 : decode cX2_chain 23 = .ok (.invokevirtual 57, 3) := by decide +kernel
theorem dX2_chain_26 : decode cX2_chain 26 = .ok (.invokestatic 45, 3) := by decide +kernel
theorem dX2_chain_29 : decode cX2_chain 29 = .ok (.invokestatic 60, 3) := by decide +kernel
theorem dX2_chain_32 : decode cX2_chain 32 = .ok (.istore_n 1, 1) := by decide +kernel
theorem dX2_chain_33 : decode cX2_chain 33 = .ok (.iinc 2 1, 3) := by decide +kernel
theorem dX2_chain_36 : decode cX2_chain 36 = .ok (.goto (-32), 3) := by decide +kernel
theorem dX2_chain_39 : decode cX2_chain 39 = .ok (.iload_n 1, 1) := by decide +kernel
theorem dX2_chain_40 : decode cX2_chain 40 = .ok (.ireturn, 1) := by decide +kernel
theorem dX2_hangingTogether_0 : decode cX2_hangingTogether 0 = .ok (.iconst 1, 1) := by decide +kernel
theorem dX2_hangingTogether_1 : decode cX2_hangingTogether 1 = .ok (.iload_n 1, 1) := by decide +kernel
theorem dX2_hangingTogether_2 : decode cX2_hangingTogether 2 = .ok (.ishl, 1) := by decide +kernel
theorem dX2_hangingTogether_3 : decode cX2_hangingTogether 3 = .ok (.istore_n 2, 1) := by decide +kernel
theorem dX2_hangingTogether_4 : decode cX2_hangingTogether 4 = .ok (.iconst 0, 1) := by decide +kernel
theorem dX2_hangingTogether_5 : decode cX2_hangingTogether 5 = .ok (.istore_n 3, 1) := by decide +kernel
theorem dX2_hangingTogether_6 : decode cX2_hangingTogether 6 = .ok (.iload_n 3, 1) := by decide +kernel
theorem dX2_hangingTogether_7 : decode cX2_hangingTogether 7 = .ok (.aload_n 0, 1) := by decide +kernel
theorem dX2_hangingTogether_8 : decode cX2_hangingTogether 8 = .ok (.getfield 31, 3) := by decide +kernel
theorem dX2_hangingTogether_11 : decode cX2_hangingTogether 11 = .ok (.if_icmp .ge 46, 3) := by decide +kernel
theorem dX2_hangingTogether_14 : decode cX2_hangingTogether 14 = .ok (.iconst 0, 1) := by decide +kernel
theorem dX2_hangingTogether_15 : decode cX2_hangingTogether 15 = .ok (.istore 4, 2) := by decide +kernel
theorem dX2_hangingTogether_17 : decode cX2_hangingTogether 17 = .ok (.iload 4, 2) := by decide +kernel
theorem dX2_hangingTogether_19 : decode cX2_hangingTogether 19 = .ok (.aload_n 0, 1) := by decide +kernel
theorem dX2_hangingTogether_20 : decode cX2_hangingTogether 20 = .ok (.getfield 31, 3) := by decide +kernel
theorem dX2_hangingTogether_23 : decode cX2_hangingTogether 23 = .ok (.if_icmp .ge 28, 3) := by decide +kernel
theorem dX2_hangingTogether_26 : decode cX2_hangingTogether 26 = .ok (.iload_n 2, 1) := by decide +kernel
theorem dX2_hangingTogether_27 : decode cX2_hangingTogether 27 = .ok (.iload 4, 2) := by decide +kernel
theorem dX2_hangingTogether_29 : decode cX2_hangingTogether 29 = .ok (.ishr, 1) := by decide +kernel
theorem dX2_hangingTogether_30 : decode cX2_hangingTogether 30 = .ok (.iconst 1, 1) := by decide +kernel
theorem dX2_hangingTogether_31 : decode cX2_hangingTogether 31 = .ok (.iand, 1) := by decide +kernel
theorem dX2_hangingTogether_32 : decode cX2_hangingTogether 32 = .ok (.iconst 1, 1) := by decide +kernel
theorem dX2_hangingTogether_33 : decode cX2_hangingTogether 33 = .ok (.if_icmp .ne 12, 3) := by decide +kernel
theorem dX2_hangingTogether_36 : decode cX2_hangingTogether 36 = .ok (.iload_n 2, 1) := by decide +kernel
theorem dX2_hangingTogether_37 : decode cX2_hangingTogether 37 = .ok (.aload_n 0, 1) := by decide +kernel
theorem dX2_hangingTogether_38 : decode cX2_hangingTogether 38 = .ok (.iload 4, 2) := by decide +kernel
theorem dX2_hangingTogether_40 : decode cX2_hangingTogether 40 = .ok (.invokevirtual 54, 3) := by decide +kernel
theorem dX2_hangingTogether_43 : decode cX2_hangingTogether 43 = .ok (.ior, 1) := by decide +kernel
theorem dX2_hangingTogether_44 : decode cX2_hangingTogether 44 = .ok (.istore_n 2, 1) := by decide +kernel
theorem dX2_hangingTogether_45 : decode cX2_hangingTogether 45 = .ok (.iinc 4 1, 3) := by decide +kernel
theorem dX2_hangingTogether_48 : decode cX2_hangingTogether 48 = .ok (.goto (-31), 3) := by decide +kernel
theorem dX2_hangingTogether_51 : decode cX2_hangingTogether 51 = .ok (.iinc 3 1, 3) := by decide +kernel
theorem dX2_hangingTogether_54 : decode cX2_hangingTogether 54 = .ok (.goto (-48), 3) := by decide +kernel
theorem dX2_hangingTogether_57 : decode cX2_hangingTogether 57 = .ok (.iload_n 2, 1) := by decide +kernel
theorem dX2_hangingTogether_58 : decode cX2_hangingTogether 58 = .ok (.ireturn, 1) := by decide +kernel
theorem dX2_besides_0 : decode cX2_besides 0 = .ok (.iconst 0, 1) := by decide +kernel
theorem dX2_besides_1 : decode cX2_besides 1 = .ok (.istore_n 2, 1) := by decide +kernel
theorem dX2_besides_2 : decode cX2_besides 2 = .ok (.iconst 0, 1) := by decide +kernel
theorem dX2_besides_3 : decode cX2_besides 3 = .ok (.istore_n 3, 1) := by decide +kernel
theorem dX2_besides_4 : decode cX2_besides 4 = .ok (.iload_n 3, 1) := by decide +kernel
theorem dX2_besides_5 : decode cX2_besides 5 = .ok (.aload_n 0, 1) := by decide +kernel
theorem dX2_besides_6 : decode cX2_besides 6 = .ok (.getfield 31, 3) := by decide +kernel
theorem dX2_besides_9 : decode cX2_besides 9 = .ok (.if_icmp .ge 64, 3) := by decide +kernel
theorem dX2_besides_12 : decode cX2_besides 12 = .ok (.aload_n 0, 1) := by decide +kernel
theorem dX2_besides_13 : decode cX2_besides 13 = .ok (.getfield 9, 3) := by decide +kernel
theorem dX2_besides_16 : decode cX2_besides 16 = .ok (.iload_n 3, 1) := by decide +kernel
theorem dX2_besides_17 : decode cX2_besides 17 = .ok (.iaload, 1) := by decide +kernel
theorem dX2_besides_18 : decode cX2_besides 18 = .ok (.aload_n 0, 1) := by decide +kernel
theorem dX2_besides_19 : decode cX2_besides 19 = .ok (.getfield 9, 3) := by decide +kernel
theorem dX2_besides_22 : decode cX2_besides 22 = .ok (.iload_n 1, 1) := by decide +kernel
theorem dX2_besides_23 : decode cX2_besides 23 = .ok (.iaload, 1) := by decide +kernel
theorem dX2_besides_24 : decode cX2_besides 24 = .ok (.isub, 1) := by decide +kernel
theorem dX2_besides_25 : decode cX2_besides 25 = .ok (.invokestatic 66, 3) := by decide +kernel
theorem dX2_besides_28 : decode cX2_besides 28 = .ok (.aload_n 0, 1) := by decide +kernel
theorem dX2_besides_29 : decode cX2_besides 29 = .ok (.getfield 15, 3) := by decide +kernel
theorem dX2_besides_32 : decode cX2_besides 32 = .ok (.iload_n 3, 1) := by decide +kernel
theorem dX2_besides_33 : decode cX2_besides 33 = .ok (.iaload, 1) := by decide +kernel
theorem dX2_besides_34 : decode cX2_besides 34 = .ok (.aload_n 0, 1) := by decide +kernel
theorem dX2_besides_35 : decode cX2_besides 35 = .ok (.getfield 15, 3) := by decide +kernel
theorem dX2_besides_38 : decode cX2_besides 38 = .ok (.iload_n 1, 1) := by decide +kernel
theorem dX2_besides_39 : decode cX2_besides 39 = .ok (.iaload, 1) := by decide +kernel
theorem dX2_besides_40 : decode cX2_besides 40 = .ok (.isub, 1) := by decide +kernel
theorem dX2_besides_41 : decode cX2_besides 41 = .ok (.invokestatic 66, 3) := by decide +kernel
theorem dX2_besides_44 : decode cX2_besides 44 = .ok (.iadd, 1) := by decide +kernel
theorem dX2_besides_45 : decode cX2_besides 45 = .ok (.istore 4, 2) := by decide +kernel
theorem dX2_besides_47 : decode cX2_besides 47 = .ok (.aload_n 0, 1) := by decide +kernel
theorem dX2_besides_48 : decode cX2_besides 48 = .ok (.iload_n 3, 1) := by decide +kernel
theorem dX2_besides_49 : decode cX2_besides 49 = .ok (.invokevirtual 51, 3) := by decide +kernel
theorem dX2_besides_52 : decode cX2_besides 52 = .ok (.ifCond .eq 15, 3) := by decide +kernel
theorem dX2_besides_55 : decode cX2_besides 55 = .ok (.iload 4, 2) := by decide +kernel
theorem dX2_besides_57 : decode cX2_besides 57 = .ok (.iconst 1, 1) := by decide +kernel
theorem dX2_besides_58 : decode cX2_besides 58 = .ok (.if_icmp .gt 9, 3) := by decide +kernel
theorem dX2_besides_61 : decode cX2_besides 61 = .ok (.iload_n 2, 1) := by decide +kernel
theorem dX2_besides_62 : decode cX2_besides 62 = .ok (.iconst 1, 1) := by decide +kernel
theorem dX2_besides_63 : decode cX2_besides 63 = .ok (.iload_n 3, 1) := by decide +kernel
theorem dX2_besides_64 : decode cX2_besides 64 = .ok (.ishl, 1) := by decide +kernel
theorem dX2_besides_65 : decode cX2_besides 65 = .ok (.ior, 1) := by decide +kernel
theorem dX2_besides_66 : decode cX2_besides 66 = .ok (.istore_n 2, 1) := by decide +kernel
theorem dX2_besides_67 : decode cX2_besides 67 = .ok (.iinc 3 1, 3) := by decide +kernel
theorem dX2_besides_70 : decode cX2_besides 70 = .ok (.goto (-66), 3) := by decide +kernel
theorem dX2_besides_73 : decode cX2_besides 73 = .ok (.iload_n 2, 1) := by decide +kernel
theorem dX2_besides_74 : decode cX2_besides 74 = .ok (.ireturn, 1) := by decide +kernel
theorem dX3_init_0 : decode cX3_init 0 = .ok (.aload_n 0, 1) := by decide +kernel
theorem dX3_init_1 : decode cX3_init 1 = .ok (.invokespecial 1, 3) := by decide +kernel
theorem dX3_init_4 : decode cX3_init 4 = .ok (.aload_n 0, 1) := by decide +kernel
theorem dX3_init_5 : decode cX3_init 5 = .ok (.sipush 128, 3) := by decide +kernel
theorem dX3_init_8 : decode cX3_init 8 = .ok (.newarray .int, 2) := by decide +kernel
theorem dX3_init_10 : decode cX3_init 10 = .ok (.putfield 9, 3) := by decide +kernel
theorem dX3_init_13 : decode cX3_init 13 = .ok (.aload_n 0, 1) := by decide +kernel
theorem dX3_init_14 : decode cX3_init 14 = .ok (.sipush 128, 3) := by decide +kernel
theorem dX3_init_17 : decode cX3_init 17 = .ok (.newarray .int, 2) := by decide +kernel
theorem dX3_init_19 : decode cX3_init 19 = .ok (.putfield 13, 3) := by decide +kernel
theorem dX3_init_22 : decode cX3_init 22 = .ok (.aload_n 0, 1) := by decide +kernel
theorem dX3_init_23 : decode cX3_init 23 = .ok (.sipush 128, 3) := by decide +kernel
theorem dX3_init_26 : decode cX3_init 26 = .ok (.newarray .int, 2) := by decide +kernel
theorem dX3_init_28 : decode cX3_init 28 = .ok (.putfield 16, 3) := by decide +kernel
theorem dX3_init_31 : decode cX3_init 31 = .ok (.return_, 1) := by decide +kernel
theorem dX3_clear_0 : decode cX3_clear 0 = .ok (.aload_n 0, 1) := by decide +kernel
theorem dX3_clear_1 : decode cX3_clear 1 = .ok (.iconst 0, 1) := by decide +kernel
theorem dX3_clear_2 : decode cX3_clear 2 = .ok (.putfield 19, 3) := by decide +kernel
theorem dX3_clear_5 : decode cX3_clear 5 = .ok (.aload_n 0, 1) := by decide +kernel
theorem dX3_clear_6 : decode cX3_clear 6 = .ok (.iconst 0, 1) := by decide +kernel
theorem dX3_clear_7 : decode cX3_clear 7 = .ok (.putfield 23, 3) := by decide +kernel
theorem dX3_clear_10 : decode cX3_clear 10 = .ok (.return_, 1) := by decide +kernel
theorem dX3_isEmpty_0 : decode cX3_isEmpty 0 = .ok (.aload_n 0, 1) := by decide +kernel
theorem dX3_isEmpty_1 : decode cX3_isEmpty 1 = .ok (.getfield 19, 3) := by decide +kernel
theorem dX3_isEmpty_4 : decode cX3_isEmpty 4 = .ok (.ifCond .ne 7, 3) := by decide +kernel
theorem dX3_isEmpty_7 : decode cX3_isEmpty 7 = .ok (.iconst 1, 1) := by decide +kernel
theorem dX3_isEmpty_8 : decode cX3_isEmpty 8 = .ok (.goto 4, 3) := by decide +kernel
theorem dX3_isEmpty_11 : decode cX3_isEmpty 11 = .ok (.iconst 0, 1) := by decide +kernel
theorem dX3_isEmpty_12 : decode cX3_isEmpty 12 = .ok (.ireturn, 1) := by decide +kernel
theorem dX3_add_0 : decode cX3_add 0 = .ok (.aload_n 0, 1) := by decide +kernel
theorem dX3_add_1 : decode cX3_add 1 = .ok (.getfield 19, 3) := by decide +kernel
theorem dX3_add_4 : decode cX3_add 4 = .ok (.istore_n 3, 1) := by decide +kernel
theorem dX3_add_5 : decode cX3_add 5 = .ok (.iload_n 3, 1) := by decide +kernel
theorem dX3_add_6 : decode cX3_add 6 = .ok (.sipush 128, 3) := by decide +kernel
theorem dX3_add_9 : decode cX3_add 9 = .ok (.if_icmp .ge 27, 3) := by decide +kernel
theorem dX3_add_12 : decode cX3_add 12 = .ok (.aload_n 0, 1) := by decide +kernel
theorem dX3_add_13 : decode cX3_add 13 = .ok (.getfield 9, 3) := by decide +kernel
theorem dX3_add_16 : decode cX3_add 16 = .ok (.iload_n 3, 1) := by decide +kernel
theorem dX3_add_17 : decode cX3_add 17 = .ok (.iload_n 1, 1) := by decide +kernel
theorem dX3_add_18 : decode cX3_add 18 = .ok (.iastore, 1) := by decide +kernel
theorem dX3_add_19 : decode cX3_add 19 = .ok (.aload_n 0, 1) := by decide +kernel
theorem dX3_add_20 : decode cX3_add 20 = .ok (.getfield 13, 3) := by decide +kernel
theorem dX3_add_23 : decode cX3_add 23 = .ok (.iload_n 3, 1) := by decide +kernel
theorem dX3_add_24 : decode cX3_add 24 = .ok (.iload_n 2, 1) := by decide +kernel
theorem dX3_add_25 : decode cX3_add 25 = .ok (.iastore, 1) := by decide +kernel
theorem dX3_add_26 : decode cX3_add 26 = .ok (.aload_n 0, 1) := by decide +kernel
theorem dX3_add_27 : decode cX3_add 27 = .ok (.dup, 1) := by decide +kernel
theorem dX3_add_28 : decode cX3_add 28 = .ok (.getfield 19, 3) := by decide +kernel
theorem dX3_add_31 : decode cX3_add 31 = .ok (.iconst 1, 1) := by decide +kernel
theorem dX3_add_32 : decode cX3_add 32 = .ok (.iadd, 1) := by decide +kernel
theorem dX3_add_33 : decode cX3_add 33 = .ok (.putfield 19, 3) := by decide +kernel
theorem dX3_add_36 : decode cX3_add 36 = .ok (.iload_n 3, 1) := by decide +kernel
theorem dX3_add_37 : decode cX3_add 37 = .ok (.ireturn, 1) := by decide +kernel
theorem dX3_skipToEndFrom_0 : decode cX3_skipToEndFrom 0 = .ok (.iload_n 1, 1) := by decide +kernel
theorem dX3_skipToEndFrom_1 : decode cX3_skipToEndFrom 1 = .ok (.ifCond .lt 20, 3) := by decide +kernel
theorem dX3_skipToEndFrom_4 : decode cX3_skipToEndFrom 4 = .ok (.iload_n 1, 1) := by decide +kernel
theorem dX3_skipToEndFrom_5 : decode cX3_skipToEndFrom 5 = .ok (.sipush 128, 3) := by decide +kernel
theorem dX3_skipToEndFrom_8 : decode cX3_skipToEndFrom 8 = .ok (.if_icmp .ge 13, 3) := by decide +kernel
theorem dX3_skipToEndFrom_11 : decode cX3_skipToEndFrom 11 = .ok (.aload_n 0, 1) := by decide +kernel
theorem dX3_skipToEndFrom_12 : decode cX3_skipToEndFrom 12 = .ok (.getfield 13, 3) := by decide +kernel
theorem dX3_skipToEndFrom_15 : decode cX3_skipToEndFrom 15 = .ok (.iload_n 1, 1) := by decide +kernel
theorem dX3_skipToEndFrom_16 : decode cX3_skipToEndFrom 16 = .ok (.aload_n 0, 1) := by decide +kernel
theorem dX3_skipToEndFrom_17 : decode cX3_skipToEndFrom 17 = .ok (.getfield 19, 3) := by decide +kernel
theorem dX3_skipToEndFrom_20 : decode cX3_skipToEndFrom 20 = .ok (.iastore, 1) := by decide +kernel
theorem dX3_skipToEndFrom_21 : decode cX3_skipToEndFrom 21 = .ok (.return_, 1) := by decide +kernel
theorem dX3_worth_0 : decode cX3_worth 0 = .ok (.iconst 0, 1) := by decide +kernel
theorem dX3_worth_1 : decode cX3_worth 1 = .ok (.istore_n 2, 1) := by decide +kernel
theorem dX3_worth_2 : decode cX3_worth 2 = .ok (.iconst 0, 1) := by decide +kernel
theorem dX3_worth_3 : decode cX3_worth 3 = .ok (.istore_n 3, 1) := by decide +kernel
theorem dX3_worth_4 : decode cX3_worth 4 = .ok (.iload_n 3, 1) := by decide +kernel
theorem dX3_worth_5 : decode cX3_worth 5 = .ok (.aload_n 0, 1) := by decide +kernel
theorem dX3_worth_6 : decode cX3_worth 6 = .ok (.getfield 19, 3) := by decide +kernel
theorem dX3_worth_9 : decode cX3_worth 9 = .ok (.if_icmp .ge 219, 3) := by decide +kernel
theorem dX3_worth_12 : decode cX3_worth 12 = .ok (.aload_n 0, 1) := by decide +kernel
theorem dX3_worth_13 : decode cX3_worth 13 = .ok (.getfield 9, 3) := by decide +kernel
theorem dX3_worth_16 : decode cX3_worth 16 = .ok (.iload_n 3, 1) := by decide +kernel
theorem dX3_worth_17 : decode cX3_worth 17 = .ok (.iaload, 1) := by decide +kernel
theorem dX3_worth_18 : decode cX3_worth 18 = .ok (.istore 4, 2) := by decide +kernel
theorem dX3_worth_20 : decode cX3_worth 20 = .ok (.aload_n 0, 1) := by decide +kernel
theorem dX3_worth_21 : decode cX3_worth 21 = .ok (.getfield 13, 3) := by decide +kernel
theorem dX3_worth_24 : decode cX3_worth 24 = .ok (.iload_n 3, 1) := by decide +kernel
theorem dX3_worth_25 : decode cX3_worth 25 = .ok (.iaload, 1) := by decide +kernel
theorem dX3_worth_26 : decode cX3_worth 26 = .ok (.istore 5, 2) := by decide +kernel
theorem dX3_worth_28 : decode cX3_worth 28 = .ok (.iinc 3 1, 3) := by decide +kernel
theorem dX3_worth_31 : decode cX3_worth 31 = .ok (.iload 4, 2) := by decide +kernel
theorem dX3_worth_33 : decode cX3_worth 33 = .ok (.iconst 1, 1) := by decide +kernel
theorem dX3_worth_34 : decode cX3_worth 34 = .ok (.if_icmp .gt 38, 3) := by decide +kernel
theorem dX3_worth_37 : decode cX3_worth 37 = .ok (.iload_n 2, 1) := by decide +kernel
theorem dX3_worth_38 : decode cX3_worth 38 = .ok (.sipush 128, 3) := by decide +kernel
theorem dX3_worth_41 : decode cX3_worth 41 = .ok (.if_icmp .lt 5, 3) := by decide +kernel
theorem dX3_worth_44 : decode cX3_worth 44 = .ok (.iconst 0, 1) := by decide +kernel
theorem dX3_worth_45 : decode cX3_worth 45 = .ok (.ireturn, 1) := by decide +kernel
theorem dX3_worth_46 : decode cX3_worth 46 = .ok (.aload_n 0, 1) := by decide +kernel
theorem dX3_worth_47 : decode cX3_worth 47 = .ok (.getfield 16, 3) := by decide +kernel
theorem dX3_worth_50 : decode cX3_worth 50 = .ok (.iload_n 2, 1) := by decide +kernel
theorem dX3_worth_51 : decode cX3_worth 51 = .ok (.iload 4, 2) := by decide +kernel
theorem dX3_worth_53 : decode cX3_worth 53 = .ok (.ifCond .ne 8, 3) := by decide +kernel
theorem dX3_worth_56 : decode cX3_worth 56 = .ok (.iload 5, 2) := by decide +kernel
theorem dX3_worth_58 : decode cX3_worth 58 = .ok (.goto 7, 3) := by decide +kernel
theorem dX3_worth_61 : decode cX3_worth 61 = .ok (.aload_n 1, 1) := by decide +kernel
theorem dX3_worth_62 : decode cX3_worth 62 = .ok (.iload 5, 2) := by decide +kernel
theorem dX3_worth_64 : decode cX3_worth 64 = .ok (.iaload, 1) := by decide +kernel
theorem dX3_worth_65 : decode cX3_worth 65 = .ok (.iastore, 1) := by decide +kernel
theorem dX3_worth_66 : decode cX3_worth 66 = .ok (.iinc 2 1, 3) := by decide +kernel
theorem dX3_worth_69 : decode cX3_worth 69 = .ok (.goto 156, 3) := by decide +kernel
theorem dX3_worth_72 : decode cX3_worth 72 = .ok (.iload_n 2, 1) := by decide +kernel
theorem dX3_worth_73 : decode cX3_worth 73 = .ok (.iconst 1, 1) := by decide +kernel
theorem dX3_worth_74 : decode cX3_worth 74 = .ok (.if_icmp .ge 5, 3) := by decide +kernel
theorem dX3_worth_77 : decode cX3_worth 77 = .ok (.iconst 0, 1) := by decide +kernel
theorem dX3_worth_78 : decode cX3_worth 78 = .ok (.ireturn, 1) := by decide +kernel
theorem dX3_worth_79 : decode cX3_worth 79 = .ok (.iload 4, 2) := by decide +kernel
theorem dX3_worth_81 : decode cX3_worth 81 = .ok (.iconst 3, 1) := by decide +kernel
theorem dX3_worth_82 : decode cX3_worth 82 = .ok (.if_icmp .ne 12, 3) := by decide +kernel
theorem dX3_worth_85 : decode cX3_worth 85 = .ok (.aload_n 0, 1) := by decide +kernel
theorem dX3_worth_86 : decode cX3_worth 86 = .ok (.getfield 16, 3) := by decide +kernel
theorem dX3_worth_89 : decode cX3_worth 89 = .ok (.iload_n 2, 1) := by decide +kernel
theorem dX3_worth_90 : decode cX3_worth 90 = .ok (.iconst 1, 1) := by decide +kernel
theorem dX3_worth_91 : decode cX3_worth 91 = .ok (.isub, 1) := by decide +kernel
theorem dX3_worth_92 : decode cX3_worth 92 = .ok (.iaload, 1) := by decide +kernel
theorem dX3_worth_93 : decode cX3_worth 93 = .ok (.ireturn, 1) := by decide +kernel
theorem dX3_worth_94 : decode cX3_worth 94 = .ok (.iload 4, 2) := by decide +kernel
theorem dX3_worth_96 : decode cX3_worth 96 = .ok (.iconst 2, 1) := by decide +kernel
theorem dX3_worth_97 : decode cX3_worth 97 = .ok (.if_icmp .ne 29, 3) := by decide +kernel
theorem dX3_worth_100 : decode cX3_worth 100 = .ok (.iinc 2 (-1), 3) := by decide +kernel
theorem dX3_worth_103 : decode cX3_worth 103 = .ok (.aload_n 0, 1) := by decide +kernel
theorem dX3_worth_104 : decode cX3_worth 104 = .ok (.getfield 16, 3) := by decide +kernel
theorem dX3_worth_107 : decode cX3_worth 107 = .ok (.iload_n 2, 1) := by decide +kernel
theorem dX3_worth_108 : decode cX3_worth 108 = .ok (.iaload, 1) := by decide +kernel
theorem dX3_worth_109 : decode cX3_worth 109 = .ok (.ifCond .eq 7, 3) := by decide +kernel
theorem dX3_worth_112 : decode cX3_worth 112 = .ok (.iload_n 3, 1) := by decide +kernel
theorem dX3_worth_113 : decode cX3_worth 113 = .ok (.goto 9, 3) := by decide +kernel
theorem dX3_worth_116 : decode cX3_worth 116 = .ok (.iload_n 3, 1) := by decide +kernel
theorem dX3_worth_117 : decode cX3_worth 117 = .ok (.iload 5, 2) := by decide +kernel
theorem dX3_worth_119 : decode cX3_worth 119 = .ok (.invokestatic 27, 3) := by decide +kernel
theorem dX3_worth_122 : decode cX3_worth 122 = .ok (.istore_n 3, 1) := by decide +kernel
theorem dX3_worth_123 : decode cX3_worth 123 = .ok (.goto 102, 3) := by decide +kernel
theorem dX3_worth_126 : decode cX3_worth 126 = .ok (.iload 4, 2) := by decide +kernel
theorem dX3_worth_128 : decode cX3_worth 128 = .ok (.iconst 4, 1) := by decide +kernel
theorem dX3_worth_129 : decode cX3_worth 129 = .ok (.if_icmp .ne 30, 3) := by decide +kernel
theorem dX3_worth_132 : decode cX3_worth 132 = .ok (.aload_n 0, 1) := by decide +kernel
theorem dX3_worth_133 : decode cX3_worth 133 = .ok (.getfield 16, 3) := by decide +kernel
theorem dX3_worth_136 : decode cX3_worth 136 = .ok (.iload_n 2, 1) := by decide +kernel
theorem dX3_worth_137 : decode cX3_worth 137 = .ok (.iconst 1, 1) := by decide +kernel
theorem dX3_worth_138 : decode cX3_worth 138 = .ok (.isub, 1) := by decide +kernel
theorem dX3_worth_139 : decode cX3_worth 139 = .ok (.aload_n 0, 1) := by decide +kernel
theorem dX3_worth_140 : decode cX3_worth 140 = .ok (.getfield 16, 3) := by decide +kernel
theorem dX3_worth_143 : decode cX3_worth 143 = .ok (.iload_n 2, 1) := by decide +kernel
theorem dX3_worth_144 : decode cX3_worth 144 = .ok (.iconst 1, 1) := by decide +kernel
theorem dX3_worth_145 : decode cX3_worth 145 = .ok (.isub, 1) := by decide +kernel
theorem dX3_worth_146 : decode cX3_worth 146 = .ok (.iaload, 1) := by decide +kernel
theorem dX3_worth_147 : decode cX3_worth 147 = .ok (.ifCond .ne 7, 3) := by decide +kernel
theorem dX3_worth_150 : decode cX3_worth 150 = .ok (.iconst 1, 1) := by decide +kernel
theorem dX3_worth_151 : decode cX3_worth 151 = .ok (.goto 4, 3) := by decide +kernel
theorem dX3_worth_154 : decode cX3_worth 154 = .ok (.iconst 0, 1) := by decide +kernel
theorem dX3_worth_155 : decode cX3_worth 155 = .ok (.iastore, 1) := by decide +kernel
theorem dX3_worth_156 : decode cX3_worth 156 = .ok (.goto 69, 3) := by decide +kernel
theorem dX3_worth_159 : decode cX3_worth 159 = .ok (.iload 4, 2) := by decide +kernel
theorem dX3_worth_161 : decode cX3_worth 161 = .ok (.iconst 5, 1) := by decide +kernel
theorem dX3_worth_162 : decode cX3_worth 162 = .ok (.if_icmp .ne 23, 3) := by decide +kernel
theorem dX3_worth_165 : decode cX3_worth 165 = .ok (.aload_n 0, 1) := by decide +kernel
theorem dX3_worth_166 : decode cX3_worth 166 = .ok (.getfield 16, 3) := by decide +kernel
theorem dX3_worth_169 : decode cX3_worth 169 = .ok (.iload_n 2, 1) := by decide +kernel
theorem dX3_worth_170 : decode cX3_worth 170 = .ok (.iconst 1, 1) := by decide +kernel
theorem dX3_worth_171 : decode cX3_worth 171 = .ok (.isub, 1) := by decide +kernel
theorem dX3_worth_172 : decode cX3_worth 172 = .ok (.aload_n 0, 1) := by decide +kernel
theorem dX3_worth_173 : decode cX3_worth 173 = .ok (.getfield 16, 3) := by decide +kernel
theorem dX3_worth_176 : decode cX3_worth 176 = .ok (.iload_n 2, 1) := by decide +kernel
theorem dX3_worth_177 : decode cX3_worth 177 = .ok (.iconst 1, 1) := by decide +kernel
theorem dX3_worth_178 : decode cX3_worth 178 = .ok (.isub, 1) := by decide +kernel
theorem dX3_worth_179 : decode cX3_worth 179 = .ok (.iaload, 1) := by decide +kernel
theorem dX3_worth_180 : decode cX3_worth 180 = .ok (.ineg, 1) := by decide +kernel
theorem dX3_worth_181 : decode cX3_worth 181 = .ok (.iastore, 1) := by decide +kernel
theorem dX3_worth_182 : decode cX3_worth 182 = .ok (.goto 43, 3) := by decide +kernel
theorem dX3_worth_185 : decode cX3_worth 185 = .ok (.iload_n 2, 1) := by decide +kernel
theorem dX3_worth_186 : decode cX3_worth 186 = .ok (.iconst 2, 1) := by decide +kernel
theorem dX3_worth_187 : decode cX3_worth 187 = .ok (.if_icmp .ge 5, 3) := by decide +kernel
theorem dX3_worth_190 : decode cX3_worth 190 = .ok (.iconst 0, 1) := by decide +kernel
theorem dX3_worth_191 : decode cX3_worth 191 = .ok (.ireturn, 1) := by decide +kernel
theorem dX3_worth_192 : decode cX3_worth 192 = .ok (.iinc 2 (-1), 3) := by decide +kernel
theorem dX3_worth_195 : decode cX3_worth 195 = .ok (.aload_n 0, 1) := by decide +kernel
theorem dX3_worth_196 : decode cX3_worth 196 = .ok (.getfield 16, 3) := by decide +kernel
theorem dX3_worth_199 : decode cX3_worth 199 = .ok (.iload_n 2, 1) := by decide +kernel
theorem dX3_worth_200 : decode cX3_worth 200 = .ok (.iconst 1, 1) := by decide +kernel
theorem dX3_worth_201 : decode cX3_worth 201 = .ok (.isub, 1) := by decide +kernel
theorem dX3_worth_202 : decode cX3_worth 202 = .ok (.iload 4, 2) := by decide +kernel
theorem dX3_worth_204 : decode cX3_worth 204 = .ok (.bipush 6, 2) := by decide +kernel
theorem dX3_worth_206 : decode cX3_worth 206 = .ok (.isub, 1) := by decide +kernel
theorem dX3_worth_207 : decode cX3_worth 207 = .ok (.aload_n 0, 1) := by decide +kernel
theorem dX3_worth_208 : decode cX3_worth 208 = .ok (.getfield 16, 3) := by decide +kernel
theorem dX3_worth_211 : decode cX3_worth 211 = .ok (.iload_n 2, 1) := by decide +kernel
theorem dX3_worth_212 : decode cX3_worth 212 = .ok (.iconst 1, 1) := by decide +kernel
theorem dX3_worth_213 : decode cX3_worth 213 = .ok (.isub, 1) := by decide +kernel
theorem dX3_worth_214 : decode cX3_worth 214 = .ok (.iaload, 1) := by decide +kernel
theorem dX3_worth_215 : decode cX3_worth 215 = .ok (.aload_n 0, 1) := by decide +kernel
theorem dX3_worth_216 : decode cX3_worth 216 = .ok (.getfield 16, 3) := by decide +kernel
theorem dX3_worth_219 : decode cX3_worth 219 = .ok (.iload_n 2, 1) := by decide +kernel
theorem dX3_worth_220 : decode cX3_worth 220 = .ok (.iaload, 1) := by decide +kernel
theorem dX3_worth_221 : decode cX3_worth 221 = .ok (.invokestatic 33, 3) := by decide +kernel
theorem dX3_worth_224 : decode cX3_worth 224 = .ok (.iastore, 1) := by decide +kernel
theorem dX3_worth_225 : decode cX3_worth 225 = .ok (.goto (-221), 3) := by decide +kernel
theorem dX3_worth_228 : decode cX3_worth 228 = .ok (.iconst 0, 1) := by decide +kernel
theorem dX3_worth_229 : decode cX3_worth 229 = .ok (.ireturn, 1) := by decide +kernel
theorem dX3_joined_0 : decode cX3_joined 0 = .ok (.iload_n 0, 1) := by decide +kernel
theorem dX3_joined_1 : decode cX3_joined 1 = .ok (.tableswitch 136 0 8 #[51, 65, 79, 90, 101, 112, 116, 120, 124], 51) := by decide +kernel
theorem dX3_joined_52 : decode cX3_joined 52 = .ok (.iload_n 1, 1) := by decide +kernel
theorem dX3_joined_53 : decode cX3_joined 53 = .ok (.ifCond .ne 7, 3) := by decide +kernel
theorem dX3_joined_56 : decode cX3_joined 56 = .ok (.iload_n 2, 1) := by decide +kernel
theorem dX3_joined_57 : decode cX3_joined 57 = .ok (.ifCond .eq 7, 3) := by decide +kernel
theorem dX3_joined_60 : decode cX3_joined 60 = .ok (.iconst 1, 1) := by decide +kernel
theorem dX3_joined_61 : decode cX3_joined 61 = .ok (.goto 4, 3) := by decide +kernel
theorem dX3_joined_64 : decode cX3_joined 64 = .ok (.iconst 0, 1) := by decide +kernel
theorem dX3_joined_65 : decode cX3_joined 65 = .ok (.ireturn, 1) := by decide +kernel
theorem dX3_joined_66 : decode cX3_joined 66 = .ok (.iload_n 1, 1) := by decide +kernel
theorem dX3_joined_67 : decode cX3_joined 67 = .ok (.ifCond .eq 11, 3) := by decide +kernel
theorem dX3_joined_70 : decode cX3_joined 70 = .ok (.iload_n 2, 1) := by decide +kernel
theorem dX3_joined_71 : decode cX3_joined 71 = .ok (.ifCond .eq 7, 3) := by decide +kernel
theorem dX3_joined_74 : decode cX3_joined 74 = .ok (.iconst 1, 1) := by decide +kernel
theorem dX3_joined_75 : decode cX3_joined 75 = .ok (.goto 4, 3) := by decide +kernel
theorem dX3_joined_78 : decode cX3_joined 78 = .ok (.iconst 0, 1) := by decide +kernel
theorem dX3_joined_79 : decode cX3_joined 79 = .ok (.ireturn, 1) := by decide +kernel
theorem dX3_joined_80 : decode cX3_joined 80 = .ok (.iload_n 1, 1) := by decide +kernel
theorem dX3_joined_81 : decode cX3_joined 81 = .ok (.iload_n 2, 1) := by decide +kernel
theorem dX3_joined_82 : decode cX3_joined 82 = .ok (.if_icmp .ge 7, 3) := by decide +kernel
theorem dX3_joined_85 : decode cX3_joined 85 = .ok (.iconst 1, 1) := by decide +kernel
theorem dX3_joined_86 : decode cX3_joined 86 = .ok (.goto 4, 3) := by decide +kernel
theorem dX3_joined_89 : decode cX3_joined 89 = .ok (.iconst 0, 1) := by decide +kernel
theorem dX3_joined_90 : decode cX3_joined 90 = .ok (.ireturn, 1) := by decide +kernel
theorem dX3_joined_91 : decode cX3_joined 91 = .ok (.iload_n 1, 1) := by decide +kernel
theorem dX3_joined_92 : decode cX3_joined 92 = .ok (.iload_n 2, 1) := by decide +kernel
theorem dX3_joined_93 : decode cX3_joined 93 = .ok (.if_icmp .ne 7, 3) := by decide +kernel
theorem dX3_joined_96 : decode cX3_joined 96 = .ok (.iconst 1, 1) := by decide +kernel
theorem dX3_joined_97 : decode cX3_joined 97 = .ok (.goto 4, 3) := by decide +kernel
theorem dX3_joined_100 : decode cX3_joined 100 = .ok (.iconst 0, 1) := by decide +kernel
theorem dX3_joined_101 : decode cX3_joined 101 = .ok (.ireturn, 1) := by decide +kernel
theorem dX3_joined_102 : decode cX3_joined 102 = .ok (.iload_n 1, 1) := by decide +kernel
theorem dX3_joined_103 : decode cX3_joined 103 = .ok (.iload_n 2, 1) := by decide +kernel
theorem dX3_joined_104 : decode cX3_joined 104 = .ok (.if_icmp .le 7, 3) := by decide +kernel
theorem dX3_joined_107 : decode cX3_joined 107 = .ok (.iconst 1, 1) := by decide +kernel
theorem dX3_joined_108 : decode cX3_joined 108 = .ok (.goto 4, 3) := by decide +kernel
theorem dX3_joined_111 : decode cX3_joined 111 = .ok (.iconst 0, 1) := by decide +kernel
theorem dX3_joined_112 : decode cX3_joined 112 = .ok (.ireturn, 1) := by decide +kernel
theorem dX3_joined_113 : decode cX3_joined 113 = .ok (.iload_n 1, 1) := by decide +kernel
theorem dX3_joined_114 : decode cX3_joined 114 = .ok (.iload_n 2, 1) := by decide +kernel
theorem dX3_joined_115 : decode cX3_joined 115 = .ok (.iadd, 1) := by decide +kernel
theorem dX3_joined_116 : decode cX3_joined 116 = .ok (.ireturn, 1) := by decide +kernel
theorem dX3_joined_117 : decode cX3_joined 117 = .ok (.iload_n 1, 1) := by decide +kernel
theorem dX3_joined_118 : decode cX3_joined 118 = .ok (.iload_n 2, 1) := by decide +kernel
theorem dX3_joined_119 : decode cX3_joined 119 = .ok (.isub, 1) := by decide +kernel
theorem dX3_joined_120 : decode cX3_joined 120 = .ok (.ireturn, 1) := by decide +kernel
theorem dX3_joined_121 : decode cX3_joined 121 = .ok (.iload_n 1, 1) := by decide +kernel
theorem dX3_joined_122 : decode cX3_joined 122 = .ok (.iload_n 2, 1) := by decide +kernel
theorem dX3_joined_123 : decode cX3_joined 123 = .ok (.imul, 1) := by decide +kernel
theorem dX3_joined_124 : decode cX3_joined 124 = .ok (.ireturn, 1) := by decide +kernel
theorem dX3_joined_125 : decode cX3_joined 125 = .ok (.iload_n 2, 1) := by decide +kernel
theorem dX3_joined_126 : decode cX3_joined 126 = .ok (.ifCond .ne 7, 3) := by decide +kernel
theorem dX3_joined_129 : decode cX3_joined 129 = .ok (.iconst 0, 1) := by decide +kernel
theorem dX3_joined_130 : decode cX3_joined 130 = .ok (.goto 6, 3) := by decide +kernel
theorem dX3_joined_133 : decode cX3_joined 133 = .ok (.iload_n 1, 1) := by decide +kernel
theorem dX3_joined_134 : decode cX3_joined 134 = .ok (.iload_n 2, 1) := by decide +kernel
theorem dX3_joined_135 : decode cX3_joined 135 = .ok (.idiv, 1) := by decide +kernel
theorem dX3_joined_136 : decode cX3_joined 136 = .ok (.ireturn, 1) := by decide +kernel
theorem dX3_joined_137 : decode cX3_joined 137 = .ok (.iload_n 2, 1) := by decide +kernel
theorem dX3_joined_138 : decode cX3_joined 138 = .ok (.ifCond .ne 7, 3) := by decide +kernel
theorem dX3_joined_141 : decode cX3_joined 141 = .ok (.iconst 0, 1) := by decide +kernel
theorem dX3_joined_142 : decode cX3_joined 142 = .ok (.goto 6, 3) := by decide +kernel
theorem dX3_joined_145 : decode cX3_joined 145 = .ok (.iload_n 1, 1) := by decide +kernel
theorem dX3_joined_146 : decode cX3_joined 146 = .ok (.iload_n 2, 1) := by decide +kernel
theorem dX3_joined_147 : decode cX3_joined 147 = .ok (.irem, 1) := by decide +kernel
theorem dX3_joined_148 : decode cX3_joined 148 = .ok (.ireturn, 1) := by decide +kernel
theorem dX4_init_0 : decode cX4_init 0 = .ok (.aload_n 0, 1) := by decide +kernel
theorem dX4_init_1 : decode cX4_init 1 = .ok (.invokespecial 1, 3) := by decide +kernel
theorem dX4_init_4 : decode cX4_init 4 = .ok (.aload_n 0, 1) := by decide +kernel
theorem dX4_init_5 : decode cX4_init 5 = .ok (.bipush 120, 2) := by decide +kernel
theorem dX4_init_7 : decode cX4_init 7 = .ok (.newarray .int, 2) := by decide +kernel
theorem dX4_init_9 : decode cX4_init 9 = .ok (.putfield 9, 3) := by decide +kernel
theorem dX4_init_12 : decode cX4_init 12 = .ok (.aload_n 0, 1) := by decide +kernel
theorem dX4_init_13 : decode cX4_init 13 = .ok (.new 13, 3) := by decide +kernel
theorem dX4_init_16 : decode cX4_init 16 = .ok (.dup, 1) := by decide +kernel
theorem dX4_init_17 : decode cX4_init 17 = .ok (.invokespecial 15, 3) := by decide +kernel
theorem dX4_init_20 : decode cX4_init 20 = .ok (.putfield 16, 3) := by decide +kernel
theorem dX4_init_23 : decode cX4_init 23 = .ok (.return_, 1) := by decide +kernel
theorem dX4_isFull_0 : decode cX4_isFull 0 = .ok (.aload_n 0, 1) := by decide +kernel
theorem dX4_isFull_1 : decode cX4_isFull 1 = .ok (.getfield 20, 3) := by decide +kernel
theorem dX4_isFull_4 : decode cX4_isFull 4 = .ok (.bipush 120, 2) := by decide +kernel
theorem dX4_isFull_6 : decode cX4_isFull 6 = .ok (.if_icmp .lt 7, 3) := by decide +kernel
theorem dX4_isFull_9 : decode cX4_isFull 9 = .ok (.iconst 1, 1) := by decide +kernel
theorem dX4_isFull_10 : decode cX4_isFull 10 = .ok (.goto 4, 3) := by decide +kernel
theorem dX4_isFull_13 : decode cX4_isFull 13 = .ok (.iconst 0, 1) := by decide +kernel
theorem dX4_isFull_14 : decode cX4_isFull 14 = .ok (.ireturn, 1) := by decide +kernel
theorem dX4_add_0 : decode cX4_add 0 = .ok (.aload_n 0, 1) := by decide +kernel
theorem dX4_add_1 : decode cX4_add 1 = .ok (.getfield 9, 3) := by decide +kernel
theorem dX4_add_4 : decode cX4_add 4 = .ok (.aload_n 0, 1) := by decide +kernel
theorem dX4_add_5 : decode cX4_add 5 = .ok (.getfield 20, 3) := by decide +kernel
theorem dX4_add_8 : decode cX4_add 8 = .ok (.iload_n 1, 1) := by decide +kernel
theorem dX4_add_9 : decode cX4_add 9 = .ok (.iastore, 1) := by decide +kernel
theorem dX4_add_10 : decode cX4_add 10 = .ok (.aload_n 0, 1) := by decide +kernel
theorem dX4_add_11 : decode cX4_add 11 = .ok (.dup, 1) := by decide +kernel
theorem dX4_add_12 : decode cX4_add 12 = .ok (.getfield 20, 3) := by decide +kernel
theorem dX4_add_15 : decode cX4_add 15 = .ok (.iconst 1, 1) := by decide +kernel
theorem dX4_add_16 : decode cX4_add 16 = .ok (.iadd, 1) := by decide +kernel
theorem dX4_add_17 : decode cX4_add 17 = .ok (.putfield 20, 3) := by decide +kernel
theorem dX4_add_20 : decode cX4_add 20 = .ok (.aload_n 0, 1) := by decide +kernel
theorem dX4_add_21 : decode cX4_add 21 = .ok (.getfield 20, 3) := by decide +kernel
theorem dX4_add_24 : decode cX4_add 24 = .ok (.ireturn, 1) := by decide +kernel
theorem dX4_read_0 : decode cX4_read 0 = .ok (.aload_n 0, 1) := by decide +kernel
theorem dX4_read_1 : decode cX4_read 1 = .ok (.iconst 0, 1) := by decide +kernel
theorem dX4_read_2 : decode cX4_read 2 = .ok (.putfield 24, 3) := by decide +kernel
theorem dX4_read_5 : decode cX4_read 5 = .ok (.aload_n 0, 1) := by decide +kernel
theorem dX4_read_6 : decode cX4_read 6 = .ok (.iconst (-1), 1) := by decide +kernel
theorem dX4_read_7 : decode cX4_read 7 = .ok (.putfield 27, 3) := by decide +kernel
theorem dX4_read_10 : decode cX4_read 10 = .ok (.aload_n 0, 1) := by decide +kernel
theorem dX4_read_11 : decode cX4_read 11 = .ok (.getfield 16, 3) := by decide +kernel
theorem dX4_read_14 : decode cX4_read 14 = .ok (.invokevirtual 30, 3) := by decide +kernel
theorem dX4_read_17 : decode cX4_read 17 = .ok (.aload_n 0, 1) := by decide +kernel
theorem dX4_read_18 : decode cX4_read 18 = .ok (.invokevirtual 33, 3) := by decide +kernel
theorem dX4_read_21 : decode cX4_read 21 = .ok (.iconst 0, 1) := by decide +kernel
theorem dX4_read_22 : decode cX4_read 22 = .ok (.istore_n 1, 1) := by decide +kernel
theorem dX4_read_23 : decode cX4_read 23 = .ok (.iload_n 1, 1) := by decide +kernel
theorem dX4_read_24 : decode cX4_read 24 = .ok (.aload_n 0, 1) := by decide +kernel
theorem dX4_read_25 : decode cX4_read 25 = .ok (.getfield 20, 3) := by decide +kernel
theorem dX4_read_28 : decode cX4_read 28 = .ok (.if_icmp .ge 22, 3) := by decide +kernel
theorem dX4_read_31 : decode cX4_read 31 = .ok (.aload_n 0, 1) := by decide +kernel
theorem dX4_read_32 : decode cX4_read 32 = .ok (.bipush 59, 2) := by decide +kernel
theorem dX4_read_34 : decode cX4_read 34 = .ok (.invokevirtual 36, 3) := by decide +kernel
theorem dX4_read_37 : decode cX4_read 37 = .ok (.ifCond .eq 13, 3) := by decide +kernel
theorem dX4_read_40 : decode cX4_read 40 = .ok (.aload_n 0, 1) := by decide +kernel
theorem dX4_read_41 : decode cX4_read 41 = .ok (.invokevirtual 33, 3) := by decide +kernel
theorem dX4_read_44 : decode cX4_read 44 = .ok (.iinc 1 1, 3) := by decide +kernel
theorem dX4_read_47 : decode cX4_read 47 = .ok (.goto (-24), 3) := by decide +kernel
theorem dX4_read_50 : decode cX4_read 50 = .ok (.aload_n 0, 1) := by decide +kernel
theorem dX4_read_51 : decode cX4_read 51 = .ok (.getfield 24, 3) := by decide +kernel
theorem dX4_read_54 : decode cX4_read 54 = .ok (.aload_n 0, 1) := by decide +kernel
theorem dX4_read_55 : decode cX4_read 55 = .ok (.getfield 20, 3) := by decide +kernel
theorem dX4_read_58 : decode cX4_read 58 = .ok (.if_icmp .ge 7, 3) := by decide +kernel
theorem dX4_read_61 : decode cX4_read 61 = .ok (.aload_n 0, 1) := by decide +kernel
theorem dX4_read_62 : decode cX4_read 62 = .ok (.invokevirtual 40, 3) := by decide +kernel
theorem dX4_read_65 : decode cX4_read 65 = .ok (.aload_n 0, 1) := by decide +kernel
theorem dX4_read_66 : decode cX4_read 66 = .ok (.iconst 0, 1) := by decide +kernel
theorem dX4_read_67 : decode cX4_read 67 = .ok (.putfield 20, 3) := by decide +kernel
theorem dX4_read_70 : decode cX4_read 70 = .ok (.aload_n 0, 1) := by decide +kernel
theorem dX4_read_71 : decode cX4_read 71 = .ok (.getfield 27, 3) := by decide +kernel
theorem dX4_read_74 : decode cX4_read 74 = .ok (.ireturn, 1) := by decide +kernel
theorem dX4_readLine_0 : decode cX4_readLine 0 = .ok (.aload_n 0, 1) := by decide +kernel
theorem dX4_readLine_1 : decode cX4_readLine 1 = .ok (.iconst 0, 1) := by decide +kernel
theorem dX4_readLine_2 : decode cX4_readLine 2 = .ok (.iconst 0, 1) := by decide +kernel
theorem dX4_readLine_3 : decode cX4_readLine 3 = .ok (.invokevirtual 43, 3) := by decide +kernel
theorem dX4_readLine_6 : decode cX4_readLine 6 = .ok (.aload_n 0, 1) := by decide +kernel
theorem dX4_readLine_7 : decode cX4_readLine 7 = .ok (.bipush 63, 2) := by decide +kernel
theorem dX4_readLine_9 : decode cX4_readLine 9 = .ok (.invokevirtual 36, 3) := by decide +kernel
theorem dX4_readLine_12 : decode cX4_readLine 12 = .ok (.ifCond .eq 40, 3) := by decide +kernel
theorem dX4_readLine_15 : decode cX4_readLine 15 = .ok (.aload_n 0, 1) := by decide +kernel
theorem dX4_readLine_16 : decode cX4_readLine 16 = .ok (.getfield 16, 3) := by decide +kernel
theorem dX4_readLine_19 : decode cX4_readLine 19 = .ok (.iconst 2, 1) := by decide +kernel
theorem dX4_readLine_20 : decode cX4_readLine 20 = .ok (.iconst 0, 1) := by decide +kernel
theorem dX4_readLine_21 : decode cX4_readLine 21 = .ok (.invokevirtual 47, 3) := by decide +kernel
theorem dX4_readLine_24 : decode cX4_readLine 24 = .ok (.istore_n 1, 1) := by decide +kernel
theorem dX4_readLine_25 : decode cX4_readLine 25 = .ok (.aload_n 0, 1) := by decide +kernel
theorem dX4_readLine_26 : decode cX4_readLine 26 = .ok (.iconst 0, 1) := by decide +kernel
theorem dX4_readLine_27 : decode cX4_readLine 27 = .ok (.iconst 0, 1) := by decide +kernel
theorem dX4_readLine_28 : decode cX4_readLine 28 = .ok (.invokevirtual 43, 3) := by decide +kernel
theorem dX4_readLine_31 : decode cX4_readLine 31 = .ok (.aload_n 0, 1) := by decide +kernel
theorem dX4_readLine_32 : decode cX4_readLine 32 = .ok (.getfield 16, 3) := by decide +kernel
theorem dX4_readLine_35 : decode cX4_readLine 35 = .ok (.iconst 3, 1) := by decide +kernel
theorem dX4_readLine_36 : decode cX4_readLine 36 = .ok (.iconst 0, 1) := by decide +kernel
theorem dX4_readLine_37 : decode cX4_readLine 37 = .ok (.invokevirtual 47, 3) := by decide +kernel
theorem dX4_readLine_40 : decode cX4_readLine 40 = .ok (.pop, 1) := by decide +kernel
theorem dX4_readLine_41 : decode cX4_readLine 41 = .ok (.aload_n 0, 1) := by decide +kernel
theorem dX4_readLine_42 : decode cX4_readLine 42 = .ok (.getfield 16, 3) := by decide +kernel
theorem dX4_readLine_45 : decode cX4_readLine 45 = .ok (.iload_n 1, 1) := by decide +kernel
theorem dX4_readLine_46 : decode cX4_readLine 46 = .ok (.invokevirtual 51, 3) := by decide +kernel
theorem dX4_readLine_49 : decode cX4_readLine 49 = .ok (.goto 13, 3) := by decide +kernel
theorem dX4_readLine_52 : decode cX4_readLine 52 = .ok (.aload_n 0, 1) := by decide +kernel
theorem dX4_readLine_53 : decode cX4_readLine 53 = .ok (.getfield 16, 3) := by decide +kernel
theorem dX4_readLine_56 : decode cX4_readLine 56 = .ok (.iconst 3, 1) := by decide +kernel
theorem dX4_readLine_57 : decode cX4_readLine 57 = .ok (.iconst 0, 1) := by decide +kernel
theorem dX4_readLine_58 : decode cX4_readLine 58 = .ok (.invokevirtual 47, 3) := by decide +kernel
theorem dX4_readLine_61 : decode cX4_readLine 61 = .ok (.pop, 1) := by decide +kernel
theorem dX4_readLine_62 : decode cX4_readLine 62 = .ok (.return_, 1) := by decide +kernel
theorem dX4_readRank_0 : decode cX4_readRank 0 = .ok (.iload_n 1, 1) := by decide +kernel
theorem dX4_readRank_1 : decode cX4_readRank 1 = .ok (.iconst 4, 1) := by decide +kernel
theorem dX4_readRank_2 : decode cX4_readRank 2 = .ok (.if_icmp .le 9, 3) := by decide +kernel
theorem dX4_readRank_5 : decode cX4_readRank 5 = .ok (.aload_n 0, 1) := by decide +kernel
theorem dX4_readRank_6 : decode cX4_readRank 6 = .ok (.iload_n 2, 1) := by decide +kernel
theorem dX4_readRank_7 : decode cX4_readRank 7 = .ok (.invokevirtual 55, 3) := by decide +kernel
theorem dX4_readRank_10 : decode cX4_readRank 10 = .ok (.return_, 1) := by decide +kernel
theorem dX4_readRank_11 : decode cX4_readRank 11 = .ok (.aload_n 0, 1) := by decide +kernel
theorem dX4_readRank_12 : decode cX4_readRank 12 = .ok (.iload_n 1, 1) := by decide +kernel
theorem dX4_readRank_13 : decode cX4_readRank 13 = .ok (.iconst 1, 1) := by decide +kernel
theorem dX4_readRank_14 : decode cX4_readRank 14 = .ok (.iadd, 1) := by decide +kernel
theorem dX4_readRank_15 : decode cX4_readRank 15 = .ok (.iload_n 2, 1) := by decide +kernel
theorem dX4_readRank_16 : decode cX4_readRank 16 = .ok (.invokevirtual 43, 3) := by decide +kernel
theorem dX4_readRank_19 : decode cX4_readRank 19 = .ok (.iconst 0, 1) := by decide +kernel
theorem dX4_readRank_20 : decode cX4_readRank 20 = .ok (.istore_n 3, 1) := by decide +kernel
theorem dX4_readRank_21 : decode cX4_readRank 21 = .ok (.iload_n 3, 1) := by decide +kernel
theorem dX4_readRank_22 : decode cX4_readRank 22 = .ok (.aload_n 0, 1) := by decide +kernel
theorem dX4_readRank_23 : decode cX4_readRank 23 = .ok (.getfield 20, 3) := by decide +kernel
theorem dX4_readRank_26 : decode cX4_readRank 26 = .ok (.if_icmp .ge 50, 3) := by decide +kernel
theorem dX4_readRank_29 : decode cX4_readRank 29 = .ok (.aload_n 0, 1) := by decide +kernel
theorem dX4_readRank_30 : decode cX4_readRank 30 = .ok (.iload_n 1, 1) := by decide +kernel
theorem dX4_readRank_31 : decode cX4_readRank 31 = .ok (.invokevirtual 58, 3) := by decide +kernel
theorem dX4_readRank_34 : decode cX4_readRank 34 = .ok (.istore 4, 2) := by decide +kernel
theorem dX4_readRank_36 : decode cX4_readRank 36 = .ok (.iload 4, 2) := by decide +kernel
theorem dX4_readRank_38 : decode cX4_readRank 38 = .ok (.ifCond .ge 4, 3) := by decide +kernel
theorem dX4_readRank_41 : decode cX4_readRank 41 = .ok (.return_, 1) := by decide +kernel
theorem dX4_readRank_42 : decode cX4_readRank 42 = .ok (.aload_n 0, 1) := by decide +kernel
theorem dX4_readRank_43 : decode cX4_readRank 43 = .ok (.iload_n 1, 1) := by decide +kernel
theorem dX4_readRank_44 : decode cX4_readRank 44 = .ok (.iconst 1, 1) := by decide +kernel
theorem dX4_readRank_45 : decode cX4_readRank 45 = .ok (.iadd, 1) := by decide +kernel
theorem dX4_readRank_46 : decode cX4_readRank 46 = .ok (.iload_n 2, 1) := by decide +kernel
theorem dX4_readRank_47 : decode cX4_readRank 47 = .ok (.invokevirtual 43, 3) := by decide +kernel
theorem dX4_readRank_50 : decode cX4_readRank 50 = .ok (.aload_n 0, 1) := by decide +kernel
theorem dX4_readRank_51 : decode cX4_readRank 51 = .ok (.getfield 16, 3) := by decide +kernel
theorem dX4_readRank_54 : decode cX4_readRank 54 = .ok (.bipush 6, 2) := by decide +kernel
theorem dX4_readRank_56 : decode cX4_readRank 56 = .ok (.iload 4, 2) := by decide +kernel
theorem dX4_readRank_58 : decode cX4_readRank 58 = .ok (.iadd, 1) := by decide +kernel
theorem dX4_readRank_59 : decode cX4_readRank 59 = .ok (.iconst 0, 1) := by decide +kernel
theorem dX4_readRank_60 : decode cX4_readRank 60 = .ok (.invokevirtual 47, 3) := by decide +kernel
theorem dX4_readRank_63 : decode cX4_readRank 63 = .ok (.pop, 1) := by decide +kernel
theorem dX4_readRank_64 : decode cX4_readRank 64 = .ok (.iload_n 1, 1) := by decide +kernel
theorem dX4_readRank_65 : decode cX4_readRank 65 = .ok (.iconst 2, 1) := by decide +kernel
theorem dX4_readRank_66 : decode cX4_readRank 66 = .ok (.if_icmp .ne 4, 3) := by decide +kernel
theorem dX4_readRank_69 : decode cX4_readRank 69 = .ok (.return_, 1) := by decide +kernel
theorem dX4_readRank_70 : decode cX4_readRank 70 = .ok (.iinc 3 1, 3) := by decide +kernel
theorem dX4_readRank_73 : decode cX4_readRank 73 = .ok (.goto (-52), 3) := by decide +kernel
theorem dX4_readRank_76 : decode cX4_readRank 76 = .ok (.return_, 1) := by decide +kernel
theorem dX4_readOperand_0 : decode cX4_readOperand 0 = .ok (.aload_n 0, 1) := by decide +kernel
theorem dX4_readOperand_1 : decode cX4_readOperand 1 = .ok (.invokevirtual 62, 3) := by decide +kernel
theorem dX4_readOperand_4 : decode cX4_readOperand 4 = .ok (.istore_n 2, 1) := by decide +kernel
theorem dX4_readOperand_5 : decode cX4_readOperand 5 = .ok (.iload_n 2, 1) := by decide +kernel
theorem dX4_readOperand_6 : decode cX4_readOperand 6 = .ok (.invokestatic 66, 3) := by decide +kernel
theorem dX4_readOperand_9 : decode cX4_readOperand 9 = .ok (.ifCond .eq 10, 3) := by decide +kernel
theorem dX4_readOperand_12 : decode cX4_readOperand 12 = .ok (.aload_n 0, 1) := by decide +kernel
theorem dX4_readOperand_13 : decode cX4_readOperand 13 = .ok (.invokevirtual 70, 3) := by decide +kernel
theorem dX4_readOperand_16 : decode cX4_readOperand 16 = .ok (.goto 41, 3) := by decide +kernel
theorem dX4_readOperand_19 : decode cX4_readOperand 19 = .ok (.iload_n 2, 1) := by decide +kernel
theorem dX4_readOperand_20 : decode cX4_readOperand 20 = .ok (.bipush 40, 2) := by decide +kernel
theorem dX4_readOperand_22 : decode cX4_readOperand 22 = .ok (.if_icmp .eq 15, 3) := by decide +kernel
theorem dX4_readOperand_25 : decode cX4_readOperand 25 = .ok (.iload_n 2, 1) := by decide +kernel
theorem dX4_readOperand_26 : decode cX4_readOperand 26 = .ok (.bipush 33, 2) := by decide +kernel
theorem dX4_readOperand_28 : decode cX4_readOperand 28 = .ok (.if_icmp .eq 9, 3) := by decide +kernel
theorem dX4_readOperand_31 : decode cX4_readOperand 31 = .ok (.iload_n 2, 1) := by decide +kernel
theorem dX4_readOperand_32 : decode cX4_readOperand 32 = .ok (.bipush 45, 2) := by decide +kernel
theorem dX4_readOperand_34 : decode cX4_readOperand 34 = .ok (.if_icmp .ne 19, 3) := by decide +kernel
theorem dX4_readOperand_37 : decode cX4_readOperand 37 = .ok (.iload_n 1, 1) := by decide +kernel
theorem dX4_readOperand_38 : decode cX4_readOperand 38 = .ok (.bipush 6, 2) := by decide +kernel
theorem dX4_readOperand_40 : decode cX4_readOperand 40 = .ok (.if_icmp .ge 13, 3) := by decide +kernel
theorem dX4_readOperand_43 : decode cX4_readOperand 43 = .ok (.aload_n 0, 1) := by decide +kernel
theorem dX4_readOperand_44 : decode cX4_readOperand 44 = .ok (.iload_n 1, 1) := by decide +kernel
theorem dX4_readOperand_45 : decode cX4_readOperand 45 = .ok (.iconst 1, 1) := by decide +kernel
theorem dX4_readOperand_46 : decode cX4_readOperand 46 = .ok (.iadd, 1) := by decide +kernel
theorem dX4_readOperand_47 : decode cX4_readOperand 47 = .ok (.invokevirtual 73, 3) := by decide +kernel
theorem dX4_readOperand_50 : decode cX4_readOperand 50 = .ok (.goto 7, 3) := by decide +kernel
theorem dX4_readOperand_53 : decode cX4_readOperand 53 = .ok (.aload_n 0, 1) := by decide +kernel
theorem dX4_readOperand_54 : decode cX4_readOperand 54 = .ok (.invokevirtual 76, 3) := by decide +kernel
theorem dX4_readOperand_57 : decode cX4_readOperand 57 = .ok (.return_, 1) := by decide +kernel
theorem dX4_readOpened_0 : decode cX4_readOpened 0 = .ok (.aload_n 0, 1) := by decide +kernel
theorem dX4_readOpened_1 : decode cX4_readOpened 1 = .ok (.bipush 40, 2) := by decide +kernel
theorem dX4_readOpened_3 : decode cX4_readOpened 3 = .ok (.invokevirtual 36, 3) := by decide +kernel
theorem dX4_readOpened_6 : decode cX4_readOpened 6 = .ok (.ifCond .eq 25, 3) := by decide +kernel
theorem dX4_readOpened_9 : decode cX4_readOpened 9 = .ok (.aload_n 0, 1) := by decide +kernel
theorem dX4_readOpened_10 : decode cX4_readOpened 10 = .ok (.iconst 0, 1) := by decide +kernel
theorem dX4_readOpened_11 : decode cX4_readOpened 11 = .ok (.iload_n 1, 1) := by decide +kernel
theorem dX4_readOpened_12 : decode cX4_readOpened 12 = .ok (.invokevirtual 43, 3) := by decide +kernel
theorem dX4_readOpened_15 : decode cX4_readOpened 15 = .ok (.aload_n 0, 1) := by decide +kernel
theorem dX4_readOpened_16 : decode cX4_readOpened 16 = .ok (.bipush 41, 2) := by decide +kernel
theorem dX4_readOpened_18 : decode cX4_readOpened 18 = .ok (.invokevirtual 36, 3) := by decide +kernel
theorem dX4_readOpened_21 : decode cX4_readOpened 21 = .ok (.ifCond .ne 61, 3) := by decide +kernel
theorem dX4_readOpened_24 : decode cX4_readOpened 24 = .ok (.aload_n 0, 1) := by decide +kernel
theorem dX4_readOpened_25 : decode cX4_readOpened 25 = .ok (.invokevirtual 40, 3) := by decide +kernel
theorem dX4_readOpened_28 : decode cX4_readOpened 28 = .ok (.goto 54, 3) := by decide +kernel
theorem dX4_readOpened_31 : decode cX4_readOpened 31 = .ok (.aload_n 0, 1) := by decide +kernel
theorem dX4_readOpened_32 : decode cX4_readOpened 32 = .ok (.bipush 33, 2) := by decide +kernel
theorem dX4_readOpened_34 : decode cX4_readOpened 34 = .ok (.invokevirtual 36, 3) := by decide +kernel
theorem dX4_readOpened_37 : decode cX4_readOpened 37 = .ok (.ifCond .eq 21, 3) := by decide +kernel
theorem dX4_readOpened_40 : decode cX4_readOpened 40 = .ok (.aload_n 0, 1) := by decide +kernel
theorem dX4_readOpened_41 : decode cX4_readOpened 41 = .ok (.iload_n 1, 1) := by decide +kernel
theorem dX4_readOpened_42 : decode cX4_readOpened 42 = .ok (.invokevirtual 55, 3) := by decide +kernel
theorem dX4_readOpened_45 : decode cX4_readOpened 45 = .ok (.aload_n 0, 1) := by decide +kernel
theorem dX4_readOpened_46 : decode cX4_readOpened 46 = .ok (.getfield 16, 3) := by decide +kernel
theorem dX4_readOpened_49 : decode cX4_readOpened 49 = .ok (.iconst 4, 1) := by decide +kernel
theorem dX4_readOpened_50 : decode cX4_readOpened 50 = .ok (.iconst 0, 1) := by decide +kernel
theorem dX4_readOpened_51 : decode cX4_readOpened 51 = .ok (.invokevirtual 47, 3) := by decide +kernel
theorem dX4_readOpened_54 : decode cX4_readOpened 54 = .ok (.pop, 1) := by decide +kernel
theorem dX4_readOpened_55 : decode cX4_readOpened 55 = .ok (.goto 27, 3) := by decide +kernel
theorem dX4_readOpened_58 : decode cX4_readOpened 58 = .ok (.aload_n 0, 1) := by decide +kernel
theorem dX4_readOpened_59 : decode cX4_readOpened 59 = .ok (.bipush 45, 2) := by decide +kernel
theorem dX4_readOpened_61 : decode cX4_readOpened 61 = .ok (.invokevirtual 36, 3) := by decide +kernel
theorem dX4_readOpened_64 : decode cX4_readOpened 64 = .ok (.ifCond .eq 18, 3) := by decide +kernel
theorem dX4_readOpened_67 : decode cX4_readOpened 67 = .ok (.aload_n 0, 1) := by decide +kernel
theorem dX4_readOpened_68 : decode cX4_readOpened 68 = .ok (.iload_n 1, 1) := by decide +kernel
theorem dX4_readOpened_69 : decode cX4_readOpened 69 = .ok (.invokevirtual 55, 3) := by decide +kernel
theorem dX4_readOpened_72 : decode cX4_readOpened 72 = .ok (.aload_n 0, 1) := by decide +kernel
theorem dX4_readOpened_73 : decode cX4_readOpened 73 = .ok (.getfield 16, 3) := by decide +kernel
theorem dX4_readOpened_76 : decode cX4_readOpened 76 = .ok (.iconst 5, 1) := by decide +kernel
theorem dX4_readOpened_77 : decode cX4_readOpened 77 = .ok (.iconst 0, 1) := by decide +kernel
theorem dX4_readOpened_78 : decode cX4_readOpened 78 = .ok (.invokevirtual 47, 3) := by decide +kernel
theorem dX4_readOpened_81 : decode cX4_readOpened 81 = .ok (.pop, 1) := by decide +kernel
theorem dX4_readOpened_82 : decode cX4_readOpened 82 = .ok (.return_, 1) := by decide +kernel
theorem dX4_readNumber_0 : decode cX4_readNumber 0 = .ok (.iconst 0, 1) := by decide +kernel
theorem dX4_readNumber_1 : decode cX4_readNumber 1 = .ok (.istore_n 1, 1) := by decide +kernel
theorem dX4_readNumber_2 : decode cX4_readNumber 2 = .ok (.iconst 0, 1) := by decide +kernel
theorem dX4_readNumber_3 : decode cX4_readNumber 3 = .ok (.istore_n 2, 1) := by decide +kernel
theorem dX4_readNumber_4 : decode cX4_readNumber 4 = .ok (.iload_n 2, 1) := by decide +kernel
theorem dX4_readNumber_5 : decode cX4_readNumber 5 = .ok (.iconst 4, 1) := by decide +kernel
theorem dX4_readNumber_6 : decode cX4_readNumber 6 = .ok (.if_icmp .ge 42, 3) := by decide +kernel
theorem dX4_readNumber_9 : decode cX4_readNumber 9 = .ok (.aload_n 0, 1) := by decide +kernel
theorem dX4_readNumber_10 : decode cX4_readNumber 10 = .ok (.invokevirtual 62, 3) := by decide +kernel
theorem dX4_readNumber_13 : decode cX4_readNumber 13 = .ok (.invokestatic 66, 3) := by decide +kernel
theorem dX4_readNumber_16 : decode cX4_readNumber 16 = .ok (.ifCond .eq 32, 3) := by decide +kernel
theorem dX4_readNumber_19 : decode cX4_readNumber 19 = .ok (.iload_n 1, 1) := by decide +kernel
theorem dX4_readNumber_20 : decode cX4_readNumber 20 = .ok (.bipush 10, 2) := by decide +kernel
theorem dX4_readNumber_22 : decode cX4_readNumber 22 = .ok (.imul, 1) := by decide +kernel
theorem dX4_readNumber_23 : decode cX4_readNumber 23 = .ok (.aload_n 0, 1) := by decide +kernel
theorem dX4_readNumber_24 : decode cX4_readNumber 24 = .ok (.invokevirtual 62, 3) := by decide +kernel
theorem dX4_readNumber_27 : decode cX4_readNumber 27 = .ok (.iadd, 1) := by decide +kernel
theorem dX4_readNumber_28 : decode cX4_readNumber 28 = .ok (.bipush 48, 2) := by decide +kernel
theorem dX4_readNumber_30 : decode cX4_readNumber 30 = .ok (.isub, 1) := by decide +kernel
theorem dX4_readNumber_31 : decode cX4_readNumber 31 = .ok (.istore_n 1, 1) := by decide +kernel
theorem dX4_readNumber_32 : decode cX4_readNumber 32 = .ok (.aload_n 0, 1) := by decide +kernel
theorem dX4_readNumber_33 : decode cX4_readNumber 33 = .ok (.dup, 1) := by decide +kernel
theorem dX4_readNumber_34 : decode cX4_readNumber 34 = .ok (.getfield 24, 3) := by decide +kernel
theorem dX4_readNumber_37 : decode cX4_readNumber 37 = .ok (.iconst 1, 1) := by decide +kernel
theorem dX4_readNumber_38 : decode cX4_readNumber 38 = .ok (.iadd, 1) := by decide +kernel
theorem dX4_readNumber_39 : decode cX4_readNumber 39 = .ok (.putfield 24, 3) := by decide +kernel
theorem dX4_readNumber_42 : decode cX4_readNumber 42 = .ok (.iinc 2 1, 3) := by decide +kernel
theorem dX4_readNumber_45 : decode cX4_readNumber 45 = .ok (.goto (-41), 3) := by decide +kernel
theorem dX4_readNumber_48 : decode cX4_readNumber 48 = .ok (.aload_n 0, 1) := by decide +kernel
theorem dX4_readNumber_49 : decode cX4_readNumber 49 = .ok (.getfield 16, 3) := by decide +kernel
theorem dX4_readNumber_52 : decode cX4_readNumber 52 = .ok (.iconst 0, 1) := by decide +kernel
theorem dX4_readNumber_53 : decode cX4_readNumber 53 = .ok (.iload_n 1, 1) := by decide +kernel
theorem dX4_readNumber_54 : decode cX4_readNumber 54 = .ok (.invokevirtual 47, 3) := by decide +kernel
theorem dX4_readNumber_57 : decode cX4_readNumber 57 = .ok (.pop, 1) := by decide +kernel
theorem dX4_readNumber_58 : decode cX4_readNumber 58 = .ok (.return_, 1) := by decide +kernel
theorem dX4_readName_0 : decode cX4_readName 0 = .ok (.aload_n 0, 1) := by decide +kernel
theorem dX4_readName_1 : decode cX4_readName 1 = .ok (.invokevirtual 62, 3) := by decide +kernel
theorem dX4_readName_4 : decode cX4_readName 4 = .ok (.istore_n 1, 1) := by decide +kernel
theorem dX4_readName_5 : decode cX4_readName 5 = .ok (.iload_n 1, 1) := by decide +kernel
theorem dX4_readName_6 : decode cX4_readName 6 = .ok (.ifCond .ge 7, 3) := by decide +kernel
theorem dX4_readName_9 : decode cX4_readName 9 = .ok (.iconst (-1), 1) := by decide +kernel
theorem dX4_readName_10 : decode cX4_readName 10 = .ok (.goto 10, 3) := by decide +kernel
theorem dX4_readName_13 : decode cX4_readName 13 = .ok (.ldc 79, 2) := by decide +kernel
theorem dX4_readName_15 : decode cX4_readName 15 = .ok (.iload_n 1, 1) := by decide +kernel
theorem dX4_readName_16 : decode cX4_readName 16 = .ok (.i2c, 1) := by decide +kernel
theorem dX4_readName_17 : decode cX4_readName 17 = .ok (.invokevirtual 81, 3) := by decide +kernel
theorem dX4_readName_20 : decode cX4_readName 20 = .ok (.istore_n 2, 1) := by decide +kernel
theorem dX4_readName_21 : decode cX4_readName 21 = .ok (.iload_n 2, 1) := by decide +kernel
theorem dX4_readName_22 : decode cX4_readName 22 = .ok (.ifCond .ge 8, 3) := by decide +kernel
theorem dX4_readName_25 : decode cX4_readName 25 = .ok (.aload_n 0, 1) := by decide +kernel
theorem dX4_readName_26 : decode cX4_readName 26 = .ok (.invokevirtual 40, 3) := by decide +kernel
theorem dX4_readName_29 : decode cX4_readName 29 = .ok (.return_, 1) := by decide +kernel
theorem dX4_readName_30 : decode cX4_readName 30 = .ok (.aload_n 0, 1) := by decide +kernel
theorem dX4_readName_31 : decode cX4_readName 31 = .ok (.dup, 1) := by decide +kernel
theorem dX4_readName_32 : decode cX4_readName 32 = .ok (.getfield 24, 3) := by decide +kernel
theorem dX4_readName_35 : decode cX4_readName 35 = .ok (.iconst 1, 1) := by decide +kernel
theorem dX4_readName_36 : decode cX4_readName 36 = .ok (.iadd, 1) := by decide +kernel
theorem dX4_readName_37 : decode cX4_readName 37 = .ok (.putfield 24, 3) := by decide +kernel
theorem dX4_readName_40 : decode cX4_readName 40 = .ok (.aload_n 0, 1) := by decide +kernel
theorem dX4_readName_41 : decode cX4_readName 41 = .ok (.getfield 16, 3) := by decide +kernel
theorem dX4_readName_44 : decode cX4_readName 44 = .ok (.iconst 1, 1) := by decide +kernel
theorem dX4_readName_45 : decode cX4_readName 45 = .ok (.iload_n 2, 1) := by decide +kernel
theorem dX4_readName_46 : decode cX4_readName 46 = .ok (.invokevirtual 47, 3) := by decide +kernel
theorem dX4_readName_49 : decode cX4_readName 49 = .ok (.pop, 1) := by decide +kernel
theorem dX4_readName_50 : decode cX4_readName 50 = .ok (.iload_n 2, 1) := by decide +kernel
theorem dX4_readName_51 : decode cX4_readName 51 = .ok (.iconst 5, 1) := by decide +kernel
theorem dX4_readName_52 : decode cX4_readName 52 = .ok (.if_icmp .ne 11, 3) := by decide +kernel
theorem dX4_readName_55 : decode cX4_readName 55 = .ok (.aload_n 0, 1) := by decide +kernel
theorem dX4_readName_56 : decode cX4_readName 56 = .ok (.getfield 16, 3) := by decide +kernel
theorem dX4_readName_59 : decode cX4_readName 59 = .ok (.iconst 1, 1) := by decide +kernel
theorem dX4_readName_60 : decode cX4_readName 60 = .ok (.putfield 86, 3) := by decide +kernel
theorem dX4_readName_63 : decode cX4_readName 63 = .ok (.return_, 1) := by decide +kernel
theorem dX4_isDigit_0 : decode cX4_isDigit 0 = .ok (.iload_n 0, 1) := by decide +kernel
theorem dX4_isDigit_1 : decode cX4_isDigit 1 = .ok (.bipush 48, 2) := by decide +kernel
theorem dX4_isDigit_3 : decode cX4_isDigit 3 = .ok (.if_icmp .lt 13, 3) := by decide +kernel
theorem dX4_isDigit_6 : decode cX4_isDigit 6 = .ok (.iload_n 0, 1) := by decide +kernel
theorem dX4_isDigit_7 : decode cX4_isDigit 7 = .ok (.bipush 57, 2) := by decide +kernel
theorem dX4_isDigit_9 : decode cX4_isDigit 9 = .ok (.if_icmp .gt 7, 3) := by decide +kernel
theorem dX4_isDigit_12 : decode cX4_isDigit 12 = .ok (.iconst 1, 1) := by decide +kernel
theorem dX4_isDigit_13 : decode cX4_isDigit 13 = .ok (.goto 4, 3) := by decide +kernel
theorem dX4_isDigit_16 : decode cX4_isDigit 16 = .ok (.iconst 0, 1) := by decide +kernel
theorem dX4_isDigit_17 : decode cX4_isDigit 17 = .ok (.ireturn, 1) := by decide +kernel
theorem dX4_sign_0 : decode cX4_sign 0 = .ok (.aload_n 0, 1) := by decide +kernel
theorem dX4_sign_1 : decode cX4_sign 1 = .ok (.getfield 27, 3) := by decide +kernel
theorem dX4_sign_4 : decode cX4_sign 4 = .ok (.ifCond .ge 33, 3) := by decide +kernel
theorem dX4_sign_7 : decode cX4_sign 7 = .ok (.aload_n 0, 1) := by decide +kernel
theorem dX4_sign_8 : decode cX4_sign 8 = .ok (.getfield 24, 3) := by decide +kernel
theorem dX4_sign_11 : decode cX4_sign 11 = .ok (.ifCond .lt 26, 3) := by decide +kernel
theorem dX4_sign_14 : decode cX4_sign 14 = .ok (.aload_n 0, 1) := by decide +kernel
theorem dX4_sign_15 : decode cX4_sign 15 = .ok (.getfield 24, 3) := by decide +kernel
theorem dX4_sign_18 : decode cX4_sign 18 = .ok (.aload_n 0, 1) := by decide +kernel
theorem dX4_sign_19 : decode cX4_sign 19 = .ok (.getfield 20, 3) := by decide +kernel
theorem dX4_sign_22 : decode cX4_sign 22 = .ok (.if_icmp .ge 15, 3) := by decide +kernel
theorem dX4_sign_25 : decode cX4_sign 25 = .ok (.aload_n 0, 1) := by decide +kernel
theorem dX4_sign_26 : decode cX4_sign 26 = .ok (.getfield 9, 3) := by decide +kernel
theorem dX4_sign_29 : decode cX4_sign 29 = .ok (.aload_n 0, 1) := by decide +kernel
theorem dX4_sign_30 : decode cX4_sign 30 = .ok (.getfield 24, 3) := by decide +kernel
theorem dX4_sign_33 : decode cX4_sign 33 = .ok (.iaload, 1) := by decide +kernel
theorem dX4_sign_34 : decode cX4_sign 34 = .ok (.goto 4, 3) := by decide +kernel
theorem dX4_sign_37 : decode cX4_sign 37 = .ok (.iconst (-1), 1) := by decide +kernel
theorem dX4_sign_38 : decode cX4_sign 38 = .ok (.ireturn, 1) := by decide +kernel
theorem dX4_takes_0 : decode cX4_takes 0 = .ok (.aload_n 0, 1) := by decide +kernel
theorem dX4_takes_1 : decode cX4_takes 1 = .ok (.invokevirtual 62, 3) := by decide +kernel
theorem dX4_takes_4 : decode cX4_takes 4 = .ok (.iload_n 1, 1) := by decide +kernel
theorem dX4_takes_5 : decode cX4_takes 5 = .ok (.if_icmp .ne 7, 3) := by decide +kernel
theorem dX4_takes_8 : decode cX4_takes 8 = .ok (.iconst 1, 1) := by decide +kernel
theorem dX4_takes_9 : decode cX4_takes 9 = .ok (.goto 4, 3) := by decide +kernel
theorem dX4_takes_12 : decode cX4_takes 12 = .ok (.iconst 0, 1) := by decide +kernel
theorem dX4_takes_13 : decode cX4_takes 13 = .ok (.istore_n 2, 1) := by decide +kernel
theorem dX4_takes_14 : decode cX4_takes 14 = .ok (.aload_n 0, 1) := by decide +kernel
theorem dX4_takes_15 : decode cX4_takes 15 = .ok (.dup, 1) := by decide +kernel
theorem dX4_takes_16 : decode cX4_takes 16 = .ok (.getfield 24, 3) := by decide +kernel
theorem dX4_takes_19 : decode cX4_takes 19 = .ok (.iload_n 2, 1) := by decide +kernel
theorem dX4_takes_20 : decode cX4_takes 20 = .ok (.ifCond .eq 7, 3) := by decide +kernel
theorem dX4_takes_23 : decode cX4_takes 23 = .ok (.iconst 1, 1) := by decide +kernel
theorem dX4_takes_24 : decode cX4_takes 24 = .ok (.goto 4, 3) := by decide +kernel
theorem dX4_takes_27 : decode cX4_takes 27 = .ok (.iconst 0, 1) := by decide +kernel
theorem dX4_takes_28 : decode cX4_takes 28 = .ok (.iadd, 1) := by decide +kernel
theorem dX4_takes_29 : decode cX4_takes 29 = .ok (.putfield 24, 3) := by decide +kernel
theorem dX4_takes_32 : decode cX4_takes 32 = .ok (.iload_n 2, 1) := by decide +kernel
theorem dX4_takes_33 : decode cX4_takes 33 = .ok (.ireturn, 1) := by decide +kernel
theorem dX4_takesJoiner_0 : decode cX4_takesJoiner 0 = .ok (.aload_n 0, 1) := by decide +kernel
theorem dX4_takesJoiner_1 : decode cX4_takesJoiner 1 = .ok (.invokevirtual 62, 3) := by decide +kernel
theorem dX4_takesJoiner_4 : decode cX4_takesJoiner 4 = .ok (.istore_n 2, 1) := by decide +kernel
theorem dX4_takesJoiner_5 : decode cX4_takesJoiner 5 = .ok (.iload_n 2, 1) := by decide +kernel
theorem dX4_takesJoiner_6 : decode cX4_takesJoiner 6 = .ok (.ifCond .ge 7, 3) := by decide +kernel
theorem dX4_takesJoiner_9 : decode cX4_takesJoiner 9 = .ok (.iconst (-1), 1) := by decide +kernel
theorem dX4_takesJoiner_10 : decode cX4_takesJoiner 10 = .ok (.goto 10, 3) := by decide +kernel
theorem dX4_takesJoiner_13 : decode cX4_takesJoiner 13 = .ok (.ldc 90, 2) := by decide +kernel
theorem dX4_takesJoiner_15 : decode cX4_takesJoiner 15 = .ok (.iload_n 2, 1) := by decide +kernel
theorem dX4_takesJoiner_16 : decode cX4_takesJoiner 16 = .ok (.i2c, 1) := by decide +kernel
theorem dX4_takesJoiner_17 : decode cX4_takesJoiner 17 = .ok (.invokevirtual 81, 3) := by decide +kernel
theorem dX4_takesJoiner_20 : decode cX4_takesJoiner 20 = .ok (.istore_n 3, 1) := by decide +kernel
theorem dX4_takesJoiner_21 : decode cX4_takesJoiner 21 = .ok (.iload_n 3, 1) := by decide +kernel
theorem dX4_takesJoiner_22 : decode cX4_takesJoiner 22 = .ok (.ifCond .lt 12, 3) := by decide +kernel
theorem dX4_takesJoiner_25 : decode cX4_takesJoiner 25 = .ok (.getstatic 92, 3) := by decide +kernel
theorem dX4_takesJoiner_28 : decode cX4_takesJoiner 28 = .ok (.iload_n 3, 1) := by decide +kernel
theorem dX4_takesJoiner_29 : decode cX4_takesJoiner 29 = .ok (.iaload, 1) := by decide +kernel
theorem dX4_takesJoiner_30 : decode cX4_takesJoiner 30 = .ok (.iload_n 1, 1) := by decide +kernel
theorem dX4_takesJoiner_31 : decode cX4_takesJoiner 31 = .ok (.if_icmp .eq 5, 3) := by decide +kernel
theorem dX4_takesJoiner_34 : decode cX4_takesJoiner 34 = .ok (.iconst (-1), 1) := by decide +kernel
theorem dX4_takesJoiner_35 : decode cX4_takesJoiner 35 = .ok (.ireturn, 1) := by decide +kernel
theorem dX4_takesJoiner_36 : decode cX4_takesJoiner 36 = .ok (.aload_n 0, 1) := by decide +kernel
theorem dX4_takesJoiner_37 : decode cX4_takesJoiner 37 = .ok (.dup, 1) := by decide +kernel
theorem dX4_takesJoiner_38 : decode cX4_takesJoiner 38 = .ok (.getfield 24, 3) := by decide +kernel
theorem dX4_takesJoiner_41 : decode cX4_takesJoiner 41 = .ok (.iconst 1, 1) := by decide +kernel
theorem dX4_takesJoiner_42 : decode cX4_takesJoiner 42 = .ok (.iadd, 1) := by decide +kernel
theorem dX4_takesJoiner_43 : decode cX4_takesJoiner 43 = .ok (.putfield 24, 3) := by decide +kernel
theorem dX4_takesJoiner_46 : decode cX4_takesJoiner 46 = .ok (.iload_n 3, 1) := by decide +kernel
theorem dX4_takesJoiner_47 : decode cX4_takesJoiner 47 = .ok (.ireturn, 1) := by decide +kernel
theorem dX4_fail_0 : decode cX4_fail 0 = .ok (.aload_n 0, 1) := by decide +kernel
theorem dX4_fail_1 : decode cX4_fail 1 = .ok (.getfield 27, 3) := by decide +kernel
theorem dX4_fail_4 : decode cX4_fail 4 = .ok (.ifCond .ge 11, 3) := by decide +kernel
theorem dX4_fail_7 : decode cX4_fail 7 = .ok (.aload_n 0, 1) := by decide +kernel
theorem dX4_fail_8 : decode cX4_fail 8 = .ok (.aload_n 0, 1) := by decide +kernel
theorem dX4_fail_9 : decode cX4_fail 9 = .ok (.getfield 24, 3) := by decide +kernel
theorem dX4_fail_12 : decode cX4_fail 12 = .ok (.putfield 27, 3) := by decide +kernel
theorem dX4_fail_15 : decode cX4_fail 15 = .ok (.return_, 1) := by decide +kernel
theorem dX5_init_0 : decode cX5_init 0 = .ok (.aload_n 0, 1) := by decide +kernel
theorem dX5_init_1 : decode cX5_init 1 = .ok (.invokespecial 3, 3) := by decide +kernel
theorem dX5_init_4 : decode cX5_init 4 = .ok (.aload_n 0, 1) := by decide +kernel
theorem dX5_init_5 : decode cX5_init 5 = .ok (.iconst 5, 1) := by decide +kernel
theorem dX5_init_6 : decode cX5_init 6 = .ok (.newarray .int, 2) := by decide +kernel
theorem dX5_init_8 : decode cX5_init 8 = .ok (.putfield 11, 3) := by decide +kernel
theorem dX5_init_11 : decode cX5_init 11 = .ok (.aload_n 0, 1) := by decide +kernel
theorem dX5_init_12 : decode cX5_init 12 = .ok (.iconst 5, 1) := by decide +kernel
theorem dX5_init_13 : decode cX5_init 13 = .ok (.newarray .int, 2) := by decide +kernel
theorem dX5_init_15 : decode cX5_init 15 = .ok (.putfield 15, 3) := by decide +kernel
theorem dX5_init_18 : decode cX5_init 18 = .ok (.return_, 1) := by decide +kernel
theorem dX5_enter_0 : decode cX5_enter 0 = .ok (.aload_n 1, 1) := by decide +kernel
theorem dX5_enter_1 : decode cX5_enter 1 = .ok (.aload_n 2, 1) := by decide +kernel
theorem dX5_enter_2 : decode cX5_enter 2 = .ok (.invokevirtual 18, 3) := by decide +kernel
theorem dX5_enter_5 : decode cX5_enter 5 = .ok (.istore_n 3, 1) := by decide +kernel
theorem dX5_enter_6 : decode cX5_enter 6 = .ok (.aload_n 0, 1) := by decide +kernel
theorem dX5_enter_7 : decode cX5_enter 7 = .ok (.getfield 11, 3) := by decide +kernel
theorem dX5_enter_10 : decode cX5_enter 10 = .ok (.iconst 0, 1) := by decide +kernel
theorem dX5_enter_11 : decode cX5_enter 11 = .ok (.dup2, 1) := by decide +kernel
theorem dX5_enter_12 : decode cX5_enter 12 = .ok (.iaload, 1) := by decide +kernel
theorem dX5_enter_13 : decode cX5_enter 13 = .ok (.iconst 1, 1) := by decide +kernel
theorem dX5_enter_14 : decode cX5_enter 14 = .ok (.iadd, 1) := by decide +kernel
theorem dX5_enter_15 : decode cX5_enter 15 = .ok (.iastore, 1) := by decide +kernel
theorem dX5_enter_16 : decode cX5_enter 16 = .ok (.aload_n 0, 1) := by decide +kernel
theorem dX5_enter_17 : decode cX5_enter 17 = .ok (.getfield 11, 3) := by decide +kernel
theorem dX5_enter_20 : decode cX5_enter 20 = .ok (.iconst 1, 1) := by decide +kernel
theorem dX5_enter_21 : decode cX5_enter 21 = .ok (.dup2, 1) := by decide +kernel
theorem dX5_enter_22 : decode cX5_enter 22 = .ok (.iaload, 1) := by decide +kernel
theorem dX5_enter_23 : decode cX5_enter 23 = .ok (.aload_n 1, 1) := by decide +kernel
theorem dX5_enter_24 : decode cX5_enter 24 = .ok (.invokevirtual 24, 3) := by decide +kernel
theorem dX5_enter_27 : decode cX5_enter 27 = .ok (.iadd, 1) := by decide +kernel
theorem dX5_enter_28 : decode cX5_enter 28 = .ok (.iastore, 1) := by decide +kernel
theorem dX5_enter_29 : decode cX5_enter 29 = .ok (.aload_n 0, 1) := by decide +kernel
theorem dX5_enter_30 : decode cX5_enter 30 = .ok (.getfield 11, 3) := by decide +kernel
theorem dX5_enter_33 : decode cX5_enter 33 = .ok (.iconst 2, 1) := by decide +kernel
theorem dX5_enter_34 : decode cX5_enter 34 = .ok (.dup2, 1) := by decide +kernel
theorem dX5_enter_35 : decode cX5_enter 35 = .ok (.iaload, 1) := by decide +kernel
theorem dX5_enter_36 : decode cX5_enter 36 = .ok (.iload_n 3, 1) := by decide +kernel
theorem dX5_enter_37 : decode cX5_enter 37 = .ok (.iadd, 1) := by decide +kernel
theorem dX5_enter_38 : decode cX5_enter 38 = .ok (.iastore, 1) := by decide +kernel
theorem dX5_enter_39 : decode cX5_enter 39 = .ok (.aload_n 0, 1) := by decide +kernel
theorem dX5_enter_40 : decode cX5_enter 40 = .ok (.getfield 11, 3) := by decide +kernel
theorem dX5_enter_43 : decode cX5_enter 43 = .ok (.iconst 3, 1) := by decide +kernel
theorem dX5_enter_44 : decode cX5_enter 44 = .ok (.dup2, 1) := by decide +kernel
theorem dX5_enter_45 : decode cX5_enter 45 = .ok (.iaload, 1) := by decide +kernel
theorem dX5_enter_46 : decode cX5_enter 46 = .ok (.aload_n 1, 1) := by decide +kernel
theorem dX5_enter_47 : decode cX5_enter 47 = .ok (.getfield 28, 3) := by decide +kernel
theorem dX5_enter_50 : decode cX5_enter 50 = .ok (.iadd, 1) := by decide +kernel
theorem dX5_enter_51 : decode cX5_enter 51 = .ok (.iastore, 1) := by decide +kernel
theorem dX5_enter_52 : decode cX5_enter 52 = .ok (.aload_n 0, 1) := by decide +kernel
theorem dX5_enter_53 : decode cX5_enter 53 = .ok (.getfield 11, 3) := by decide +kernel
theorem dX5_enter_56 : decode cX5_enter 56 = .ok (.iconst 4, 1) := by decide +kernel
theorem dX5_enter_57 : decode cX5_enter 57 = .ok (.dup2, 1) := by decide +kernel
theorem dX5_enter_58 : decode cX5_enter 58 = .ok (.iaload, 1) := by decide +kernel
theorem dX5_enter_59 : decode cX5_enter 59 = .ok (.aload_n 1, 1) := by decide +kernel
theorem dX5_enter_60 : decode cX5_enter 60 = .ok (.getfield 32, 3) := by decide +kernel
theorem dX5_enter_63 : decode cX5_enter 63 = .ok (.iconst 2, 1) := by decide +kernel
theorem dX5_enter_64 : decode cX5_enter 64 = .ok (.if_icmp .ne 7, 3) := by decide +kernel
theorem dX5_enter_67 : decode cX5_enter 67 = .ok (.iconst 1, 1) := by decide +kernel
theorem dX5_enter_68 : decode cX5_enter 68 = .ok (.goto 4, 3) := by decide +kernel
theorem dX5_enter_71 : decode cX5_enter 71 = .ok (.iconst 0, 1) := by decide +kernel
theorem dX5_enter_72 : decode cX5_enter 72 = .ok (.iadd, 1) := by decide +kernel
theorem dX5_enter_73 : decode cX5_enter 73 = .ok (.iastore, 1) := by decide +kernel
theorem dX5_enter_74 : decode cX5_enter 74 = .ok (.aload_n 1, 1) := by decide +kernel
theorem dX5_enter_75 : decode cX5_enter 75 = .ok (.getfield 32, 3) := by decide +kernel
theorem dX5_enter_78 : decode cX5_enter 78 = .ok (.iconst 1, 1) := by decide +kernel
theorem dX5_enter_79 : decode cX5_enter 79 = .ok (.if_icmp .ne 17, 3) := by decide +kernel
theorem dX5_enter_82 : decode cX5_enter 82 = .ok (.aload_n 2, 1) := by decide +kernel
theorem dX5_enter_83 : decode cX5_enter 83 = .ok (.getfield 35, 3) := by decide +kernel
theorem dX5_enter_86 : decode cX5_enter 86 = .ok (.aload_n 1, 1) := by decide +kernel
theorem dX5_enter_87 : decode cX5_enter 87 = .ok (.getfield 40, 3) := by decide +kernel
theorem dX5_enter_90 : decode cX5_enter 90 = .ok (.iconst (-1), 1) := by decide +kernel
theorem dX5_enter_91 : decode cX5_enter 91 = .ok (.ixor, 1) := by decide +kernel
theorem dX5_enter_92 : decode cX5_enter 92 = .ok (.iand, 1) := by decide +kernel
theorem dX5_enter_93 : decode cX5_enter 93 = .ok (.goto 7, 3) := by decide +kernel
theorem dX5_enter_96 : decode cX5_enter 96 = .ok (.aload_n 2, 1) := by decide +kernel
theorem dX5_enter_97 : decode cX5_enter 97 = .ok (.getfield 35, 3) := by decide +kernel
theorem dX5_enter_100 : decode cX5_enter 100 = .ok (.istore 4, 2) := by decide +kernel
theorem dX5_enter_102 : decode cX5_enter 102 = .ok (.iconst 0, 1) := by decide +kernel
theorem dX5_enter_103 : decode cX5_enter 103 = .ok (.istore 5, 2) := by decide +kernel
theorem dX5_enter_105 : decode cX5_enter 105 = .ok (.iload 5, 2) := by decide +kernel
theorem dX5_enter_107 : decode cX5_enter 107 = .ok (.iload_n 3, 1) := by decide +kernel
theorem dX5_enter_108 : decode cX5_enter 108 = .ok (.if_icmp .ge 31, 3) := by decide +kernel
theorem dX5_enter_111 : decode cX5_enter 111 = .ok (.aload_n 2, 1) := by decide +kernel
theorem dX5_enter_112 : decode cX5_enter 112 = .ok (.invokevirtual 43, 3) := by decide +kernel
theorem dX5_enter_115 : decode cX5_enter 115 = .ok (.iload 4, 2) := by decide +kernel
theorem dX5_enter_117 : decode cX5_enter 117 = .ok (.iconst (-1), 1) := by decide +kernel
theorem dX5_enter_118 : decode cX5_enter 118 = .ok (.ixor, 1) := by decide +kernel
theorem dX5_enter_119 : decode cX5_enter 119 = .ok (.iand, 1) := by decide +kernel
theorem dX5_enter_120 : decode cX5_enter 120 = .ok (.istore 6, 2) := by decide +kernel
theorem dX5_enter_122 : decode cX5_enter 122 = .ok (.iload 4, 2) := by decide +kernel
theorem dX5_enter_124 : decode cX5_enter 124 = .ok (.iload 6, 2) := by decide +kernel
theorem dX5_enter_126 : decode cX5_enter 126 = .ok (.iload 6, 2) := by decide +kernel
theorem dX5_enter_128 : decode cX5_enter 128 = .ok (.ineg, 1) := by decide +kernel
theorem dX5_enter_129 : decode cX5_enter 129 = .ok (.iand, 1) := by decide +kernel
theorem dX5_enter_130 : decode cX5_enter 130 = .ok (.ior, 1) := by decide +kernel
theorem dX5_enter_131 : decode cX5_enter 131 = .ok (.istore 4, 2) := by decide +kernel
theorem dX5_enter_133 : decode cX5_enter 133 = .ok (.iinc 5 1, 3) := by decide +kernel
theorem dX5_enter_136 : decode cX5_enter 136 = .ok (.goto (-31), 3) := by decide +kernel
theorem dX5_enter_139 : decode cX5_enter 139 = .ok (.aload_n 2, 1) := by decide +kernel
theorem dX5_enter_140 : decode cX5_enter 140 = .ok (.iload 4, 2) := by decide +kernel
theorem dX5_enter_142 : decode cX5_enter 142 = .ok (.invokevirtual 46, 3) := by decide +kernel
theorem dX5_enter_145 : decode cX5_enter 145 = .ok (.return_, 1) := by decide +kernel
theorem dX5_keepImage_0 : decode cX5_keepImage 0 = .ok (.aload_n 0, 1) := by decide +kernel
theorem dX5_keepImage_1 : decode cX5_keepImage 1 = .ok (.getfield 11, 3) := by decide +kernel
theorem dX5_keepImage_4 : decode cX5_keepImage 4 = .ok (.iconst 0, 1) := by decide +kernel
theorem dX5_keepImage_5 : decode cX5_keepImage 5 = .ok (.aload_n 0, 1) := by decide +kernel
theorem dX5_keepImage_6 : decode cX5_keepImage 6 = .ok (.getfield 15, 3) := by decide +kernel
theorem dX5_keepImage_9 : decode cX5_keepImage 9 = .ok (.iconst 0, 1) := by decide +kernel
theorem dX5_keepImage_10 : decode cX5_keepImage 10 = .ok (.iconst 5, 1) := by decide +kernel
theorem dX5_keepImage_11 : decode cX5_keepImage 11 = .ok (.invokestatic 50, 3) := by decide +kernel
theorem dX5_keepImage_14 : decode cX5_keepImage 14 = .ok (.aload_n 0, 1) := by decide +kernel
theorem dX5_keepImage_15 : decode cX5_keepImage 15 = .ok (.aload_n 1, 1) := by decide +kernel
theorem dX5_keepImage_16 : decode cX5_keepImage 16 = .ok (.getfield 35, 3) := by decide +kernel
theorem dX5_keepImage_19 : decode cX5_keepImage 19 = .ok (.putfield 56, 3) := by decide +kernel
theorem dX5_keepImage_22 : decode cX5_keepImage 22 = .ok (.aload_n 0, 1) := by decide +kernel
theorem dX5_keepImage_23 : decode cX5_keepImage 23 = .ok (.aload_n 1, 1) := by decide +kernel
theorem dX5_keepImage_24 : decode cX5_keepImage 24 = .ok (.invokevirtual 43, 3) := by decide +kernel
theorem dX5_keepImage_27 : decode cX5_keepImage 27 = .ok (.putfield 59, 3) := by decide +kernel
theorem dX5_keepImage_30 : decode cX5_keepImage 30 = .ok (.aload_n 0, 1) := by decide +kernel
theorem dX5_keepImage_31 : decode cX5_keepImage 31 = .ok (.iconst 1, 1) := by decide +kernel
theorem dX5_keepImage_32 : decode cX5_keepImage 32 = .ok (.putfield 62, 3) := by decide +kernel
theorem dX5_keepImage_35 : decode cX5_keepImage 35 = .ok (.return_, 1) := by decide +kernel
theorem dX5_layBack_0 : decode cX5_layBack 0 = .ok (.aload_n 0, 1) := by decide +kernel
theorem dX5_layBack_1 : decode cX5_layBack 1 = .ok (.getfield 62, 3) := by decide +kernel
theorem dX5_layBack_4 : decode cX5_layBack 4 = .ok (.ifCond .eq 37, 3) := by decide +kernel
theorem dX5_layBack_7 : decode cX5_layBack 7 = .ok (.aload_n 0, 1) := by decide +kernel
theorem dX5_layBack_8 : decode cX5_layBack 8 = .ok (.getfield 15, 3) := by decide +kernel
theorem dX5_layBack_11 : decode cX5_layBack 11 = .ok (.iconst 0, 1) := by decide +kernel
theorem dX5_layBack_12 : decode cX5_layBack 12 = .ok (.aload_n 0, 1) := by decide +kernel
theorem dX5_layBack_13 : decode cX5_layBack 13 = .ok (.getfield 11, 3) := by decide +kernel
theorem dX5_layBack_16 : decode cX5_layBack 16 = .ok (.iconst 0, 1) := by decide +kernel
theorem dX5_layBack_17 : decode cX5_layBack 17 = .ok (.iconst 5, 1) := by decide +kernel
theorem dX5_layBack_18 : decode cX5_layBack 18 = .ok (.invokestatic 50, 3) := by decide +kernel
theorem dX5_layBack_21 : decode cX5_layBack 21 = .ok (.aload_n 1, 1) := by decide +kernel
theorem dX5_layBack_22 : decode cX5_layBack 22 = .ok (.aload_n 1, 1) := by decide +kernel
theorem dX5_layBack_23 : decode cX5_layBack 23 = .ok (.getfield 35, 3) := by decide +kernel
theorem dX5_layBack_26 : decode cX5_layBack 26 = .ok (.aload_n 0, 1) := by decide +kernel
theorem dX5_layBack_27 : decode cX5_layBack 27 = .ok (.getfield 59, 3) := by decide +kernel
theorem dX5_layBack_30 : decode cX5_layBack 30 = .ok (.iconst (-1), 1) := by decide +kernel
theorem dX5_layBack_31 : decode cX5_layBack 31 = .ok (.ixor, 1) := by decide +kernel
theorem dX5_layBack_32 : decode cX5_layBack 32 = .ok (.iand, 1) := by decide +kernel
theorem dX5_layBack_33 : decode cX5_layBack 33 = .ok (.aload_n 0, 1) := by decide +kernel
theorem dX5_layBack_34 : decode cX5_layBack 34 = .ok (.getfield 56, 3) := by decide +kernel
theorem dX5_layBack_37 : decode cX5_layBack 37 = .ok (.ior, 1) := by decide +kernel
theorem dX5_layBack_38 : decode cX5_layBack 38 = .ok (.invokevirtual 46, 3) := by decide +kernel
theorem dX5_layBack_41 : decode cX5_layBack 41 = .ok (.aload_n 0, 1) := by decide +kernel
theorem dX5_layBack_42 : decode cX5_layBack 42 = .ok (.getfield 62, 3) := by decide +kernel
theorem dX5_layBack_45 : decode cX5_layBack 45 = .ok (.ireturn, 1) := by decide +kernel
theorem dX6_init_0 : decode cX6_init 0 = .ok (.aload_n 0, 1) := by decide +kernel
theorem dX6_init_1 : decode cX6_init 1 = .ok (.invokespecial 5, 3) := by decide +kernel
theorem dX6_init_4 : decode cX6_init 4 = .ok (.aload_n 0, 1) := by decide +kernel
theorem dX6_init_5 : decode cX6_init 5 = .ok (.sipush 183, 3) := by decide +kernel
theorem dX6_init_8 : decode cX6_init 8 = .ok (.newarray .int, 2) := by decide +kernel
theorem dX6_init_10 : decode cX6_init 10 = .ok (.putfield 11, 3) := by decide +kernel
theorem dX6_init_13 : decode cX6_init 13 = .ok (.aload_n 0, 1) := by decide +kernel
theorem dX6_init_14 : decode cX6_init 14 = .ok (.sipush 183, 3) := by decide +kernel
theorem dX6_init_17 : decode cX6_init 17 = .ok (.newarray .int, 2) := by decide +kernel
theorem dX6_init_19 : decode cX6_init 19 = .ok (.putfield 15, 3) := by decide +kernel
theorem dX6_init_22 : decode cX6_init 22 = .ok (.return_, 1) := by decide +kernel
theorem dX6_weigh_0 : decode cX6_weigh 0 = .ok (.iconst 3, 1) := by decide +kernel
theorem dX6_weigh_1 : decode cX6_weigh 1 = .ok (.iload_n 2, 1) := by decide +kernel
theorem dX6_weigh_2 : decode cX6_weigh 2 = .ok (.imul, 1) := by decide +kernel
theorem dX6_weigh_3 : decode cX6_weigh 3 = .ok (.istore 6, 2) := by decide +kernel
theorem dX6_weigh_5 : decode cX6_weigh 5 = .ok (.iconst 0, 1) := by decide +kernel
theorem dX6_weigh_6 : decode cX6_weigh 6 = .ok (.istore 7, 2) := by decide +kernel
theorem dX6_weigh_8 : decode cX6_weigh 8 = .ok (.iload 7, 2) := by decide +kernel
theorem dX6_weigh_10 : decode cX6_weigh 10 = .ok (.iconst 2, 1) := by decide +kernel
theorem dX6_weigh_11 : decode cX6_weigh 11 = .ok (.if_icmp .gt 69, 3) := by decide +kernel
theorem dX6_weigh_14 : decode cX6_weigh 14 = .ok (.iconst 0, 1) := by decide +kernel
theorem dX6_weigh_15 : decode cX6_weigh 15 = .ok (.istore 8, 2) := by decide +kernel
theorem dX6_weigh_17 : decode cX6_weigh 17 = .ok (.iload 8, 2) := by decide +kernel
theorem dX6_weigh_19 : decode cX6_weigh 19 = .ok (.iload 6, 2) := by decide +kernel
theorem dX6_weigh_21 : decode cX6_weigh 21 = .ok (.if_icmp .gt 53, 3) := by decide +kernel
theorem dX6_weigh_24 : decode cX6_weigh 24 = .ok (.iload_n 3, 1) := by decide +kernel
theorem dX6_weigh_25 : decode cX6_weigh 25 = .ok (.iconst 2, 1) := by decide +kernel
theorem dX6_weigh_26 : decode cX6_weigh 26 = .ok (.iload_n 2, 1) := by decide +kernel
theorem dX6_weigh_27 : decode cX6_weigh 27 = .ok (.imul, 1) := by decide +kernel
theorem dX6_weigh_28 : decode cX6_weigh 28 = .ok (.isub, 1) := by decide +kernel
theorem dX6_weigh_29 : decode cX6_weigh 29 = .ok (.iload 8, 2) := by decide +kernel
theorem dX6_weigh_31 : decode cX6_weigh 31 = .ok (.iadd, 1) := by decide +kernel
theorem dX6_weigh_32 : decode cX6_weigh 32 = .ok (.istore 9, 2) := by decide +kernel
theorem dX6_weigh_34 : decode cX6_weigh 34 = .ok (.aload_n 0, 1) := by decide +kernel
theorem dX6_weigh_35 : decode cX6_weigh 35 = .ok (.getfield 11, 3) := by decide +kernel
theorem dX6_weigh_38 : decode cX6_weigh 38 = .ok (.iload 7, 2) := by decide +kernel
theorem dX6_weigh_40 : decode cX6_weigh 40 = .ok (.bipush 61, 2) := by decide +kernel
theorem dX6_weigh_42 : decode cX6_weigh 42 = .ok (.imul, 1) := by decide +kernel
theorem dX6_weigh_43 : decode cX6_weigh 43 = .ok (.iload 8, 2) := by decide +kernel
theorem dX6_weigh_45 : decode cX6_weigh 45 = .ok (.iadd, 1) := by decide +kernel
theorem dX6_weigh_46 : decode cX6_weigh 46 = .ok (.iload 9, 2) := by decide +kernel
theorem dX6_weigh_48 : decode cX6_weigh 48 = .ok (.ifCond .le 8, 3) := by decide +kernel
theorem dX6_weigh_51 : decode cX6_weigh 51 = .ok (.ldc 18, 2) := by decide +kernel
theorem dX6_weigh_53 : decode cX6_weigh 53 = .ok (.goto 14, 3) := by decide +kernel
theorem dX6_weigh_56 : decode cX6_weigh 56 = .ok (.iload 9, 2) := by decide +kernel
theorem dX6_weigh_58 : decode cX6_weigh 58 = .ok (.ifCond .ne 8, 3) := by decide +kernel
theorem dX6_weigh_61 : decode cX6_weigh 61 = .ok (.ldc 19, 2) := by decide +kernel
theorem dX6_weigh_63 : decode cX6_weigh 63 = .ok (.goto 4, 3) := by decide +kernel
theorem dX6_weigh_66 : decode cX6_weigh 66 = .ok (.iconst 0, 1) := by decide +kernel
theorem dX6_weigh_67 : decode cX6_weigh 67 = .ok (.iastore, 1) := by decide +kernel
theorem dX6_weigh_68 : decode cX6_weigh 68 = .ok (.iinc 8 1, 3) := by decide +kernel
theorem dX6_weigh_71 : decode cX6_weigh 71 = .ok (.goto (-54), 3) := by decide +kernel
theorem dX6_weigh_74 : decode cX6_weigh 74 = .ok (.iinc 7 1, 3) := by decide +kernel
theorem dX6_weigh_77 : decode cX6_weigh 77 = .ok (.goto (-69), 3) := by decide +kernel
theorem dX6_weigh_80 : decode cX6_weigh 80 = .ok (.aload_n 0, 1) := by decide +kernel
theorem dX6_weigh_81 : decode cX6_weigh 81 = .ok (.iconst 0, 1) := by decide +kernel
theorem dX6_weigh_82 : decode cX6_weigh 82 = .ok (.putfield 20, 3) := by decide +kernel
theorem dX6_weigh_85 : decode cX6_weigh 85 = .ok (.iconst 1, 1) := by decide +kernel
theorem dX6_weigh_86 : decode cX6_weigh 86 = .ok (.istore 7, 2) := by decide +kernel
theorem dX6_weigh_88 : decode cX6_weigh 88 = .ok (.iload 7, 2) := by decide +kernel
theorem dX6_weigh_90 : decode cX6_weigh 90 = .ok (.iload_n 2, 1) := by decide +kernel
theorem dX6_weigh_91 : decode cX6_weigh 91 = .ok (.if_icmp .gt 54, 3) := by decide +kernel
theorem dX6_weigh_94 : decode cX6_weigh 94 = .ok (.iconst 2, 1) := by decide +kernel
theorem dX6_weigh_95 : decode cX6_weigh 95 = .ok (.iload 7, 2) := by decide +kernel
theorem dX6_weigh_97 : decode cX6_weigh 97 = .ok (.imul, 1) := by decide +kernel
theorem dX6_weigh_98 : decode cX6_weigh 98 = .ok (.istore 8, 2) := by decide +kernel
theorem dX6_weigh_100 : decode cX6_weigh 100 = .ok (.iload 6, 2) := by decide +kernel
theorem dX6_weigh_102 : decode cX6_weigh 102 = .ok (.iload 7, 2) := by decide +kernel
theorem dX6_weigh_104 : decode cX6_weigh 104 = .ok (.isub, 1) := by decide +kernel
theorem dX6_weigh_105 : decode cX6_weigh 105 = .ok (.istore 9, 2) := by decide +kernel
theorem dX6_weigh_107 : decode cX6_weigh 107 = .ok (.aload_n 0, 1) := by decide +kernel
theorem dX6_weigh_108 : decode cX6_weigh 108 = .ok (.aload_n 1, 1) := by decide +kernel
theorem dX6_weigh_109 : decode cX6_weigh 109 = .ok (.getfield 24, 3) := by decide +kernel
theorem dX6_weigh_112 : decode cX6_weigh 112 = .ok (.bipush 13, 2) := by decide +kernel
theorem dX6_weigh_114 : decode cX6_weigh 114 = .ok (.iaload, 1) := by decide +kernel
theorem dX6_weigh_115 : decode cX6_weigh 115 = .ok (.iload 8, 2) := by decide +kernel
theorem dX6_weigh_117 : decode cX6_weigh 117 = .ok (.iconst 1, 1) := by decide +kernel
theorem dX6_weigh_118 : decode cX6_weigh 118 = .ok (.isub, 1) := by decide +kernel
theorem dX6_weigh_119 : decode cX6_weigh 119 = .ok (.iload 9, 2) := by decide +kernel
theorem dX6_weigh_121 : decode cX6_weigh 121 = .ok (.iconst 1, 1) := by decide +kernel
theorem dX6_weigh_122 : decode cX6_weigh 122 = .ok (.iadd, 1) := by decide +kernel
theorem dX6_weigh_123 : decode cX6_weigh 123 = .ok (.invokevirtual 29, 3) := by decide +kernel
theorem dX6_weigh_126 : decode cX6_weigh 126 = .ok (.aload_n 0, 1) := by decide +kernel
theorem dX6_weigh_127 : decode cX6_weigh 127 = .ok (.aload_n 1, 1) := by decide +kernel
theorem dX6_weigh_128 : decode cX6_weigh 128 = .ok (.iload 8, 2) := by decide +kernel
theorem dX6_weigh_130 : decode cX6_weigh 130 = .ok (.iload 9, 2) := by decide +kernel
theorem dX6_weigh_132 : decode cX6_weigh 132 = .ok (.iload 5, 2) := by decide +kernel
theorem dX6_weigh_134 : decode cX6_weigh 134 = .ok (.iload 4, 2) := by decide +kernel
theorem dX6_weigh_136 : decode cX6_weigh 136 = .ok (.invokevirtual 33, 3) := by decide +kernel
theorem dX6_weigh_139 : decode cX6_weigh 139 = .ok (.iinc 7 1, 3) := by decide +kernel
theorem dX6_weigh_142 : decode cX6_weigh 142 = .ok (.goto (-54), 3) := by decide +kernel
theorem dX6_weigh_145 : decode cX6_weigh 145 = .ok (.aload_n 0, 1) := by decide +kernel
theorem dX6_weigh_146 : decode cX6_weigh 146 = .ok (.aload_n 0, 1) := by decide +kernel
theorem dX6_weigh_147 : decode cX6_weigh 147 = .ok (.getfield 11, 3) := by decide +kernel
theorem dX6_weigh_150 : decode cX6_weigh 150 = .ok (.iload 4, 2) := by decide +kernel
theorem dX6_weigh_152 : decode cX6_weigh 152 = .ok (.bipush 61, 2) := by decide +kernel
theorem dX6_weigh_154 : decode cX6_weigh 154 = .ok (.imul, 1) := by decide +kernel
theorem dX6_weigh_155 : decode cX6_weigh 155 = .ok (.iconst 2, 1) := by decide +kernel
theorem dX6_weigh_156 : decode cX6_weigh 156 = .ok (.iload_n 2, 1) := by decide +kernel
theorem dX6_weigh_157 : decode cX6_weigh 157 = .ok (.imul, 1) := by decide +kernel
theorem dX6_weigh_158 : decode cX6_weigh 158 = .ok (.iadd, 1) := by decide +kernel
theorem dX6_weigh_159 : decode cX6_weigh 159 = .ok (.iaload, 1) := by decide +kernel
theorem dX6_weigh_160 : decode cX6_weigh 160 = .ok (.putfield 37, 3) := by decide +kernel
theorem dX6_weigh_163 : decode cX6_weigh 163 = .ok (.return_, 1) := by decide +kernel
theorem dX6_theirTurn_0 : decode cX6_theirTurn 0 = .ok (.iconst 0, 1) := by decide +kernel
theorem dX6_theirTurn_1 : decode cX6_theirTurn 1 = .ok (.istore 4, 2) := by decide +kernel
theorem dX6_theirTurn_3 : decode cX6_theirTurn 3 = .ok (.iload 4, 2) := by decide +kernel
theorem dX6_theirTurn_5 : decode cX6_theirTurn 5 = .ok (.iconst 2, 1) := by decide +kernel
theorem dX6_theirTurn_6 : decode cX6_theirTurn 6 = .ok (.if_icmp .gt 68, 3) := by decide +kernel
theorem dX6_theirTurn_9 : decode cX6_theirTurn 9 = .ok (.iload_n 2, 1) := by decide +kernel
theorem dX6_theirTurn_10 : decode cX6_theirTurn 10 = .ok (.istore 5, 2) := by decide +kernel
theorem dX6_theirTurn_12 : decode cX6_theirTurn 12 = .ok (.iload 5, 2) := by decide +kernel
theorem dX6_theirTurn_14 : decode cX6_theirTurn 14 = .ok (.iload_n 3, 1) := by decide +kernel
theorem dX6_theirTurn_15 : decode cX6_theirTurn 15 = .ok (.if_icmp .gt 53, 3) := by decide +kernel
theorem dX6_theirTurn_18 : decode cX6_theirTurn 18 = .ok (.iload 4, 2) := by decide +kernel
theorem dX6_theirTurn_20 : decode cX6_theirTurn 20 = .ok (.bipush 61, 2) := by decide +kernel
theorem dX6_theirTurn_22 : decode cX6_theirTurn 22 = .ok (.imul, 1) := by decide +kernel
theorem dX6_theirTurn_23 : decode cX6_theirTurn 23 = .ok (.iload 5, 2) := by decide +kernel
theorem dX6_theirTurn_25 : decode cX6_theirTurn 25 = .ok (.iadd, 1) := by decide +kernel
theorem dX6_theirTurn_26 : decode cX6_theirTurn 26 = .ok (.istore 6, 2) := by decide +kernel
theorem dX6_theirTurn_28 : decode cX6_theirTurn 28 = .ok (.aload_n 0, 1) := by decide +kernel
theorem dX6_theirTurn_29 : decode cX6_theirTurn 29 = .ok (.getfield 15, 3) := by decide +kernel
theorem dX6_theirTurn_32 : decode cX6_theirTurn 32 = .ok (.iload 6, 2) := by decide +kernel
theorem dX6_theirTurn_34 : decode cX6_theirTurn 34 = .ok (.iload_n 1, 1) := by decide +kernel
theorem dX6_theirTurn_35 : decode cX6_theirTurn 35 = .ok (.aload_n 0, 1) := by decide +kernel
theorem dX6_theirTurn_36 : decode cX6_theirTurn 36 = .ok (.getfield 11, 3) := by decide +kernel
theorem dX6_theirTurn_39 : decode cX6_theirTurn 39 = .ok (.iload 6, 2) := by decide +kernel
theorem dX6_theirTurn_41 : decode cX6_theirTurn 41 = .ok (.iconst 1, 1) := by decide +kernel
theorem dX6_theirTurn_42 : decode cX6_theirTurn 42 = .ok (.isub, 1) := by decide +kernel
theorem dX6_theirTurn_43 : decode cX6_theirTurn 43 = .ok (.iaload, 1) := by decide +kernel
theorem dX6_theirTurn_44 : decode cX6_theirTurn 44 = .ok (.imul, 1) := by decide +kernel
theorem dX6_theirTurn_45 : decode cX6_theirTurn 45 = .ok (.bipush 12, 2) := by decide +kernel
theorem dX6_theirTurn_47 : decode cX6_theirTurn 47 = .ok (.iload_n 1, 1) := by decide +kernel
theorem dX6_theirTurn_48 : decode cX6_theirTurn 48 = .ok (.isub, 1) := by decide +kernel
theorem dX6_theirTurn_49 : decode cX6_theirTurn 49 = .ok (.aload_n 0, 1) := by decide +kernel
theorem dX6_theirTurn_50 : decode cX6_theirTurn 50 = .ok (.getfield 11, 3) := by decide +kernel
theorem dX6_theirTurn_53 : decode cX6_theirTurn 53 = .ok (.iload 6, 2) := by decide +kernel
theorem dX6_theirTurn_55 : decode cX6_theirTurn 55 = .ok (.iaload, 1) := by decide +kernel
theorem dX6_theirTurn_56 : decode cX6_theirTurn 56 = .ok (.imul, 1) := by decide +kernel
theorem dX6_theirTurn_57 : decode cX6_theirTurn 57 = .ok (.iadd, 1) := by decide +kernel
theorem dX6_theirTurn_58 : decode cX6_theirTurn 58 = .ok (.bipush 12, 2) := by decide +kernel
theorem dX6_theirTurn_60 : decode cX6_theirTurn 60 = .ok (.idiv, 1) := by decide +kernel
theorem dX6_theirTurn_61 : decode cX6_theirTurn 61 = .ok (.iastore, 1) := by decide +kernel
theorem dX6_theirTurn_62 : decode cX6_theirTurn 62 = .ok (.iinc 5 1, 3) := by decide +kernel
theorem dX6_theirTurn_65 : decode cX6_theirTurn 65 = .ok (.goto (-53), 3) := by decide +kernel
theorem dX6_theirTurn_68 : decode cX6_theirTurn 68 = .ok (.iinc 4 1, 3) := by decide +kernel
theorem dX6_theirTurn_71 : decode cX6_theirTurn 71 = .ok (.goto (-68), 3) := by decide +kernel
theorem dX6_theirTurn_74 : decode cX6_theirTurn 74 = .ok (.return_, 1) := by decide +kernel
theorem dX6_ourTurn_0 : decode cX6_ourTurn 0 = .ok (.aload_n 1, 1) := by decide +kernel
theorem dX6_ourTurn_1 : decode cX6_ourTurn 1 = .ok (.getfield 24, 3) := by decide +kernel
theorem dX6_ourTurn_4 : decode cX6_ourTurn 4 = .ok (.astore 6, 2) := by decide +kernel
theorem dX6_ourTurn_6 : decode cX6_ourTurn 6 = .ok (.iconst 0, 1) := by decide +kernel
theorem dX6_ourTurn_7 : decode cX6_ourTurn 7 = .ok (.istore 7, 2) := by decide +kernel
theorem dX6_ourTurn_9 : decode cX6_ourTurn 9 = .ok (.iload 7, 2) := by decide +kernel
theorem dX6_ourTurn_11 : decode cX6_ourTurn 11 = .ok (.iconst 2, 1) := by decide +kernel
theorem dX6_ourTurn_12 : decode cX6_ourTurn 12 = .ok (.if_icmp .gt 119, 3) := by decide +kernel
theorem dX6_ourTurn_15 : decode cX6_ourTurn 15 = .ok (.iload_n 2, 1) := by decide +kernel
theorem dX6_ourTurn_16 : decode cX6_ourTurn 16 = .ok (.istore 8, 2) := by decide +kernel
theorem dX6_ourTurn_18 : decode cX6_ourTurn 18 = .ok (.iload 8, 2) := by decide +kernel
theorem dX6_ourTurn_20 : decode cX6_ourTurn 20 = .ok (.iload_n 3, 1) := by decide +kernel
theorem dX6_ourTurn_21 : decode cX6_ourTurn 21 = .ok (.if_icmp .gt 104, 3) := by decide +kernel
theorem dX6_ourTurn_24 : decode cX6_ourTurn 24 = .ok (.aload_n 0, 1) := by decide +kernel
theorem dX6_ourTurn_25 : decode cX6_ourTurn 25 = .ok (.iload 7, 2) := by decide +kernel
theorem dX6_ourTurn_27 : decode cX6_ourTurn 27 = .ok (.iload 8, 2) := by decide +kernel
theorem dX6_ourTurn_29 : decode cX6_ourTurn 29 = .ok (.iload 4, 2) := by decide +kernel
theorem dX6_ourTurn_31 : decode cX6_ourTurn 31 = .ok (.invokevirtual 40, 3) := by decide +kernel
theorem dX6_ourTurn_34 : decode cX6_ourTurn 34 = .ok (.istore 9, 2) := by decide +kernel
theorem dX6_ourTurn_36 : decode cX6_ourTurn 36 = .ok (.aload_n 0, 1) := by decide +kernel
theorem dX6_ourTurn_37 : decode cX6_ourTurn 37 = .ok (.aload 6, 2) := by decide +kernel
theorem dX6_ourTurn_39 : decode cX6_ourTurn 39 = .ok (.bipush 9, 2) := by decide +kernel
theorem dX6_ourTurn_41 : decode cX6_ourTurn 41 = .ok (.iaload, 1) := by decide +kernel
theorem dX6_ourTurn_42 : decode cX6_ourTurn 42 = .ok (.aload 6, 2) := by decide +kernel
theorem dX6_ourTurn_44 : decode cX6_ourTurn 44 = .ok (.bipush 10, 2) := by decide +kernel
theorem dX6_ourTurn_46 : decode cX6_ourTurn 46 = .ok (.iaload, 1) := by decide +kernel
theorem dX6_ourTurn_47 : decode cX6_ourTurn 47 = .ok (.iload 8, 2) := by decide +kernel
theorem dX6_ourTurn_49 : decode cX6_ourTurn 49 = .ok (.iload 9, 2) := by decide +kernel
theorem dX6_ourTurn_51 : decode cX6_ourTurn 51 = .ok (.invokevirtual 44, 3) := by decide +kernel
theorem dX6_ourTurn_54 : decode cX6_ourTurn 54 = .ok (.istore 10, 2) := by decide +kernel
theorem dX6_ourTurn_56 : decode cX6_ourTurn 56 = .ok (.aload_n 0, 1) := by decide +kernel
theorem dX6_ourTurn_57 : decode cX6_ourTurn 57 = .ok (.aload 6, 2) := by decide +kernel
theorem dX6_ourTurn_59 : decode cX6_ourTurn 59 = .ok (.bipush 11, 2) := by decide +kernel
theorem dX6_ourTurn_61 : decode cX6_ourTurn 61 = .ok (.iaload, 1) := by decide +kernel
theorem dX6_ourTurn_62 : decode cX6_ourTurn 62 = .ok (.aload 6, 2) := by decide +kernel
theorem dX6_ourTurn_64 : decode cX6_ourTurn 64 = .ok (.bipush 12, 2) := by decide +kernel
theorem dX6_ourTurn_66 : decode cX6_ourTurn 66 = .ok (.iaload, 1) := by decide +kernel
theorem dX6_ourTurn_67 : decode cX6_ourTurn 67 = .ok (.iload 8, 2) := by decide +kernel
theorem dX6_ourTurn_69 : decode cX6_ourTurn 69 = .ok (.iload 9, 2) := by decide +kernel
theorem dX6_ourTurn_71 : decode cX6_ourTurn 71 = .ok (.invokevirtual 44, 3) := by decide +kernel
theorem dX6_ourTurn_74 : decode cX6_ourTurn 74 = .ok (.istore 11, 2) := by decide +kernel
theorem dX6_ourTurn_76 : decode cX6_ourTurn 76 = .ok (.aload_n 0, 1) := by decide +kernel
theorem dX6_ourTurn_77 : decode cX6_ourTurn 77 = .ok (.getfield 11, 3) := by decide +kernel
theorem dX6_ourTurn_80 : decode cX6_ourTurn 80 = .ok (.iload 7, 2) := by decide +kernel
theorem dX6_ourTurn_82 : decode cX6_ourTurn 82 = .ok (.bipush 61, 2) := by decide +kernel
theorem dX6_ourTurn_84 : decode cX6_ourTurn 84 = .ok (.imul, 1) := by decide +kernel
theorem dX6_ourTurn_85 : decode cX6_ourTurn 85 = .ok (.iload 8, 2) := by decide +kernel
theorem dX6_ourTurn_87 : decode cX6_ourTurn 87 = .ok (.iadd, 1) := by decide +kernel
theorem dX6_ourTurn_88 : decode cX6_ourTurn 88 = .ok (.iload 10, 2) := by decide +kernel
theorem dX6_ourTurn_90 : decode cX6_ourTurn 90 = .ok (.iload 11, 2) := by decide +kernel
theorem dX6_ourTurn_92 : decode cX6_ourTurn 92 = .ok (.invokestatic 48, 3) := by decide +kernel
theorem dX6_ourTurn_95 : decode cX6_ourTurn 95 = .ok (.iastore, 1) := by decide +kernel
theorem dX6_ourTurn_96 : decode cX6_ourTurn 96 = .ok (.iload 7, 2) := by decide +kernel
theorem dX6_ourTurn_98 : decode cX6_ourTurn 98 = .ok (.iload 5, 2) := by decide +kernel
theorem dX6_ourTurn_100 : decode cX6_ourTurn 100 = .ok (.if_icmp .ne 19, 3) := by decide +kernel
theorem dX6_ourTurn_103 : decode cX6_ourTurn 103 = .ok (.aload_n 0, 1) := by decide +kernel
theorem dX6_ourTurn_104 : decode cX6_ourTurn 104 = .ok (.iload 10, 2) := by decide +kernel
theorem dX6_ourTurn_106 : decode cX6_ourTurn 106 = .ok (.iload 11, 2) := by decide +kernel
theorem dX6_ourTurn_108 : decode cX6_ourTurn 108 = .ok (.if_icmp .le 7, 3) := by decide +kernel
theorem dX6_ourTurn_111 : decode cX6_ourTurn 111 = .ok (.iconst 1, 1) := by decide +kernel
theorem dX6_ourTurn_112 : decode cX6_ourTurn 112 = .ok (.goto 4, 3) := by decide +kernel
theorem dX6_ourTurn_115 : decode cX6_ourTurn 115 = .ok (.iconst 0, 1) := by decide +kernel
theorem dX6_ourTurn_116 : decode cX6_ourTurn 116 = .ok (.putfield 20, 3) := by decide +kernel
theorem dX6_ourTurn_119 : decode cX6_ourTurn 119 = .ok (.iinc 8 1, 3) := by decide +kernel
theorem dX6_ourTurn_122 : decode cX6_ourTurn 122 = .ok (.goto (-104), 3) := by decide +kernel
theorem dX6_ourTurn_125 : decode cX6_ourTurn 125 = .ok (.iinc 7 1, 3) := by decide +kernel
theorem dX6_ourTurn_128 : decode cX6_ourTurn 128 = .ok (.goto (-119), 3) := by decide +kernel
theorem dX6_ourTurn_131 : decode cX6_ourTurn 131 = .ok (.return_, 1) := by decide +kernel
theorem dX6_ifEmpty_0 : decode cX6_ifEmpty 0 = .ok (.iload_n 3, 1) := by decide +kernel
theorem dX6_ifEmpty_1 : decode cX6_ifEmpty 1 = .ok (.ifCond .ne 15, 3) := by decide +kernel
theorem dX6_ifEmpty_4 : decode cX6_ifEmpty 4 = .ok (.aload_n 0, 1) := by decide +kernel
