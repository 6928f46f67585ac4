theorem dX12_spared_56 : decode cX12_spared 56 = .ok (.iload_n 3, 1) := by decide +kernel
theorem dX12_spared_57 : decode cX12_spared 57 = .ok (.iaload, 1) := by decide +kernel
theorem dX12_spared_58 : decode cX12_spared 58 = .ok (.ifCond .ne 6, 3) := by decide +kernel
theorem dX12_spared_61 : decode cX12_spared 61 = .ok (.goto 38, 3) := by decide +kernel
theorem dX12_spared_64 : decode cX12_spared 64 = .ok (.aload_n 0, 1) := by decide +kernel
theorem dX12_spared_65 : decode cX12_spared 65 = .ok (.getfield 19, 3) := by decide +kernel
theorem dX12_spared_68 : decode cX12_spared 68 = .ok (.iload_n 3, 1) := by decide +kernel
theorem dX12_spared_69 : decode cX12_spared 69 = .ok (.iconst 0, 1) := by decide +kernel
theorem dX12_spared_70 : decode cX12_spared 70 = .ok (.iastore, 1) := by decide +kernel
theorem dX12_spared_71 : decode cX12_spared 71 = .ok (.aload_n 0, 1) := by decide +kernel
theorem dX12_spared_72 : decode cX12_spared 72 = .ok (.iload_n 1, 1) := by decide +kernel
theorem dX12_spared_73 : decode cX12_spared 73 = .ok (.bipush 60, 2) := by decide +kernel
theorem dX12_spared_75 : decode cX12_spared 75 = .ok (.invokevirtual 319, 3) := by decide +kernel
theorem dX12_spared_78 : decode cX12_spared 78 = .ok (.aload_n 0, 1) := by decide +kernel
theorem dX12_spared_79 : decode cX12_spared 79 = .ok (.getfield 19, 3) := by decide +kernel
theorem dX12_spared_82 : decode cX12_spared 82 = .ok (.iload_n 3, 1) := by decide +kernel
theorem dX12_spared_83 : decode cX12_spared 83 = .ok (.iconst 1, 1) := by decide +kernel
theorem dX12_spared_84 : decode cX12_spared 84 = .ok (.iastore, 1) := by decide +kernel
theorem dX12_spared_85 : decode cX12_spared 85 = .ok (.aload_n 0, 1) := by decide +kernel
theorem dX12_spared_86 : decode cX12_spared 86 = .ok (.getfield 258, 3) := by decide +kernel
theorem dX12_spared_89 : decode cX12_spared 89 = .ok (.iconst 2, 1) := by decide +kernel
theorem dX12_spared_90 : decode cX12_spared 90 = .ok (.if_icmp .eq 9, 3) := by decide +kernel
theorem dX12_spared_93 : decode cX12_spared 93 = .ok (.iload_n 2, 1) := by decide +kernel
theorem dX12_spared_94 : decode cX12_spared 94 = .ok (.iconst 1, 1) := by decide +kernel
theorem dX12_spared_95 : decode cX12_spared 95 = .ok (.iload_n 3, 1) := by decide +kernel
theorem dX12_spared_96 : decode cX12_spared 96 = .ok (.ishl, 1) := by decide +kernel
theorem dX12_spared_97 : decode cX12_spared 97 = .ok (.ior, 1) := by decide +kernel
theorem dX12_spared_98 : decode cX12_spared 98 = .ok (.istore_n 2, 1) := by decide +kernel
theorem dX12_spared_99 : decode cX12_spared 99 = .ok (.iinc 3 1, 3) := by decide +kernel
theorem dX12_spared_102 : decode cX12_spared 102 = .ok (.goto (-58), 3) := by decide +kernel
theorem dX12_spared_105 : decode cX12_spared 105 = .ok (.iload_n 2, 1) := by decide +kernel
theorem dX12_spared_106 : decode cX12_spared 106 = .ok (.ireturn, 1) := by decide +kernel
theorem dX12_stand_0 : decode cX12_stand 0 = .ok (.iload_n 1, 1) := by decide +kernel
theorem dX12_stand_1 : decode cX12_stand 1 = .ok (.invokestatic 143, 3) := by decide +kernel
theorem dX12_stand_4 : decode cX12_stand 4 = .ok (.ifCond .eq 37, 3) := by decide +kernel
theorem dX12_stand_7 : decode cX12_stand 7 = .ok (.aload_n 0, 1) := by decide +kernel
theorem dX12_stand_8 : decode cX12_stand 8 = .ok (.iload_n 2, 1) := by decide +kernel
theorem dX12_stand_9 : decode cX12_stand 9 = .ok (.invokevirtual 162, 3) := by decide +kernel
theorem dX12_stand_12 : decode cX12_stand 12 = .ok (.ifCond .eq 29, 3) := by decide +kernel
theorem dX12_stand_15 : decode cX12_stand 15 = .ok (.aload_n 0, 1) := by decide +kernel
theorem dX12_stand_16 : decode cX12_stand 16 = .ok (.getfield 19, 3) := by decide +kernel
theorem dX12_stand_19 : decode cX12_stand 19 = .ok (.iload_n 2, 1) := by decide +kernel
theorem dX12_stand_20 : decode cX12_stand 20 = .ok (.iaload, 1) := by decide +kernel
theorem dX12_stand_21 : decode cX12_stand 21 = .ok (.ifCond .eq 20, 3) := by decide +kernel
theorem dX12_stand_24 : decode cX12_stand 24 = .ok (.iload_n 3, 1) := by decide +kernel
theorem dX12_stand_25 : decode cX12_stand 25 = .ok (.iconst 0, 1) := by decide +kernel
theorem dX12_stand_26 : decode cX12_stand 26 = .ok (.iconst 1, 1) := by decide +kernel
theorem dX12_stand_27 : decode cX12_stand 27 = .ok (.invokestatic 128, 3) := by decide +kernel
theorem dX12_stand_30 : decode cX12_stand 30 = .ok (.ifCond .eq 11, 3) := by decide +kernel
theorem dX12_stand_33 : decode cX12_stand 33 = .ok (.aload_n 0, 1) := by decide +kernel
theorem dX12_stand_34 : decode cX12_stand 34 = .ok (.iload_n 1, 1) := by decide +kernel
theorem dX12_stand_35 : decode cX12_stand 35 = .ok (.invokevirtual 316, 3) := by decide +kernel
theorem dX12_stand_38 : decode cX12_stand 38 = .ok (.ifCond .ge 7, 3) := by decide +kernel
theorem dX12_stand_41 : decode cX12_stand 41 = .ok (.ldc_w 331, 3) := by decide +kernel
theorem dX12_stand_44 : decode cX12_stand 44 = .ok (.ireturn, 1) := by decide +kernel
theorem dX12_stand_45 : decode cX12_stand 45 = .ok (.aload_n 0, 1) := by decide +kernel
theorem dX12_stand_46 : decode cX12_stand 46 = .ok (.getfield 7, 3) := by decide +kernel
theorem dX12_stand_49 : decode cX12_stand 49 = .ok (.iload_n 2, 1) := by decide +kernel
theorem dX12_stand_50 : decode cX12_stand 50 = .ok (.iaload, 1) := by decide +kernel
theorem dX12_stand_51 : decode cX12_stand 51 = .ok (.istore 4, 2) := by decide +kernel
theorem dX12_stand_53 : decode cX12_stand 53 = .ok (.aload_n 0, 1) := by decide +kernel
theorem dX12_stand_54 : decode cX12_stand 54 = .ok (.getfield 13, 3) := by decide +kernel
theorem dX12_stand_57 : decode cX12_stand 57 = .ok (.iload_n 2, 1) := by decide +kernel
theorem dX12_stand_58 : decode cX12_stand 58 = .ok (.iaload, 1) := by decide +kernel
theorem dX12_stand_59 : decode cX12_stand 59 = .ok (.istore 5, 2) := by decide +kernel
theorem dX12_stand_61 : decode cX12_stand 61 = .ok (.iconst (-1), 1) := by decide +kernel
theorem dX12_stand_62 : decode cX12_stand 62 = .ok (.istore 6, 2) := by decide +kernel
theorem dX12_stand_64 : decode cX12_stand 64 = .ok (.iconst 0, 1) := by decide +kernel
theorem dX12_stand_65 : decode cX12_stand 65 = .ok (.istore 7, 2) := by decide +kernel
theorem dX12_stand_67 : decode cX12_stand 67 = .ok (.bipush 10, 2) := by decide +kernel
theorem dX12_stand_69 : decode cX12_stand 69 = .ok (.istore 8, 2) := by decide +kernel
theorem dX12_stand_71 : decode cX12_stand 71 = .ok (.iload 8, 2) := by decide +kernel
theorem dX12_stand_73 : decode cX12_stand 73 = .ok (.bipush 89, 2) := by decide +kernel
theorem dX12_stand_75 : decode cX12_stand 75 = .ok (.if_icmp .ge 86, 3) := by decide +kernel
theorem dX12_stand_78 : decode cX12_stand 78 = .ok (.iload 8, 2) := by decide +kernel
theorem dX12_stand_80 : decode cX12_stand 80 = .ok (.bipush 10, 2) := by decide +kernel
theorem dX12_stand_82 : decode cX12_stand 82 = .ok (.irem, 1) := by decide +kernel
theorem dX12_stand_83 : decode cX12_stand 83 = .ok (.invokestatic 136, 3) := by decide +kernel
theorem dX12_stand_86 : decode cX12_stand 86 = .ok (.ifCond .ne 6, 3) := by decide +kernel
theorem dX12_stand_89 : decode cX12_stand 89 = .ok (.goto 66, 3) := by decide +kernel
theorem dX12_stand_92 : decode cX12_stand 92 = .ok (.aload_n 0, 1) := by decide +kernel
theorem dX12_stand_93 : decode cX12_stand 93 = .ok (.getfield 7, 3) := by decide +kernel
theorem dX12_stand_96 : decode cX12_stand 96 = .ok (.iload_n 2, 1) := by decide +kernel
theorem dX12_stand_97 : decode cX12_stand 97 = .ok (.iload 8, 2) := by decide +kernel
theorem dX12_stand_99 : decode cX12_stand 99 = .ok (.bipush 10, 2) := by decide +kernel
theorem dX12_stand_101 : decode cX12_stand 101 = .ok (.irem, 1) := by decide +kernel
theorem dX12_stand_102 : decode cX12_stand 102 = .ok (.iastore, 1) := by decide +kernel
theorem dX12_stand_103 : decode cX12_stand 103 = .ok (.aload_n 0, 1) := by decide +kernel
theorem dX12_stand_104 : decode cX12_stand 104 = .ok (.getfield 13, 3) := by decide +kernel
theorem dX12_stand_107 : decode cX12_stand 107 = .ok (.iload_n 2, 1) := by decide +kernel
theorem dX12_stand_108 : decode cX12_stand 108 = .ok (.iload 8, 2) := by decide +kernel
theorem dX12_stand_110 : decode cX12_stand 110 = .ok (.bipush 10, 2) := by decide +kernel
theorem dX12_stand_112 : decode cX12_stand 112 = .ok (.idiv, 1) := by decide +kernel
theorem dX12_stand_113 : decode cX12_stand 113 = .ok (.iastore, 1) := by decide +kernel
theorem dX12_stand_114 : decode cX12_stand 114 = .ok (.aload_n 0, 1) := by decide +kernel
theorem dX12_stand_115 : decode cX12_stand 115 = .ok (.iload_n 1, 1) := by decide +kernel
theorem dX12_stand_116 : decode cX12_stand 116 = .ok (.bipush 60, 2) := by decide +kernel
theorem dX12_stand_118 : decode cX12_stand 118 = .ok (.invokevirtual 319, 3) := by decide +kernel
theorem dX12_stand_121 : decode cX12_stand 121 = .ok (.aload_n 0, 1) := by decide +kernel
theorem dX12_stand_122 : decode cX12_stand 122 = .ok (.invokevirtual 322, 3) := by decide +kernel
theorem dX12_stand_125 : decode cX12_stand 125 = .ok (.aload_n 0, 1) := by decide +kernel
theorem dX12_stand_126 : decode cX12_stand 126 = .ok (.invokevirtual 325, 3) := by decide +kernel
theorem dX12_stand_129 : decode cX12_stand 129 = .ok (.isub, 1) := by decide +kernel
theorem dX12_stand_130 : decode cX12_stand 130 = .ok (.istore 9, 2) := by decide +kernel
theorem dX12_stand_132 : decode cX12_stand 132 = .ok (.iload 6, 2) := by decide +kernel
theorem dX12_stand_134 : decode cX12_stand 134 = .ok (.ifCond .lt 13, 3) := by decide +kernel
theorem dX12_stand_137 : decode cX12_stand 137 = .ok (.iload 9, 2) := by decide +kernel
theorem dX12_stand_139 : decode cX12_stand 139 = .ok (.iload 7, 2) := by decide +kernel
theorem dX12_stand_141 : decode cX12_stand 141 = .ok (.if_icmp .lt 6, 3) := by decide +kernel
theorem dX12_stand_144 : decode cX12_stand 144 = .ok (.goto 11, 3) := by decide +kernel
theorem dX12_stand_147 : decode cX12_stand 147 = .ok (.iload 8, 2) := by decide +kernel
theorem dX12_stand_149 : decode cX12_stand 149 = .ok (.istore 6, 2) := by decide +kernel
theorem dX12_stand_151 : decode cX12_stand 151 = .ok (.iload 9, 2) := by decide +kernel
theorem dX12_stand_153 : decode cX12_stand 153 = .ok (.istore 7, 2) := by decide +kernel
theorem dX12_stand_155 : decode cX12_stand 155 = .ok (.iinc 8 1, 3) := by decide +kernel
theorem dX12_stand_158 : decode cX12_stand 158 = .ok (.goto (-87), 3) := by decide +kernel
theorem dX12_stand_161 : decode cX12_stand 161 = .ok (.aload_n 0, 1) := by decide +kernel
theorem dX12_stand_162 : decode cX12_stand 162 = .ok (.getfield 7, 3) := by decide +kernel
theorem dX12_stand_165 : decode cX12_stand 165 = .ok (.iload_n 2, 1) := by decide +kernel
theorem dX12_stand_166 : decode cX12_stand 166 = .ok (.iload 4, 2) := by decide +kernel
theorem dX12_stand_168 : decode cX12_stand 168 = .ok (.iastore, 1) := by decide +kernel
theorem dX12_stand_169 : decode cX12_stand 169 = .ok (.aload_n 0, 1) := by decide +kernel
theorem dX12_stand_170 : decode cX12_stand 170 = .ok (.getfield 13, 3) := by decide +kernel
theorem dX12_stand_173 : decode cX12_stand 173 = .ok (.iload_n 2, 1) := by decide +kernel
theorem dX12_stand_174 : decode cX12_stand 174 = .ok (.iload 5, 2) := by decide +kernel
theorem dX12_stand_176 : decode cX12_stand 176 = .ok (.iastore, 1) := by decide +kernel
theorem dX12_stand_177 : decode cX12_stand 177 = .ok (.iload_n 3, 1) := by decide +kernel
theorem dX12_stand_178 : decode cX12_stand 178 = .ok (.ifCond .ne 8, 3) := by decide +kernel
theorem dX12_stand_181 : decode cX12_stand 181 = .ok (.iload 6, 2) := by decide +kernel
theorem dX12_stand_183 : decode cX12_stand 183 = .ok (.goto 5, 3) := by decide +kernel
theorem dX12_stand_186 : decode cX12_stand 186 = .ok (.iload 7, 2) := by decide +kernel
theorem dX12_stand_188 : decode cX12_stand 188 = .ok (.ireturn, 1) := by decide +kernel
theorem dX12_mightHe_0 : decode cX12_mightHe 0 = .ok (.iload_n 1, 1) := by decide +kernel
theorem dX12_mightHe_1 : decode cX12_mightHe 1 = .ok (.invokestatic 143, 3) := by decide +kernel
theorem dX12_mightHe_4 : decode cX12_mightHe 4 = .ok (.ifCond .ne 5, 3) := by decide +kernel
theorem dX12_mightHe_7 : decode cX12_mightHe 7 = .ok (.iconst (-1), 1) := by decide +kernel
theorem dX12_mightHe_8 : decode cX12_mightHe 8 = .ok (.ireturn, 1) := by decide +kernel
theorem dX12_mightHe_9 : decode cX12_mightHe 9 = .ok (.aload_n 0, 1) := by decide +kernel
theorem dX12_mightHe_10 : decode cX12_mightHe 10 = .ok (.iload_n 1, 1) := by decide +kernel
theorem dX12_mightHe_11 : decode cX12_mightHe 11 = .ok (.invokevirtual 316, 3) := by decide +kernel
theorem dX12_mightHe_14 : decode cX12_mightHe 14 = .ok (.ifCond .ge 9, 3) := by decide +kernel
theorem dX12_mightHe_17 : decode cX12_mightHe 17 = .ok (.aload_n 0, 1) := by decide +kernel
theorem dX12_mightHe_18 : decode cX12_mightHe 18 = .ok (.iload_n 1, 1) := by decide +kernel
theorem dX12_mightHe_19 : decode cX12_mightHe 19 = .ok (.invokevirtual 316, 3) := by decide +kernel
theorem dX12_mightHe_22 : decode cX12_mightHe 22 = .ok (.ireturn, 1) := by decide +kernel
theorem dX12_mightHe_23 : decode cX12_mightHe 23 = .ok (.aload_n 0, 1) := by decide +kernel
theorem dX12_mightHe_24 : decode cX12_mightHe 24 = .ok (.getfield 22, 3) := by decide +kernel
theorem dX12_mightHe_27 : decode cX12_mightHe 27 = .ok (.iconst 2, 1) := by decide +kernel
theorem dX12_mightHe_28 : decode cX12_mightHe 28 = .ok (.iaload, 1) := by decide +kernel
theorem dX12_mightHe_29 : decode cX12_mightHe 29 = .ok (.istore_n 2, 1) := by decide +kernel
theorem dX12_mightHe_30 : decode cX12_mightHe 30 = .ok (.bipush (-2), 2) := by decide +kernel
theorem dX12_mightHe_32 : decode cX12_mightHe 32 = .ok (.istore_n 3, 1) := by decide +kernel
theorem dX12_mightHe_33 : decode cX12_mightHe 33 = .ok (.iconst 0, 1) := by decide +kernel
theorem dX12_mightHe_34 : decode cX12_mightHe 34 = .ok (.istore 4, 2) := by decide +kernel
theorem dX12_mightHe_36 : decode cX12_mightHe 36 = .ok (.iload 4, 2) := by decide +kernel
theorem dX12_mightHe_38 : decode cX12_mightHe 38 = .ok (.bipush 40, 2) := by decide +kernel
theorem dX12_mightHe_40 : decode cX12_mightHe 40 = .ok (.if_icmp .gt 39, 3) := by decide +kernel
theorem dX12_mightHe_43 : decode cX12_mightHe 43 = .ok (.iload_n 3, 1) := by decide +kernel
theorem dX12_mightHe_44 : decode cX12_mightHe 44 = .ok (.ifCond .ge 35, 3) := by decide +kernel
theorem dX12_mightHe_47 : decode cX12_mightHe 47 = .ok (.aload_n 0, 1) := by decide +kernel
theorem dX12_mightHe_48 : decode cX12_mightHe 48 = .ok (.getfield 22, 3) := by decide +kernel
theorem dX12_mightHe_51 : decode cX12_mightHe 51 = .ok (.iconst 2, 1) := by decide +kernel
theorem dX12_mightHe_52 : decode cX12_mightHe 52 = .ok (.iload 4, 2) := by decide +kernel
theorem dX12_mightHe_54 : decode cX12_mightHe 54 = .ok (.iastore, 1) := by decide +kernel
theorem dX12_mightHe_55 : decode cX12_mightHe 55 = .ok (.aload_n 0, 1) := by decide +kernel
theorem dX12_mightHe_56 : decode cX12_mightHe 56 = .ok (.iload_n 1, 1) := by decide +kernel
theorem dX12_mightHe_57 : decode cX12_mightHe 57 = .ok (.bipush 60, 2) := by decide +kernel
theorem dX12_mightHe_59 : decode cX12_mightHe 59 = .ok (.invokevirtual 319, 3) := by decide +kernel
theorem dX12_mightHe_62 : decode cX12_mightHe 62 = .ok (.aload_n 0, 1) := by decide +kernel
theorem dX12_mightHe_63 : decode cX12_mightHe 63 = .ok (.getfield 258, 3) := by decide +kernel
theorem dX12_mightHe_66 : decode cX12_mightHe 66 = .ok (.iconst 2, 1) := by decide +kernel
theorem dX12_mightHe_67 : decode cX12_mightHe 67 = .ok (.if_icmp .eq 6, 3) := by decide +kernel
theorem dX12_mightHe_70 : decode cX12_mightHe 70 = .ok (.iload 4, 2) := by decide +kernel
theorem dX12_mightHe_72 : decode cX12_mightHe 72 = .ok (.istore_n 3, 1) := by decide +kernel
theorem dX12_mightHe_73 : decode cX12_mightHe 73 = .ok (.iinc 4 1, 3) := by decide +kernel
theorem dX12_mightHe_76 : decode cX12_mightHe 76 = .ok (.goto (-40), 3) := by decide +kernel
theorem dX12_mightHe_79 : decode cX12_mightHe 79 = .ok (.aload_n 0, 1) := by decide +kernel
theorem dX12_mightHe_80 : decode cX12_mightHe 80 = .ok (.getfield 22, 3) := by decide +kernel
theorem dX12_mightHe_83 : decode cX12_mightHe 83 = .ok (.iconst 2, 1) := by decide +kernel
theorem dX12_mightHe_84 : decode cX12_mightHe 84 = .ok (.iload_n 2, 1) := by decide +kernel
theorem dX12_mightHe_85 : decode cX12_mightHe 85 = .ok (.iastore, 1) := by decide +kernel
theorem dX12_mightHe_86 : decode cX12_mightHe 86 = .ok (.iload_n 3, 1) := by decide +kernel
theorem dX12_mightHe_87 : decode cX12_mightHe 87 = .ok (.ireturn, 1) := by decide +kernel
theorem dX12_areNear_0 : decode cX12_areNear 0 = .ok (.aload_n 0, 1) := by decide +kernel
theorem dX12_areNear_1 : decode cX12_areNear 1 = .ok (.getfield 7, 3) := by decide +kernel
theorem dX12_areNear_4 : decode cX12_areNear 4 = .ok (.iload_n 1, 1) := by decide +kernel
theorem dX12_areNear_5 : decode cX12_areNear 5 = .ok (.iaload, 1) := by decide +kernel
theorem dX12_areNear_6 : decode cX12_areNear 6 = .ok (.aload_n 0, 1) := by decide +kernel
theorem dX12_areNear_7 : decode cX12_areNear 7 = .ok (.getfield 7, 3) := by decide +kernel
theorem dX12_areNear_10 : decode cX12_areNear 10 = .ok (.iload_n 2, 1) := by decide +kernel
theorem dX12_areNear_11 : decode cX12_areNear 11 = .ok (.iaload, 1) := by decide +kernel
theorem dX12_areNear_12 : decode cX12_areNear 12 = .ok (.invokestatic 270, 3) := by decide +kernel
theorem dX12_areNear_15 : decode cX12_areNear 15 = .ok (.aload_n 0, 1) := by decide +kernel
theorem dX12_areNear_16 : decode cX12_areNear 16 = .ok (.getfield 13, 3) := by decide +kernel
theorem dX12_areNear_19 : decode cX12_areNear 19 = .ok (.iload_n 1, 1) := by decide +kernel
theorem dX12_areNear_20 : decode cX12_areNear 20 = .ok (.iaload, 1) := by decide +kernel
theorem dX12_areNear_21 : decode cX12_areNear 21 = .ok (.aload_n 0, 1) := by decide +kernel
theorem dX12_areNear_22 : decode cX12_areNear 22 = .ok (.getfield 13, 3) := by decide +kernel
theorem dX12_areNear_25 : decode cX12_areNear 25 = .ok (.iload_n 2, 1) := by decide +kernel
theorem dX12_areNear_26 : decode cX12_areNear 26 = .ok (.iaload, 1) := by decide +kernel
theorem dX12_areNear_27 : decode cX12_areNear 27 = .ok (.invokestatic 270, 3) := by decide +kernel
theorem dX12_areNear_30 : decode cX12_areNear 30 = .ok (.iadd, 1) := by decide +kernel
theorem dX12_areNear_31 : decode cX12_areNear 31 = .ok (.iconst 1, 1) := by decide +kernel
theorem dX12_areNear_32 : decode cX12_areNear 32 = .ok (.if_icmp .gt 7, 3) := by decide +kernel
theorem dX12_areNear_35 : decode cX12_areNear 35 = .ok (.iconst 1, 1) := by decide +kernel
theorem dX12_areNear_36 : decode cX12_areNear 36 = .ok (.goto 4, 3) := by decide +kernel
theorem dX12_areNear_39 : decode cX12_areNear 39 = .ok (.iconst 0, 1) := by decide +kernel
theorem dX12_areNear_40 : decode cX12_areNear 40 = .ok (.ireturn, 1) := by decide +kernel
theorem dX12_nearTo_0 : decode cX12_nearTo 0 = .ok (.iload_n 1, 1) := by decide +kernel
theorem dX12_nearTo_1 : decode cX12_nearTo 1 = .ok (.istore_n 2, 1) := by decide +kernel
theorem dX12_nearTo_2 : decode cX12_nearTo 2 = .ok (.iconst 0, 1) := by decide +kernel
theorem dX12_nearTo_3 : decode cX12_nearTo 3 = .ok (.istore_n 3, 1) := by decide +kernel
theorem dX12_nearTo_4 : decode cX12_nearTo 4 = .ok (.iload_n 3, 1) := by decide +kernel
theorem dX12_nearTo_5 : decode cX12_nearTo 5 = .ok (.aload_n 0, 1) := by decide +kernel
theorem dX12_nearTo_6 : decode cX12_nearTo 6 = .ok (.getfield 125, 3) := by decide +kernel
theorem dX12_nearTo_9 : decode cX12_nearTo 9 = .ok (.if_icmp .ge 64, 3) := by decide +kernel
theorem dX12_nearTo_12 : decode cX12_nearTo 12 = .ok (.iconst 0, 1) := by decide +kernel
theorem dX12_nearTo_13 : decode cX12_nearTo 13 = .ok (.istore 4, 2) := by decide +kernel
theorem dX12_nearTo_15 : decode cX12_nearTo 15 = .ok (.iload 4, 2) := by decide +kernel
theorem dX12_nearTo_17 : decode cX12_nearTo 17 = .ok (.aload_n 0, 1) := by decide +kernel
theorem dX12_nearTo_18 : decode cX12_nearTo 18 = .ok (.getfield 125, 3) := by decide +kernel
theorem dX12_nearTo_21 : decode cX12_nearTo 21 = .ok (.if_icmp .ge 46, 3) := by decide +kernel
theorem dX12_nearTo_24 : decode cX12_nearTo 24 = .ok (.iload_n 1, 1) := by decide +kernel
theorem dX12_nearTo_25 : decode cX12_nearTo 25 = .ok (.iload_n 3, 1) := by decide +kernel
theorem dX12_nearTo_26 : decode cX12_nearTo 26 = .ok (.ishr, 1) := by decide +kernel
theorem dX12_nearTo_27 : decode cX12_nearTo 27 = .ok (.iconst 1, 1) := by decide +kernel
theorem dX12_nearTo_28 : decode cX12_nearTo 28 = .ok (.iand, 1) := by decide +kernel
theorem dX12_nearTo_29 : decode cX12_nearTo 29 = .ok (.iconst 1, 1) := by decide +kernel
theorem dX12_nearTo_30 : decode cX12_nearTo 30 = .ok (.if_icmp .ne 31, 3) := by decide +kernel
theorem dX12_nearTo_33 : decode cX12_nearTo 33 = .ok (.aload_n 0, 1) := by decide +kernel
theorem dX12_nearTo_34 : decode cX12_nearTo 34 = .ok (.getfield 19, 3) := by decide +kernel
theorem dX12_nearTo_37 : decode cX12_nearTo 37 = .ok (.iload 4, 2) := by decide +kernel
theorem dX12_nearTo_39 : decode cX12_nearTo 39 = .ok (.iaload, 1) := by decide +kernel
theorem dX12_nearTo_40 : decode cX12_nearTo 40 = .ok (.iconst 1, 1) := by decide +kernel
theorem dX12_nearTo_41 : decode cX12_nearTo 41 = .ok (.if_icmp .ne 20, 3) := by decide +kernel
theorem dX12_nearTo_44 : decode cX12_nearTo 44 = .ok (.aload_n 0, 1) := by decide +kernel
theorem dX12_nearTo_45 : decode cX12_nearTo 45 = .ok (.iload_n 3, 1) := by decide +kernel
theorem dX12_nearTo_46 : decode cX12_nearTo 46 = .ok (.iload 4, 2) := by decide +kernel
theorem dX12_nearTo_48 : decode cX12_nearTo 48 = .ok (.invokevirtual 353, 3) := by decide +kernel
theorem dX12_nearTo_51 : decode cX12_nearTo 51 = .ok (.ifCond .eq 10, 3) := by decide +kernel
theorem dX12_nearTo_54 : decode cX12_nearTo 54 = .ok (.iload_n 2, 1) := by decide +kernel
theorem dX12_nearTo_55 : decode cX12_nearTo 55 = .ok (.iconst 1, 1) := by decide +kernel
theorem dX12_nearTo_56 : decode cX12_nearTo 56 = .ok (.iload 4, 2) := by decide +kernel
theorem dX12_nearTo_58 : decode cX12_nearTo 58 = .ok (.ishl, 1) := by decide +kernel
theorem dX12_nearTo_59 : decode cX12_nearTo 59 = .ok (.ior, 1) := by decide +kernel
theorem dX12_nearTo_60 : decode cX12_nearTo 60 = .ok (.istore_n 2, 1) := by decide +kernel
theorem dX12_nearTo_61 : decode cX12_nearTo 61 = .ok (.iinc 4 1, 3) := by decide +kernel
theorem dX12_nearTo_64 : decode cX12_nearTo 64 = .ok (.goto (-49), 3) := by decide +kernel
theorem dX12_nearTo_67 : decode cX12_nearTo 67 = .ok (.iinc 3 1, 3) := by decide +kernel
theorem dX12_nearTo_70 : decode cX12_nearTo 70 = .ok (.goto (-66), 3) := by decide +kernel
theorem dX12_nearTo_73 : decode cX12_nearTo 73 = .ok (.iload_n 2, 1) := by decide +kernel
theorem dX12_nearTo_74 : decode cX12_nearTo 74 = .ok (.ireturn, 1) := by decide +kernel
theorem dX12_chainOf_0 : decode cX12_chainOf 0 = .ok (.iconst 0, 1) := by decide +kernel
theorem dX12_chainOf_1 : decode cX12_chainOf 1 = .ok (.istore_n 2, 1) := by decide +kernel
theorem dX12_chainOf_2 : decode cX12_chainOf 2 = .ok (.iconst 1, 1) := by decide +kernel
theorem dX12_chainOf_3 : decode cX12_chainOf 3 = .ok (.iload_n 1, 1) := by decide +kernel
theorem dX12_chainOf_4 : decode cX12_chainOf 4 = .ok (.ishl, 1) := by decide +kernel
theorem dX12_chainOf_5 : decode cX12_chainOf 5 = .ok (.istore_n 3, 1) := by decide +kernel
theorem dX12_chainOf_6 : decode cX12_chainOf 6 = .ok (.iload_n 3, 1) := by decide +kernel
theorem dX12_chainOf_7 : decode cX12_chainOf 7 = .ok (.iload_n 2, 1) := by decide +kernel
theorem dX12_chainOf_8 : decode cX12_chainOf 8 = .ok (.if_icmp .eq 14, 3) := by decide +kernel
theorem dX12_chainOf_11 : decode cX12_chainOf 11 = .ok (.iload_n 3, 1) := by decide +kernel
theorem dX12_chainOf_12 : decode cX12_chainOf 12 = .ok (.istore_n 2, 1) := by decide +kernel
theorem dX12_chainOf_13 : decode cX12_chainOf 13 = .ok (.aload_n 0, 1) := by decide +kernel
theorem dX12_chainOf_14 : decode cX12_chainOf 14 = .ok (.iload_n 2, 1) := by decide +kernel
theorem dX12_chainOf_15 : decode cX12_chainOf 15 = .ok (.invokevirtual 356, 3) := by decide +kernel
theorem dX12_chainOf_18 : decode cX12_chainOf 18 = .ok (.istore_n 3, 1) := by decide +kernel
theorem dX12_chainOf_19 : decode cX12_chainOf 19 = .ok (.goto (-13), 3) := by decide +kernel
theorem dX12_chainOf_22 : decode cX12_chainOf 22 = .ok (.iload_n 2, 1) := by decide +kernel
theorem dX12_chainOf_23 : decode cX12_chainOf 23 = .ok (.invokestatic 279, 3) := by decide +kernel
theorem dX12_chainOf_26 : decode cX12_chainOf 26 = .ok (.ireturn, 1) := by decide +kernel
theorem dX12_line_0 : decode cX12_line 0 = .ok (.iload_n 1, 1) := by decide +kernel
theorem dX12_line_1 : decode cX12_line 1 = .ok (.iconst 0, 1) := by decide +kernel
theorem dX12_line_2 : decode cX12_line 2 = .ok (.iconst 2, 1) := by decide +kernel
theorem dX12_line_3 : decode cX12_line 3 = .ok (.invokestatic 128, 3) := by decide +kernel
theorem dX12_line_6 : decode cX12_line 6 = .ok (.ifCond .ne 5, 3) := by decide +kernel
theorem dX12_line_9 : decode cX12_line 9 = .ok (.iconst (-1), 1) := by decide +kernel
theorem dX12_line_10 : decode cX12_line 10 = .ok (.ireturn, 1) := by decide +kernel
theorem dX12_line_11 : decode cX12_line 11 = .ok (.iconst 0, 1) := by decide +kernel
theorem dX12_line_12 : decode cX12_line 12 = .ok (.istore_n 2, 1) := by decide +kernel
theorem dX12_line_13 : decode cX12_line 13 = .ok (.iconst 0, 1) := by decide +kernel
theorem dX12_line_14 : decode cX12_line 14 = .ok (.istore_n 3, 1) := by decide +kernel
theorem dX12_line_15 : decode cX12_line 15 = .ok (.iconst 0, 1) := by decide +kernel
theorem dX12_line_16 : decode cX12_line 16 = .ok (.istore 4, 2) := by decide +kernel
theorem dX12_line_18 : decode cX12_line 18 = .ok (.iload 4, 2) := by decide +kernel
theorem dX12_line_20 : decode cX12_line 20 = .ok (.aload_n 0, 1) := by decide +kernel
theorem dX12_line_21 : decode cX12_line 21 = .ok (.getfield 125, 3) := by decide +kernel
theorem dX12_line_24 : decode cX12_line 24 = .ok (.if_icmp .ge 81, 3) := by decide +kernel
theorem dX12_line_27 : decode cX12_line 27 = .ok (.aload_n 0, 1) := by decide +kernel
theorem dX12_line_28 : decode cX12_line 28 = .ok (.getfield 19, 3) := by decide +kernel
theorem dX12_line_31 : decode cX12_line 31 = .ok (.iload 4, 2) := by decide +kernel
theorem dX12_line_33 : decode cX12_line 33 = .ok (.iaload, 1) := by decide +kernel
theorem dX12_line_34 : decode cX12_line 34 = .ok (.ifCond .ne 6, 3) := by decide +kernel
theorem dX12_line_37 : decode cX12_line 37 = .ok (.goto 62, 3) := by decide +kernel
theorem dX12_line_40 : decode cX12_line 40 = .ok (.aload_n 0, 1) := by decide +kernel
theorem dX12_line_41 : decode cX12_line 41 = .ok (.iload 4, 2) := by decide +kernel
theorem dX12_line_43 : decode cX12_line 43 = .ok (.invokevirtual 359, 3) := by decide +kernel
theorem dX12_line_46 : decode cX12_line 46 = .ok (.istore 5, 2) := by decide +kernel
theorem dX12_line_48 : decode cX12_line 48 = .ok (.iload 5, 2) := by decide +kernel
theorem dX12_line_50 : decode cX12_line 50 = .ok (.iload_n 3, 1) := by decide +kernel
theorem dX12_line_51 : decode cX12_line 51 = .ok (.if_icmp .le 6, 3) := by decide +kernel
theorem dX12_line_54 : decode cX12_line 54 = .ok (.iload 5, 2) := by decide +kernel
theorem dX12_line_56 : decode cX12_line 56 = .ok (.istore_n 3, 1) := by decide +kernel
theorem dX12_line_57 : decode cX12_line 57 = .ok (.iload_n 1, 1) := by decide +kernel
theorem dX12_line_58 : decode cX12_line 58 = .ok (.ifCond .ne 28, 3) := by decide +kernel
theorem dX12_line_61 : decode cX12_line 61 = .ok (.aload_n 0, 1) := by decide +kernel
theorem dX12_line_62 : decode cX12_line 62 = .ok (.getfield 7, 3) := by decide +kernel
theorem dX12_line_65 : decode cX12_line 65 = .ok (.iload 4, 2) := by decide +kernel
theorem dX12_line_67 : decode cX12_line 67 = .ok (.iaload, 1) := by decide +kernel
theorem dX12_line_68 : decode cX12_line 68 = .ok (.ifCond .eq 24, 3) := by decide +kernel
theorem dX12_line_71 : decode cX12_line 71 = .ok (.aload_n 0, 1) := by decide +kernel
theorem dX12_line_72 : decode cX12_line 72 = .ok (.getfield 7, 3) := by decide +kernel
theorem dX12_line_75 : decode cX12_line 75 = .ok (.iload 4, 2) := by decide +kernel
theorem dX12_line_77 : decode cX12_line 77 = .ok (.iaload, 1) := by decide +kernel
theorem dX12_line_78 : decode cX12_line 78 = .ok (.bipush 8, 2) := by decide +kernel
theorem dX12_line_80 : decode cX12_line 80 = .ok (.if_icmp .ne 19, 3) := by decide +kernel
theorem dX12_line_83 : decode cX12_line 83 = .ok (.goto 9, 3) := by decide +kernel
theorem dX12_line_86 : decode cX12_line 86 = .ok (.iload 5, 2) := by decide +kernel
theorem dX12_line_88 : decode cX12_line 88 = .ok (.iconst 1, 1) := by decide +kernel
theorem dX12_line_89 : decode cX12_line 89 = .ok (.if_icmp .ne 10, 3) := by decide +kernel
theorem dX12_line_92 : decode cX12_line 92 = .ok (.iload_n 2, 1) := by decide +kernel
theorem dX12_line_93 : decode cX12_line 93 = .ok (.iconst 1, 1) := by decide +kernel
theorem dX12_line_94 : decode cX12_line 94 = .ok (.iload 4, 2) := by decide +kernel
theorem dX12_line_96 : decode cX12_line 96 = .ok (.ishl, 1) := by decide +kernel
theorem dX12_line_97 : decode cX12_line 97 = .ok (.ior, 1) := by decide +kernel
theorem dX12_line_98 : decode cX12_line 98 = .ok (.istore_n 2, 1) := by decide +kernel
theorem dX12_line_99 : decode cX12_line 99 = .ok (.iinc 4 1, 3) := by decide +kernel
theorem dX12_line_102 : decode cX12_line 102 = .ok (.goto (-84), 3) := by decide +kernel
theorem dX12_line_105 : decode cX12_line 105 = .ok (.iload_n 1, 1) := by decide +kernel
theorem dX12_line_106 : decode cX12_line 106 = .ok (.iconst 2, 1) := by decide +kernel
theorem dX12_line_107 : decode cX12_line 107 = .ok (.if_icmp .ne 7, 3) := by decide +kernel
theorem dX12_line_110 : decode cX12_line 110 = .ok (.iload_n 3, 1) := by decide +kernel
theorem dX12_line_111 : decode cX12_line 111 = .ok (.goto 4, 3) := by decide +kernel
theorem dX12_line_114 : decode cX12_line 114 = .ok (.iload_n 2, 1) := by decide +kernel
theorem dX12_line_115 : decode cX12_line 115 = .ok (.ireturn, 1) := by decide +kernel
theorem dX12_thenAt_0 : decode cX12_thenAt 0 = .ok (.aload_n 0, 1) := by decide +kernel
theorem dX12_thenAt_1 : decode cX12_thenAt 1 = .ok (.getfield 78, 3) := by decide +kernel
theorem dX12_thenAt_4 : decode cX12_thenAt 4 = .ok (.sipush 143, 3) := by decide +kernel
theorem dX12_thenAt_7 : decode cX12_thenAt 7 = .ok (.iload_n 2, 1) := by decide +kernel
theorem dX12_thenAt_8 : decode cX12_thenAt 8 = .ok (.imul, 1) := by decide +kernel
theorem dX12_thenAt_9 : decode cX12_thenAt 9 = .ok (.iload_n 1, 1) := by decide +kernel
theorem dX12_thenAt_10 : decode cX12_thenAt 10 = .ok (.iadd, 1) := by decide +kernel
theorem dX12_thenAt_11 : decode cX12_thenAt 11 = .ok (.bipush 71, 2) := by decide +kernel
theorem dX12_thenAt_13 : decode cX12_thenAt 13 = .ok (.iadd, 1) := by decide +kernel
theorem dX12_thenAt_14 : decode cX12_thenAt 14 = .ok (.iaload, 1) := by decide +kernel
theorem dX12_thenAt_15 : decode cX12_thenAt 15 = .ok (.ireturn, 1) := by decide +kernel
theorem dX12_wayOf_0 : decode cX12_wayOf 0 = .ok (.iload_n 2, 1) := by decide +kernel
theorem dX12_wayOf_1 : decode cX12_wayOf 1 = .ok (.bipush 12, 2) := by decide +kernel
theorem dX12_wayOf_3 : decode cX12_wayOf 3 = .ok (.iload_n 1, 1) := by decide +kernel
theorem dX12_wayOf_4 : decode cX12_wayOf 4 = .ok (.isub, 1) := by decide +kernel
theorem dX12_wayOf_5 : decode cX12_wayOf 5 = .ok (.if_icmp .ge 7, 3) := by decide +kernel
theorem dX12_wayOf_8 : decode cX12_wayOf 8 = .ok (.iload_n 2, 1) := by decide +kernel
theorem dX12_wayOf_9 : decode cX12_wayOf 9 = .ok (.goto 7, 3) := by decide +kernel
theorem dX12_wayOf_12 : decode cX12_wayOf 12 = .ok (.bipush 12, 2) := by decide +kernel
theorem dX12_wayOf_14 : decode cX12_wayOf 14 = .ok (.iload_n 1, 1) := by decide +kernel
theorem dX12_wayOf_15 : decode cX12_wayOf 15 = .ok (.isub, 1) := by decide +kernel
theorem dX12_wayOf_16 : decode cX12_wayOf 16 = .ok (.istore 6, 2) := by decide +kernel
theorem dX12_wayOf_18 : decode cX12_wayOf 18 = .ok (.iload 5, 2) := by decide +kernel
theorem dX12_wayOf_20 : decode cX12_wayOf 20 = .ok (.ifCond .ne 12, 3) := by decide +kernel
theorem dX12_wayOf_23 : decode cX12_wayOf 23 = .ok (.aload_n 0, 1) := by decide +kernel
theorem dX12_wayOf_24 : decode cX12_wayOf 24 = .ok (.iload_n 3, 1) := by decide +kernel
theorem dX12_wayOf_25 : decode cX12_wayOf 25 = .ok (.iconst 0, 1) := by decide +kernel
theorem dX12_wayOf_26 : decode cX12_wayOf 26 = .ok (.invokevirtual 362, 3) := by decide +kernel
theorem dX12_wayOf_29 : decode cX12_wayOf 29 = .ok (.goto 29, 3) := by decide +kernel
theorem dX12_wayOf_32 : decode cX12_wayOf 32 = .ok (.iload 4, 2) := by decide +kernel
theorem dX12_wayOf_34 : decode cX12_wayOf 34 = .ok (.iconst 2, 1) := by decide +kernel
theorem dX12_wayOf_35 : decode cX12_wayOf 35 = .ok (.if_icmp .ne 14, 3) := by decide +kernel
theorem dX12_wayOf_38 : decode cX12_wayOf 38 = .ok (.aload_n 0, 1) := by decide +kernel
theorem dX12_wayOf_39 : decode cX12_wayOf 39 = .ok (.iload_n 3, 1) := by decide +kernel
theorem dX12_wayOf_40 : decode cX12_wayOf 40 = .ok (.iconst 1, 1) := by decide +kernel
theorem dX12_wayOf_41 : decode cX12_wayOf 41 = .ok (.isub, 1) := by decide +kernel
theorem dX12_wayOf_42 : decode cX12_wayOf 42 = .ok (.iconst 0, 1) := by decide +kernel
theorem dX12_wayOf_43 : decode cX12_wayOf 43 = .ok (.invokevirtual 362, 3) := by decide +kernel
theorem dX12_wayOf_46 : decode cX12_wayOf 46 = .ok (.goto 12, 3) := by decide +kernel
theorem dX12_wayOf_49 : decode cX12_wayOf 49 = .ok (.aload_n 0, 1) := by decide +kernel
theorem dX12_wayOf_50 : decode cX12_wayOf 50 = .ok (.iload_n 3, 1) := by decide +kernel
theorem dX12_wayOf_51 : decode cX12_wayOf 51 = .ok (.iload 4, 2) := by decide +kernel
theorem dX12_wayOf_53 : decode cX12_wayOf 53 = .ok (.iconst 1, 1) := by decide +kernel
theorem dX12_wayOf_54 : decode cX12_wayOf 54 = .ok (.iadd, 1) := by decide +kernel
theorem dX12_wayOf_55 : decode cX12_wayOf 55 = .ok (.invokevirtual 362, 3) := by decide +kernel
theorem dX12_wayOf_58 : decode cX12_wayOf 58 = .ok (.istore 7, 2) := by decide +kernel
theorem dX12_wayOf_60 : decode cX12_wayOf 60 = .ok (.iload_n 1, 1) := by decide +kernel
theorem dX12_wayOf_61 : decode cX12_wayOf 61 = .ok (.i2l, 1) := by decide +kernel
theorem dX12_wayOf_62 : decode cX12_wayOf 62 = .ok (.aload_n 0, 1) := by decide +kernel
theorem dX12_wayOf_63 : decode cX12_wayOf 63 = .ok (.iload_n 3, 1) := by decide +kernel
theorem dX12_wayOf_64 : decode cX12_wayOf 64 = .ok (.iconst 1, 1) := by decide +kernel
theorem dX12_wayOf_65 : decode cX12_wayOf 65 = .ok (.iadd, 1) := by decide +kernel
theorem dX12_wayOf_66 : decode cX12_wayOf 66 = .ok (.iconst 0, 1) := by decide +kernel
theorem dX12_wayOf_67 : decode cX12_wayOf 67 = .ok (.invokevirtual 362, 3) := by decide +kernel
theorem dX12_wayOf_70 : decode cX12_wayOf 70 = .ok (.i2l, 1) := by decide +kernel
theorem dX12_wayOf_71 : decode cX12_wayOf 71 = .ok (.lmul, 1) := by decide +kernel
theorem dX12_wayOf_72 : decode cX12_wayOf 72 = .ok (.iload 6, 2) := by decide +kernel
theorem dX12_wayOf_74 : decode cX12_wayOf 74 = .ok (.i2l, 1) := by decide +kernel
theorem dX12_wayOf_75 : decode cX12_wayOf 75 = .ok (.aload_n 0, 1) := by decide +kernel
theorem dX12_wayOf_76 : decode cX12_wayOf 76 = .ok (.iload_n 3, 1) := by decide +kernel
theorem dX12_wayOf_77 : decode cX12_wayOf 77 = .ok (.iconst 1, 1) := by decide +kernel
theorem dX12_wayOf_78 : decode cX12_wayOf 78 = .ok (.isub, 1) := by decide +kernel
theorem dX12_wayOf_79 : decode cX12_wayOf 79 = .ok (.iconst 0, 1) := by decide +kernel
theorem dX12_wayOf_80 : decode cX12_wayOf 80 = .ok (.invokevirtual 362, 3) := by decide +kernel
theorem dX12_wayOf_83 : decode cX12_wayOf 83 = .ok (.i2l, 1) := by decide +kernel
theorem dX12_wayOf_84 : decode cX12_wayOf 84 = .ok (.lmul, 1) := by decide +kernel
theorem dX12_wayOf_85 : decode cX12_wayOf 85 = .ok (.ladd, 1) := by decide +kernel
theorem dX12_wayOf_86 : decode cX12_wayOf 86 = .ok (.bipush 12, 2) := by decide +kernel
theorem dX12_wayOf_88 : decode cX12_wayOf 88 = .ok (.iload_n 1, 1) := by decide +kernel
theorem dX12_wayOf_89 : decode cX12_wayOf 89 = .ok (.isub, 1) := by decide +kernel
theorem dX12_wayOf_90 : decode cX12_wayOf 90 = .ok (.iload 6, 2) := by decide +kernel
theorem dX12_wayOf_92 : decode cX12_wayOf 92 = .ok (.isub, 1) := by decide +kernel
theorem dX12_wayOf_93 : decode cX12_wayOf 93 = .ok (.i2l, 1) := by decide +kernel
theorem dX12_wayOf_94 : decode cX12_wayOf 94 = .ok (.iload 7, 2) := by decide +kernel
theorem dX12_wayOf_96 : decode cX12_wayOf 96 = .ok (.i2l, 1) := by decide +kernel
theorem dX12_wayOf_97 : decode cX12_wayOf 97 = .ok (.lmul, 1) := by decide +kernel
theorem dX12_wayOf_98 : decode cX12_wayOf 98 = .ok (.ladd, 1) := by decide +kernel
theorem dX12_wayOf_99 : decode cX12_wayOf 99 = .ok (.ldc2_w 365, 3) := by decide +kernel
theorem dX12_wayOf_102 : decode cX12_wayOf 102 = .ok (.ldiv, 1) := by decide +kernel
theorem dX12_wayOf_103 : decode cX12_wayOf 103 = .ok (.l2i, 1) := by decide +kernel
theorem dX12_wayOf_104 : decode cX12_wayOf 104 = .ok (.ireturn, 1) := by decide +kernel
theorem dX12_ourRaid_0 : decode cX12_ourRaid 0 = .ok (.aload_n 0, 1) := by decide +kernel
theorem dX12_ourRaid_1 : decode cX12_ourRaid 1 = .ok (.aload_n 0, 1) := by decide +kernel
theorem dX12_ourRaid_2 : decode cX12_ourRaid 2 = .ok (.getfield 22, 3) := by decide +kernel
theorem dX12_ourRaid_5 : decode cX12_ourRaid 5 = .ok (.bipush 7, 2) := by decide +kernel
theorem dX12_ourRaid_7 : decode cX12_ourRaid 7 = .ok (.iaload, 1) := by decide +kernel
theorem dX12_ourRaid_8 : decode cX12_ourRaid 8 = .ok (.aload_n 0, 1) := by decide +kernel
theorem dX12_ourRaid_9 : decode cX12_ourRaid 9 = .ok (.getfield 22, 3) := by decide +kernel
theorem dX12_ourRaid_12 : decode cX12_ourRaid 12 = .ok (.bipush 8, 2) := by decide +kernel
theorem dX12_ourRaid_14 : decode cX12_ourRaid 14 = .ok (.iaload, 1) := by decide +kernel
theorem dX12_ourRaid_15 : decode cX12_ourRaid 15 = .ok (.iload_n 1, 1) := by decide +kernel
theorem dX12_ourRaid_16 : decode cX12_ourRaid 16 = .ok (.iload_n 2, 1) := by decide +kernel
theorem dX12_ourRaid_17 : decode cX12_ourRaid 17 = .ok (.iload_n 3, 1) := by decide +kernel
theorem dX12_ourRaid_18 : decode cX12_ourRaid 18 = .ok (.invokevirtual 367, 3) := by decide +kernel
theorem dX12_ourRaid_21 : decode cX12_ourRaid 21 = .ok (.istore 4, 2) := by decide +kernel
theorem dX12_ourRaid_23 : decode cX12_ourRaid 23 = .ok (.aload_n 0, 1) := by decide +kernel
theorem dX12_ourRaid_24 : decode cX12_ourRaid 24 = .ok (.aload_n 0, 1) := by decide +kernel
theorem dX12_ourRaid_25 : decode cX12_ourRaid 25 = .ok (.getfield 22, 3) := by decide +kernel
theorem dX12_ourRaid_28 : decode cX12_ourRaid 28 = .ok (.iconst 5, 1) := by decide +kernel
theorem dX12_ourRaid_29 : decode cX12_ourRaid 29 = .ok (.iaload, 1) := by decide +kernel
theorem dX12_ourRaid_30 : decode cX12_ourRaid 30 = .ok (.aload_n 0, 1) := by decide +kernel
theorem dX12_ourRaid_31 : decode cX12_ourRaid 31 = .ok (.getfield 22, 3) := by decide +kernel
theorem dX12_ourRaid_34 : decode cX12_ourRaid 34 = .ok (.bipush 6, 2) := by decide +kernel
theorem dX12_ourRaid_36 : decode cX12_ourRaid 36 = .ok (.iaload, 1) := by decide +kernel
theorem dX12_ourRaid_37 : decode cX12_ourRaid 37 = .ok (.iload_n 1, 1) := by decide +kernel
theorem dX12_ourRaid_38 : decode cX12_ourRaid 38 = .ok (.iload_n 2, 1) := by decide +kernel
theorem dX12_ourRaid_39 : decode cX12_ourRaid 39 = .ok (.iload_n 3, 1) := by decide +kernel
theorem dX12_ourRaid_40 : decode cX12_ourRaid 40 = .ok (.invokevirtual 367, 3) := by decide +kernel
theorem dX12_ourRaid_43 : decode cX12_ourRaid 43 = .ok (.istore 5, 2) := by decide +kernel
theorem dX12_ourRaid_45 : decode cX12_ourRaid 45 = .ok (.aload_n 0, 1) := by decide +kernel
theorem dX12_ourRaid_46 : decode cX12_ourRaid 46 = .ok (.iload 5, 2) := by decide +kernel
theorem dX12_ourRaid_48 : decode cX12_ourRaid 48 = .ok (.iload 4, 2) := by decide +kernel
theorem dX12_ourRaid_50 : decode cX12_ourRaid 50 = .ok (.if_icmp .le 7, 3) := by decide +kernel
theorem dX12_ourRaid_53 : decode cX12_ourRaid 53 = .ok (.iconst 1, 1) := by decide +kernel
theorem dX12_ourRaid_54 : decode cX12_ourRaid 54 = .ok (.goto 4, 3) := by decide +kernel
theorem dX12_ourRaid_57 : decode cX12_ourRaid 57 = .ok (.iconst 0, 1) := by decide +kernel
theorem dX12_ourRaid_58 : decode cX12_ourRaid 58 = .ok (.putfield 371, 3) := by decide +kernel
theorem dX12_ourRaid_61 : decode cX12_ourRaid 61 = .ok (.iload 5, 2) := by decide +kernel
theorem dX12_ourRaid_63 : decode cX12_ourRaid 63 = .ok (.iload 4, 2) := by decide +kernel
theorem dX12_ourRaid_65 : decode cX12_ourRaid 65 = .ok (.if_icmp .le 8, 3) := by decide +kernel
theorem dX12_ourRaid_68 : decode cX12_ourRaid 68 = .ok (.iload 5, 2) := by decide +kernel
theorem dX12_ourRaid_70 : decode cX12_ourRaid 70 = .ok (.goto 5, 3) := by decide +kernel
theorem dX12_ourRaid_73 : decode cX12_ourRaid 73 = .ok (.iload 4, 2) := by decide +kernel
theorem dX12_ourRaid_75 : decode cX12_ourRaid 75 = .ok (.ireturn, 1) := by decide +kernel
theorem dX12_theirRaid_0 : decode cX12_theirRaid 0 = .ok (.aload_n 0, 1) := by decide +kernel
theorem dX12_theirRaid_1 : decode cX12_theirRaid 1 = .ok (.getfield 22, 3) := by decide +kernel
theorem dX12_theirRaid_4 : decode cX12_theirRaid 4 = .ok (.bipush 9, 2) := by decide +kernel
theorem dX12_theirRaid_6 : decode cX12_theirRaid 6 = .ok (.iaload, 1) := by decide +kernel
theorem dX12_theirRaid_7 : decode cX12_theirRaid 7 = .ok (.i2l, 1) := by decide +kernel
theorem dX12_theirRaid_8 : decode cX12_theirRaid 8 = .ok (.aload_n 0, 1) := by decide +kernel
theorem dX12_theirRaid_9 : decode cX12_theirRaid 9 = .ok (.iload_n 1, 1) := by decide +kernel
theorem dX12_theirRaid_10 : decode cX12_theirRaid 10 = .ok (.iconst 1, 1) := by decide +kernel
theorem dX12_theirRaid_11 : decode cX12_theirRaid 11 = .ok (.isub, 1) := by decide +kernel
theorem dX12_theirRaid_12 : decode cX12_theirRaid 12 = .ok (.iload_n 2, 1) := by decide +kernel
theorem dX12_theirRaid_13 : decode cX12_theirRaid 13 = .ok (.invokevirtual 362, 3) := by decide +kernel
theorem dX12_theirRaid_16 : decode cX12_theirRaid 16 = .ok (.i2l, 1) := by decide +kernel
theorem dX12_theirRaid_17 : decode cX12_theirRaid 17 = .ok (.lmul, 1) := by decide +kernel
theorem dX12_theirRaid_18 : decode cX12_theirRaid 18 = .ok (.bipush 12, 2) := by decide +kernel
theorem dX12_theirRaid_20 : decode cX12_theirRaid 20 = .ok (.aload_n 0, 1) := by decide +kernel
theorem dX12_theirRaid_21 : decode cX12_theirRaid 21 = .ok (.getfield 22, 3) := by decide +kernel
theorem dX12_theirRaid_24 : decode cX12_theirRaid 24 = .ok (.bipush 9, 2) := by decide +kernel
theorem dX12_theirRaid_26 : decode cX12_theirRaid 26 = .ok (.iaload, 1) := by decide +kernel
theorem dX12_theirRaid_27 : decode cX12_theirRaid 27 = .ok (.isub, 1) := by decide +kernel
theorem dX12_theirRaid_28 : decode cX12_theirRaid 28 = .ok (.i2l, 1) := by decide +kernel
theorem dX12_theirRaid_29 : decode cX12_theirRaid 29 = .ok (.aload_n 0, 1) := by decide +kernel
theorem dX12_theirRaid_30 : decode cX12_theirRaid 30 = .ok (.iload_n 1, 1) := by decide +kernel
theorem dX12_theirRaid_31 : decode cX12_theirRaid 31 = .ok (.iload_n 2, 1) := by decide +kernel
theorem dX12_theirRaid_32 : decode cX12_theirRaid 32 = .ok (.invokevirtual 362, 3) := by decide +kernel
theorem dX12_theirRaid_35 : decode cX12_theirRaid 35 = .ok (.i2l, 1) := by decide +kernel
theorem dX12_theirRaid_36 : decode cX12_theirRaid 36 = .ok (.lmul, 1) := by decide +kernel
theorem dX12_theirRaid_37 : decode cX12_theirRaid 37 = .ok (.ladd, 1) := by decide +kernel
theorem dX12_theirRaid_38 : decode cX12_theirRaid 38 = .ok (.ldc2_w 365, 3) := by decide +kernel
theorem dX12_theirRaid_41 : decode cX12_theirRaid 41 = .ok (.ldiv, 1) := by decide +kernel
theorem dX12_theirRaid_42 : decode cX12_theirRaid 42 = .ok (.l2i, 1) := by decide +kernel
theorem dX12_theirRaid_43 : decode cX12_theirRaid 43 = .ok (.ireturn, 1) := by decide +kernel
theorem dX12_layThen_0 : decode cX12_layThen 0 = .ok (.iconst 0, 1) := by decide +kernel
theorem dX12_layThen_1 : decode cX12_layThen 1 = .ok (.istore_n 1, 1) := by decide +kernel
theorem dX12_layThen_2 : decode cX12_layThen 2 = .ok (.iload_n 1, 1) := by decide +kernel
theorem dX12_layThen_3 : decode cX12_layThen 3 = .ok (.sipush 429, 3) := by decide +kernel
theorem dX12_layThen_6 : decode cX12_layThen 6 = .ok (.if_icmp .ge 21, 3) := by decide +kernel
theorem dX12_layThen_9 : decode cX12_layThen 9 = .ok (.aload_n 0, 1) := by decide +kernel
theorem dX12_layThen_10 : decode cX12_layThen 10 = .ok (.getfield 78, 3) := by decide +kernel
theorem dX12_layThen_13 : decode cX12_layThen 13 = .ok (.iload_n 1, 1) := by decide +kernel
theorem dX12_layThen_14 : decode cX12_layThen 14 = .ok (.aload_n 0, 1) := by decide +kernel
theorem dX12_layThen_15 : decode cX12_layThen 15 = .ok (.getfield 75, 3) := by decide +kernel
theorem dX12_layThen_18 : decode cX12_layThen 18 = .ok (.iload_n 1, 1) := by decide +kernel
theorem dX12_layThen_19 : decode cX12_layThen 19 = .ok (.iaload, 1) := by decide +kernel
theorem dX12_layThen_20 : decode cX12_layThen 20 = .ok (.iastore, 1) := by decide +kernel
theorem dX12_layThen_21 : decode cX12_layThen 21 = .ok (.iinc 1 1, 3) := by decide +kernel
theorem dX12_layThen_24 : decode cX12_layThen 24 = .ok (.goto (-22), 3) := by decide +kernel
theorem dX12_layThen_27 : decode cX12_layThen 27 = .ok (.return_, 1) := by decide +kernel
theorem dX12_findOdds_0 : decode cX12_findOdds 0 = .ok (.iconst 0, 1) := by decide +kernel
theorem dX12_findOdds_1 : decode cX12_findOdds 1 = .ok (.istore_n 3, 1) := by decide +kernel
theorem dX12_findOdds_2 : decode cX12_findOdds 2 = .ok (.iload_n 3, 1) := by decide +kernel
theorem dX12_findOdds_3 : decode cX12_findOdds 3 = .ok (.iconst 3, 1) := by decide +kernel
theorem dX12_findOdds_4 : decode cX12_findOdds 4 = .ok (.if_icmp .ge 65, 3) := by decide +kernel
theorem dX12_findOdds_7 : decode cX12_findOdds 7 = .ok (.bipush (-71), 2) := by decide +kernel
theorem dX12_findOdds_9 : decode cX12_findOdds 9 = .ok (.istore 4, 2) := by decide +kernel
theorem dX12_findOdds_11 : decode cX12_findOdds 11 = .ok (.iload 4, 2) := by decide +kernel
theorem dX12_findOdds_13 : decode cX12_findOdds 13 = .ok (.bipush 71, 2) := by decide +kernel
theorem dX12_findOdds_15 : decode cX12_findOdds 15 = .ok (.if_icmp .gt 48, 3) := by decide +kernel
theorem dX12_findOdds_18 : decode cX12_findOdds 18 = .ok (.aload_n 0, 1) := by decide +kernel
theorem dX12_findOdds_19 : decode cX12_findOdds 19 = .ok (.getfield 75, 3) := by decide +kernel
theorem dX12_findOdds_22 : decode cX12_findOdds 22 = .ok (.sipush 143, 3) := by decide +kernel
theorem dX12_findOdds_25 : decode cX12_findOdds 25 = .ok (.iload_n 3, 1) := by decide +kernel
theorem dX12_findOdds_26 : decode cX12_findOdds 26 = .ok (.imul, 1) := by decide +kernel
theorem dX12_findOdds_27 : decode cX12_findOdds 27 = .ok (.iload 4, 2) := by decide +kernel
theorem dX12_findOdds_29 : decode cX12_findOdds 29 = .ok (.iadd, 1) := by decide +kernel
theorem dX12_findOdds_30 : decode cX12_findOdds 30 = .ok (.bipush 71, 2) := by decide +kernel
theorem dX12_findOdds_32 : decode cX12_findOdds 32 = .ok (.iadd, 1) := by decide +kernel
theorem dX12_findOdds_33 : decode cX12_findOdds 33 = .ok (.iload 4, 2) := by decide +kernel
theorem dX12_findOdds_35 : decode cX12_findOdds 35 = .ok (.ifCond .le 9, 3) := by decide +kernel
theorem dX12_findOdds_38 : decode cX12_findOdds 38 = .ok (.ldc_w 374, 3) := by decide +kernel
theorem dX12_findOdds_41 : decode cX12_findOdds 41 = .ok (.goto 15, 3) := by decide +kernel
theorem dX12_findOdds_44 : decode cX12_findOdds 44 = .ok (.iload 4, 2) := by decide +kernel
theorem dX12_findOdds_46 : decode cX12_findOdds 46 = .ok (.ifCond .ne 9, 3) := by decide +kernel
theorem dX12_findOdds_49 : decode cX12_findOdds 49 = .ok (.ldc_w 375, 3) := by decide +kernel
theorem dX12_findOdds_52 : decode cX12_findOdds 52 = .ok (.goto 4, 3) := by decide +kernel
theorem dX12_findOdds_55 : decode cX12_findOdds 55 = .ok (.iconst 0, 1) := by decide +kernel
theorem dX12_findOdds_56 : decode cX12_findOdds 56 = .ok (.iastore, 1) := by decide +kernel
theorem dX12_findOdds_57 : decode cX12_findOdds 57 = .ok (.iinc 4 1, 3) := by decide +kernel
theorem dX12_findOdds_60 : decode cX12_findOdds 60 = .ok (.goto (-49), 3) := by decide +kernel
theorem dX12_findOdds_63 : decode cX12_findOdds 63 = .ok (.iinc 3 1, 3) := by decide +kernel
theorem dX12_findOdds_66 : decode cX12_findOdds 66 = .ok (.goto (-64), 3) := by decide +kernel
theorem dX12_findOdds_69 : decode cX12_findOdds 69 = .ok (.aload_n 0, 1) := by decide +kernel
theorem dX12_findOdds_70 : decode cX12_findOdds 70 = .ok (.invokevirtual 376, 3) := by decide +kernel
theorem dX12_findOdds_73 : decode cX12_findOdds 73 = .ok (.iconst 1, 1) := by decide +kernel
theorem dX12_findOdds_74 : decode cX12_findOdds 74 = .ok (.istore_n 3, 1) := by decide +kernel
theorem dX12_findOdds_75 : decode cX12_findOdds 75 = .ok (.iload_n 3, 1) := by decide +kernel
theorem dX12_findOdds_76 : decode cX12_findOdds 76 = .ok (.iload_n 1, 1) := by decide +kernel
theorem dX12_findOdds_77 : decode cX12_findOdds 77 = .ok (.if_icmp .gt 151, 3) := by decide +kernel
theorem dX12_findOdds_80 : decode cX12_findOdds 80 = .ok (.bipush 71, 2) := by decide +kernel
theorem dX12_findOdds_82 : decode cX12_findOdds 82 = .ok (.iconst 2, 1) := by decide +kernel
theorem dX12_findOdds_83 : decode cX12_findOdds 83 = .ok (.iload_n 3, 1) := by decide +kernel
theorem dX12_findOdds_84 : decode cX12_findOdds 84 = .ok (.imul, 1) := by decide +kernel
theorem dX12_findOdds_85 : decode cX12_findOdds 85 = .ok (.isub, 1) := by decide +kernel
theorem dX12_findOdds_86 : decode cX12_findOdds 86 = .ok (.iconst 1, 1) := by decide +kernel
theorem dX12_findOdds_87 : decode cX12_findOdds 87 = .ok (.iadd, 1) := by decide +kernel
theorem dX12_findOdds_88 : decode cX12_findOdds 88 = .ok (.istore 4, 2) := by decide +kernel
theorem dX12_findOdds_90 : decode cX12_findOdds 90 = .ok (.iconst 0, 1) := by decide +kernel
theorem dX12_findOdds_91 : decode cX12_findOdds 91 = .ok (.istore 5, 2) := by decide +kernel
theorem dX12_findOdds_93 : decode cX12_findOdds 93 = .ok (.iload 5, 2) := by decide +kernel
theorem dX12_findOdds_95 : decode cX12_findOdds 95 = .ok (.iconst 3, 1) := by decide +kernel
theorem dX12_findOdds_96 : decode cX12_findOdds 96 = .ok (.if_icmp .ge 52, 3) := by decide +kernel
theorem dX12_findOdds_99 : decode cX12_findOdds 99 = .ok (.iload 4, 2) := by decide +kernel
theorem dX12_findOdds_101 : decode cX12_findOdds 101 = .ok (.ineg, 1) := by decide +kernel
theorem dX12_findOdds_102 : decode cX12_findOdds 102 = .ok (.istore 6, 2) := by decide +kernel
theorem dX12_findOdds_104 : decode cX12_findOdds 104 = .ok (.iload 6, 2) := by decide +kernel
theorem dX12_findOdds_106 : decode cX12_findOdds 106 = .ok (.iload 4, 2) := by decide +kernel
theorem dX12_findOdds_108 : decode cX12_findOdds 108 = .ok (.if_icmp .gt 34, 3) := by decide +kernel
theorem dX12_findOdds_111 : decode cX12_findOdds 111 = .ok (.aload_n 0, 1) := by decide +kernel
theorem dX12_findOdds_112 : decode cX12_findOdds 112 = .ok (.getfield 75, 3) := by decide +kernel
theorem dX12_findOdds_115 : decode cX12_findOdds 115 = .ok (.sipush 143, 3) := by decide +kernel
theorem dX12_findOdds_118 : decode cX12_findOdds 118 = .ok (.iload 5, 2) := by decide +kernel
theorem dX12_findOdds_120 : decode cX12_findOdds 120 = .ok (.imul, 1) := by decide +kernel
theorem dX12_findOdds_121 : decode cX12_findOdds 121 = .ok (.iload 6, 2) := by decide +kernel
theorem dX12_findOdds_123 : decode cX12_findOdds 123 = .ok (.iadd, 1) := by decide +kernel
theorem dX12_findOdds_124 : decode cX12_findOdds 124 = .ok (.bipush 71, 2) := by decide +kernel
theorem dX12_findOdds_126 : decode cX12_findOdds 126 = .ok (.iadd, 1) := by decide +kernel
theorem dX12_findOdds_127 : decode cX12_findOdds 127 = .ok (.aload_n 0, 1) := by decide +kernel
theorem dX12_findOdds_128 : decode cX12_findOdds 128 = .ok (.iload 6, 2) := by decide +kernel
theorem dX12_findOdds_130 : decode cX12_findOdds 130 = .ok (.iload 5, 2) := by decide +kernel
theorem dX12_findOdds_132 : decode cX12_findOdds 132 = .ok (.invokevirtual 379, 3) := by decide +kernel
theorem dX12_findOdds_135 : decode cX12_findOdds 135 = .ok (.iastore, 1) := by decide +kernel
theorem dX12_findOdds_136 : decode cX12_findOdds 136 = .ok (.iinc 6 1, 3) := by decide +kernel
theorem dX12_findOdds_139 : decode cX12_findOdds 139 = .ok (.goto (-35), 3) := by decide +kernel
theorem dX12_findOdds_142 : decode cX12_findOdds 142 = .ok (.iinc 5 1, 3) := by decide +kernel
theorem dX12_findOdds_145 : decode cX12_findOdds 145 = .ok (.goto (-52), 3) := by decide +kernel
theorem dX12_findOdds_148 : decode cX12_findOdds 148 = .ok (.aload_n 0, 1) := by decide +kernel
theorem dX12_findOdds_149 : decode cX12_findOdds 149 = .ok (.invokevirtual 376, 3) := by decide +kernel
theorem dX12_findOdds_152 : decode cX12_findOdds 152 = .ok (.iload_n 3, 1) := by decide +kernel
theorem dX12_findOdds_153 : decode cX12_findOdds 153 = .ok (.iload_n 1, 1) := by decide +kernel
theorem dX12_findOdds_154 : decode cX12_findOdds 154 = .ok (.if_icmp .ne 4, 3) := by decide +kernel
theorem dX12_findOdds_157 : decode cX12_findOdds 157 = .ok (.return_, 1) := by decide +kernel
theorem dX12_findOdds_158 : decode cX12_findOdds 158 = .ok (.iconst 0, 1) := by decide +kernel
theorem dX12_findOdds_159 : decode cX12_findOdds 159 = .ok (.istore 5, 2) := by decide +kernel
theorem dX12_findOdds_161 : decode cX12_findOdds 161 = .ok (.iload 5, 2) := by decide +kernel
theorem dX12_findOdds_163 : decode cX12_findOdds 163 = .ok (.iconst 3, 1) := by decide +kernel
theorem dX12_findOdds_164 : decode cX12_findOdds 164 = .ok (.if_icmp .ge 54, 3) := by decide +kernel
theorem dX12_findOdds_167 : decode cX12_findOdds 167 = .ok (.iconst 1, 1) := by decide +kernel
theorem dX12_findOdds_168 : decode cX12_findOdds 168 = .ok (.iload 4, 2) := by decide +kernel
theorem dX12_findOdds_170 : decode cX12_findOdds 170 = .ok (.isub, 1) := by decide +kernel
theorem dX12_findOdds_171 : decode cX12_findOdds 171 = .ok (.istore 6, 2) := by decide +kernel
theorem dX12_findOdds_173 : decode cX12_findOdds 173 = .ok (.iload 6, 2) := by decide +kernel
theorem dX12_findOdds_175 : decode cX12_findOdds 175 = .ok (.iload 4, 2) := by decide +kernel
theorem dX12_findOdds_177 : decode cX12_findOdds 177 = .ok (.if_icmp .ge 35, 3) := by decide +kernel
theorem dX12_findOdds_180 : decode cX12_findOdds 180 = .ok (.aload_n 0, 1) := by decide +kernel
theorem dX12_findOdds_181 : decode cX12_findOdds 181 = .ok (.getfield 75, 3) := by decide +kernel
theorem dX12_findOdds_184 : decode cX12_findOdds 184 = .ok (.sipush 143, 3) := by decide +kernel
theorem dX12_findOdds_187 : decode cX12_findOdds 187 = .ok (.iload 5, 2) := by decide +kernel
theorem dX12_findOdds_189 : decode cX12_findOdds 189 = .ok (.imul, 1) := by decide +kernel
theorem dX12_findOdds_190 : decode cX12_findOdds 190 = .ok (.iload 6, 2) := by decide +kernel
theorem dX12_findOdds_192 : decode cX12_findOdds 192 = .ok (.iadd, 1) := by decide +kernel
theorem dX12_findOdds_193 : decode cX12_findOdds 193 = .ok (.bipush 71, 2) := by decide +kernel
theorem dX12_findOdds_195 : decode cX12_findOdds 195 = .ok (.iadd, 1) := by decide +kernel
theorem dX12_findOdds_196 : decode cX12_findOdds 196 = .ok (.aload_n 0, 1) := by decide +kernel
theorem dX12_findOdds_197 : decode cX12_findOdds 197 = .ok (.iload 6, 2) := by decide +kernel
theorem dX12_findOdds_199 : decode cX12_findOdds 199 = .ok (.iload 5, 2) := by decide +kernel
theorem dX12_findOdds_201 : decode cX12_findOdds 201 = .ok (.iload_n 2, 1) := by decide +kernel
theorem dX12_findOdds_202 : decode cX12_findOdds 202 = .ok (.invokevirtual 382, 3) := by decide +kernel
theorem dX12_findOdds_205 : decode cX12_findOdds 205 = .ok (.iastore, 1) := by decide +kernel
theorem dX12_findOdds_206 : decode cX12_findOdds 206 = .ok (.iinc 6 1, 3) := by decide +kernel
theorem dX12_findOdds_209 : decode cX12_findOdds 209 = .ok (.goto (-36), 3) := by decide +kernel
theorem dX12_findOdds_212 : decode cX12_findOdds 212 = .ok (.iinc 5 1, 3) := by decide +kernel
theorem dX12_findOdds_215 : decode cX12_findOdds 215 = .ok (.goto (-54), 3) := by decide +kernel
theorem dX12_findOdds_218 : decode cX12_findOdds 218 = .ok (.aload_n 0, 1) := by decide +kernel
theorem dX12_findOdds_219 : decode cX12_findOdds 219 = .ok (.invokevirtual 376, 3) := by decide +kernel
theorem dX12_findOdds_222 : decode cX12_findOdds 222 = .ok (.iinc 3 1, 3) := by decide +kernel
theorem dX12_findOdds_225 : decode cX12_findOdds 225 = .ok (.goto (-150), 3) := by decide +kernel
theorem dX12_findOdds_228 : decode cX12_findOdds 228 = .ok (.return_, 1) := by decide +kernel
theorem dX12_oddsOf_0 : decode cX12_oddsOf 0 = .ok (.aload_n 0, 1) := by decide +kernel
theorem dX12_oddsOf_1 : decode cX12_oddsOf 1 = .ok (.iload_n 1, 1) := by decide +kernel
theorem dX12_oddsOf_2 : decode cX12_oddsOf 2 = .ok (.iload 5, 2) := by decide +kernel
theorem dX12_oddsOf_4 : decode cX12_oddsOf 4 = .ok (.invokevirtual 386, 3) := by decide +kernel
theorem dX12_oddsOf_7 : decode cX12_oddsOf 7 = .ok (.iload_n 1, 1) := by decide +kernel
theorem dX12_oddsOf_8 : decode cX12_oddsOf 8 = .ok (.ifCond .ne 19, 3) := by decide +kernel
theorem dX12_oddsOf_11 : decode cX12_oddsOf 11 = .ok (.iload 4, 2) := by decide +kernel
theorem dX12_oddsOf_13 : decode cX12_oddsOf 13 = .ok (.ifCond .ne 12, 3) := by decide +kernel
theorem dX12_oddsOf_16 : decode cX12_oddsOf 16 = .ok (.aload_n 0, 1) := by decide +kernel
theorem dX12_oddsOf_17 : decode cX12_oddsOf 17 = .ok (.iload_n 2, 1) := by decide +kernel
theorem dX12_oddsOf_18 : decode cX12_oddsOf 18 = .ok (.iconst 0, 1) := by decide +kernel
theorem dX12_oddsOf_19 : decode cX12_oddsOf 19 = .ok (.invokevirtual 362, 3) := by decide +kernel
theorem dX12_oddsOf_22 : decode cX12_oddsOf 22 = .ok (.goto 4, 3) := by decide +kernel
theorem dX12_oddsOf_25 : decode cX12_oddsOf 25 = .ok (.iconst 0, 1) := by decide +kernel
theorem dX12_oddsOf_26 : decode cX12_oddsOf 26 = .ok (.ireturn, 1) := by decide +kernel
theorem dX12_oddsOf_27 : decode cX12_oddsOf 27 = .ok (.aload_n 0, 1) := by decide +kernel
theorem dX12_oddsOf_28 : decode cX12_oddsOf 28 = .ok (.iload_n 2, 1) := by decide +kernel
theorem dX12_oddsOf_29 : decode cX12_oddsOf 29 = .ok (.iload_n 3, 1) := by decide +kernel
theorem dX12_oddsOf_30 : decode cX12_oddsOf 30 = .ok (.iload 5, 2) := by decide +kernel
theorem dX12_oddsOf_32 : decode cX12_oddsOf 32 = .ok (.invokevirtual 382, 3) := by decide +kernel
theorem dX12_oddsOf_35 : decode cX12_oddsOf 35 = .ok (.istore 6, 2) := by decide +kernel
theorem dX12_oddsOf_37 : decode cX12_oddsOf 37 = .ok (.iload 4, 2) := by decide +kernel
theorem dX12_oddsOf_39 : decode cX12_oddsOf 39 = .ok (.ifCond .ne 8, 3) := by decide +kernel
theorem dX12_oddsOf_42 : decode cX12_oddsOf 42 = .ok (.iload 6, 2) := by decide +kernel
theorem dX12_oddsOf_44 : decode cX12_oddsOf 44 = .ok (.goto 7, 3) := by decide +kernel
theorem dX12_oddsOf_47 : decode cX12_oddsOf 47 = .ok (.aload_n 0, 1) := by decide +kernel
theorem dX12_oddsOf_48 : decode cX12_oddsOf 48 = .ok (.getfield 371, 3) := by decide +kernel
theorem dX12_oddsOf_51 : decode cX12_oddsOf 51 = .ok (.ireturn, 1) := by decide +kernel
theorem dX12_left_0 : decode cX12_left 0 = .ok (.iload_n 1, 1) := by decide +kernel
theorem dX12_left_1 : decode cX12_left 1 = .ok (.iconst 0, 1) := by decide +kernel
theorem dX12_left_2 : decode cX12_left 2 = .ok (.bipush 20, 2) := by decide +kernel
theorem dX12_left_4 : decode cX12_left 4 = .ok (.invokestatic 128, 3) := by decide +kernel
theorem dX12_left_7 : decode cX12_left 7 = .ok (.ifCond .eq 35, 3) := by decide +kernel
theorem dX12_left_10 : decode cX12_left 10 = .ok (.iload_n 2, 1) := by decide +kernel
theorem dX12_left_11 : decode cX12_left 11 = .ok (.bipush (-30), 2) := by decide +kernel
theorem dX12_left_13 : decode cX12_left 13 = .ok (.bipush 30, 2) := by decide +kernel
theorem dX12_left_15 : decode cX12_left 15 = .ok (.invokestatic 128, 3) := by decide +kernel
theorem dX12_left_18 : decode cX12_left 18 = .ok (.ifCond .eq 24, 3) := by decide +kernel
theorem dX12_left_21 : decode cX12_left 21 = .ok (.iload_n 3, 1) := by decide +kernel
theorem dX12_left_22 : decode cX12_left 22 = .ok (.iconst 0, 1) := by decide +kernel
theorem dX12_left_23 : decode cX12_left 23 = .ok (.iconst 1, 1) := by decide +kernel
theorem dX12_left_24 : decode cX12_left 24 = .ok (.invokestatic 128, 3) := by decide +kernel
theorem dX12_left_27 : decode cX12_left 27 = .ok (.ifCond .eq 15, 3) := by decide +kernel
theorem dX12_left_30 : decode cX12_left 30 = .ok (.aload_n 0, 1) := by decide +kernel
theorem dX12_left_31 : decode cX12_left 31 = .ok (.iload_n 1, 1) := by decide +kernel
theorem dX12_left_32 : decode cX12_left 32 = .ok (.iload_n 2, 1) := by decide +kernel
theorem dX12_left_33 : decode cX12_left 33 = .ok (.iconst 0, 1) := by decide +kernel
theorem dX12_left_34 : decode cX12_left 34 = .ok (.iload_n 3, 1) := by decide +kernel
theorem dX12_left_35 : decode cX12_left 35 = .ok (.iconst 0, 1) := by decide +kernel
theorem dX12_left_36 : decode cX12_left 36 = .ok (.invokevirtual 390, 3) := by decide +kernel
theorem dX12_left_39 : decode cX12_left 39 = .ok (.goto 4, 3) := by decide +kernel
theorem dX12_left_42 : decode cX12_left 42 = .ok (.iconst (-1), 1) := by decide +kernel
theorem dX12_left_43 : decode cX12_left 43 = .ok (.ireturn, 1) := by decide +kernel
theorem dX12_third_0 : decode cX12_third 0 = .ok (.iload_n 1, 1) := by decide +kernel
theorem dX12_third_1 : decode cX12_third 1 = .ok (.iconst 0, 1) := by decide +kernel
theorem dX12_third_2 : decode cX12_third 2 = .ok (.bipush 20, 2) := by decide +kernel
theorem dX12_third_4 : decode cX12_third 4 = .ok (.invokestatic 128, 3) := by decide +kernel
theorem dX12_third_7 : decode cX12_third 7 = .ok (.ifCond .eq 46, 3) := by decide +kernel
theorem dX12_third_10 : decode cX12_third 10 = .ok (.iload_n 2, 1) := by decide +kernel
theorem dX12_third_11 : decode cX12_third 11 = .ok (.bipush (-30), 2) := by decide +kernel
theorem dX12_third_13 : decode cX12_third 13 = .ok (.bipush 30, 2) := by decide +kernel
theorem dX12_third_15 : decode cX12_third 15 = .ok (.invokestatic 128, 3) := by decide +kernel
theorem dX12_third_18 : decode cX12_third 18 = .ok (.ifCond .eq 35, 3) := by decide +kernel
theorem dX12_third_21 : decode cX12_third 21 = .ok (.iload_n 3, 1) := by decide +kernel
theorem dX12_third_22 : decode cX12_third 22 = .ok (.iconst 0, 1) := by decide +kernel
theorem dX12_third_23 : decode cX12_third 23 = .ok (.iconst 2, 1) := by decide +kernel
theorem dX12_third_24 : decode cX12_third 24 = .ok (.invokestatic 128, 3) := by decide +kernel
theorem dX12_third_27 : decode cX12_third 27 = .ok (.ifCond .eq 26, 3) := by decide +kernel
theorem dX12_third_30 : decode cX12_third 30 = .ok (.iload 4, 2) := by decide +kernel
theorem dX12_third_32 : decode cX12_third 32 = .ok (.iconst 0, 1) := by decide +kernel
theorem dX12_third_33 : decode cX12_third 33 = .ok (.iconst 1, 1) := by decide +kernel
theorem dX12_third_34 : decode cX12_third 34 = .ok (.invokestatic 128, 3) := by decide +kernel
theorem dX12_third_37 : decode cX12_third 37 = .ok (.ifCond .eq 16, 3) := by decide +kernel
theorem dX12_third_40 : decode cX12_third 40 = .ok (.aload_n 0, 1) := by decide +kernel
theorem dX12_third_41 : decode cX12_third 41 = .ok (.iload_n 1, 1) := by decide +kernel
theorem dX12_third_42 : decode cX12_third 42 = .ok (.iload_n 2, 1) := by decide +kernel
theorem dX12_third_43 : decode cX12_third 43 = .ok (.iload_n 3, 1) := by decide +kernel
theorem dX12_third_44 : decode cX12_third 44 = .ok (.iload 4, 2) := by decide +kernel
theorem dX12_third_46 : decode cX12_third 46 = .ok (.iconst 1, 1) := by decide +kernel
theorem dX12_third_47 : decode cX12_third 47 = .ok (.invokevirtual 390, 3) := by decide +kernel
theorem dX12_third_50 : decode cX12_third 50 = .ok (.goto 4, 3) := by decide +kernel
theorem dX12_third_53 : decode cX12_third 53 = .ok (.iconst (-1), 1) := by decide +kernel
theorem dX12_third_54 : decode cX12_third 54 = .ok (.ireturn, 1) := by decide +kernel
theorem dX12_goesOut_0 : decode cX12_goesOut 0 = .ok (.aload_n 0, 1) := by decide +kernel
theorem dX12_goesOut_1 : decode cX12_goesOut 1 = .ok (.getfield 81, 3) := by decide +kernel
theorem dX12_goesOut_4 : decode cX12_goesOut 4 = .ok (.iload_n 1, 1) := by decide +kernel
theorem dX12_goesOut_5 : decode cX12_goesOut 5 = .ok (.iaload, 1) := by decide +kernel
theorem dX12_goesOut_6 : decode cX12_goesOut 6 = .ok (.aload_n 0, 1) := by decide +kernel
theorem dX12_goesOut_7 : decode cX12_goesOut 7 = .ok (.getfield 81, 3) := by decide +kernel
theorem dX12_goesOut_10 : decode cX12_goesOut 10 = .ok (.iload_n 1, 1) := by decide +kernel
theorem dX12_goesOut_11 : decode cX12_goesOut 11 = .ok (.iaload, 1) := by decide +kernel
theorem dX12_goesOut_12 : decode cX12_goesOut 12 = .ok (.ineg, 1) := by decide +kernel
theorem dX12_goesOut_13 : decode cX12_goesOut 13 = .ok (.iand, 1) := by decide +kernel
theorem dX12_goesOut_14 : decode cX12_goesOut 14 = .ok (.istore_n 2, 1) := by decide +kernel
theorem dX12_goesOut_15 : decode cX12_goesOut 15 = .ok (.aload_n 0, 1) := by decide +kernel
theorem dX12_goesOut_16 : decode cX12_goesOut 16 = .ok (.getfield 81, 3) := by decide +kernel
theorem dX12_goesOut_19 : decode cX12_goesOut 19 = .ok (.iload_n 1, 1) := by decide +kernel
theorem dX12_goesOut_20 : decode cX12_goesOut 20 = .ok (.dup2, 1) := by decide +kernel
theorem dX12_goesOut_21 : decode cX12_goesOut 21 = .ok (.iaload, 1) := by decide +kernel
theorem dX12_goesOut_22 : decode cX12_goesOut 22 = .ok (.iload_n 2, 1) := by decide +kernel
theorem dX12_goesOut_23 : decode cX12_goesOut 23 = .ok (.ixor, 1) := by decide +kernel
theorem dX12_goesOut_24 : decode cX12_goesOut 24 = .ok (.iastore, 1) := by decide +kernel
theorem dX12_goesOut_25 : decode cX12_goesOut 25 = .ok (.aload_n 0, 1) := by decide +kernel
theorem dX12_goesOut_26 : decode cX12_goesOut 26 = .ok (.getfield 87, 3) := by decide +kernel
theorem dX12_goesOut_29 : decode cX12_goesOut 29 = .ok (.bipush 7, 2) := by decide +kernel
theorem dX12_goesOut_31 : decode cX12_goesOut 31 = .ok (.iload_n 1, 1) := by decide +kernel
theorem dX12_goesOut_32 : decode cX12_goesOut 32 = .ok (.imul, 1) := by decide +kernel
theorem dX12_goesOut_33 : decode cX12_goesOut 33 = .ok (.aload_n 0, 1) := by decide +kernel
theorem dX12_goesOut_34 : decode cX12_goesOut 34 = .ok (.getfield 84, 3) := by decide +kernel
theorem dX12_goesOut_37 : decode cX12_goesOut 37 = .ok (.iload_n 1, 1) := by decide +kernel
theorem dX12_goesOut_38 : decode cX12_goesOut 38 = .ok (.iaload, 1) := by decide +kernel
theorem dX12_goesOut_39 : decode cX12_goesOut 39 = .ok (.iadd, 1) := by decide +kernel
theorem dX12_goesOut_40 : decode cX12_goesOut 40 = .ok (.iload_n 2, 1) := by decide +kernel
theorem dX12_goesOut_41 : decode cX12_goesOut 41 = .ok (.iconst 1, 1) := by decide +kernel
theorem dX12_goesOut_42 : decode cX12_goesOut 42 = .ok (.isub, 1) := by decide +kernel
theorem dX12_goesOut_43 : decode cX12_goesOut 43 = .ok (.invokestatic 279, 3) := by decide +kernel
theorem dX12_goesOut_46 : decode cX12_goesOut 46 = .ok (.iastore, 1) := by decide +kernel
theorem dX12_goesOut_47 : decode cX12_goesOut 47 = .ok (.aload_n 0, 1) := by decide +kernel
theorem dX12_goesOut_48 : decode cX12_goesOut 48 = .ok (.getfield 84, 3) := by decide +kernel
theorem dX12_goesOut_51 : decode cX12_goesOut 51 = .ok (.iload_n 1, 1) := by decide +kernel
theorem dX12_goesOut_52 : decode cX12_goesOut 52 = .ok (.dup2, 1) := by decide +kernel
theorem dX12_goesOut_53 : decode cX12_goesOut 53 = .ok (.iaload, 1) := by decide +kernel
theorem dX12_goesOut_54 : decode cX12_goesOut 54 = .ok (.iconst 1, 1) := by decide +kernel
theorem dX12_goesOut_55 : decode cX12_goesOut 55 = .ok (.iadd, 1) := by decide +kernel
theorem dX12_goesOut_56 : decode cX12_goesOut 56 = .ok (.iastore, 1) := by decide +kernel
theorem dX12_goesOut_57 : decode cX12_goesOut 57 = .ok (.return_, 1) := by decide +kernel
theorem dX12_comesBack_0 : decode cX12_comesBack 0 = .ok (.aload_n 0, 1) := by decide +kernel
theorem dX12_comesBack_1 : decode cX12_comesBack 1 = .ok (.getfield 84, 3) := by decide +kernel
theorem dX12_comesBack_4 : decode cX12_comesBack 4 = .ok (.iload_n 1, 1) := by decide +kernel
theorem dX12_comesBack_5 : decode cX12_comesBack 5 = .ok (.iaload, 1) := by decide +kernel
theorem dX12_comesBack_6 : decode cX12_comesBack 6 = .ok (.ifCond .ne 4, 3) := by decide +kernel
theorem dX12_comesBack_9 : decode cX12_comesBack 9 = .ok (.return_, 1) := by decide +kernel
theorem dX12_comesBack_10 : decode cX12_comesBack 10 = .ok (.aload_n 0, 1) := by decide +kernel
theorem dX12_comesBack_11 : decode cX12_comesBack 11 = .ok (.getfield 81, 3) := by decide +kernel
theorem dX12_comesBack_14 : decode cX12_comesBack 14 = .ok (.iload_n 1, 1) := by decide +kernel
theorem dX12_comesBack_15 : decode cX12_comesBack 15 = .ok (.dup2, 1) := by decide +kernel
theorem dX12_comesBack_16 : decode cX12_comesBack 16 = .ok (.iaload, 1) := by decide +kernel
theorem dX12_comesBack_17 : decode cX12_comesBack 17 = .ok (.iconst 1, 1) := by decide +kernel
theorem dX12_comesBack_18 : decode cX12_comesBack 18 = .ok (.aload_n 0, 1) := by decide +kernel
theorem dX12_comesBack_19 : decode cX12_comesBack 19 = .ok (.getfield 87, 3) := by decide +kernel
theorem dX12_comesBack_22 : decode cX12_comesBack 22 = .ok (.bipush 7, 2) := by decide +kernel
theorem dX12_comesBack_24 : decode cX12_comesBack 24 = .ok (.iload_n 1, 1) := by decide +kernel
theorem dX12_comesBack_25 : decode cX12_comesBack 25 = .ok (.imul, 1) := by decide +kernel
theorem dX12_comesBack_26 : decode cX12_comesBack 26 = .ok (.iaload, 1) := by decide +kernel
theorem dX12_comesBack_27 : decode cX12_comesBack 27 = .ok (.ishl, 1) := by decide +kernel
theorem dX12_comesBack_28 : decode cX12_comesBack 28 = .ok (.ior, 1) := by decide +kernel
theorem dX12_comesBack_29 : decode cX12_comesBack 29 = .ok (.iastore, 1) := by decide +kernel
theorem dX12_comesBack_30 : decode cX12_comesBack 30 = .ok (.aload_n 0, 1) := by decide +kernel
theorem dX12_comesBack_31 : decode cX12_comesBack 31 = .ok (.getfield 84, 3) := by decide +kernel
theorem dX12_comesBack_34 : decode cX12_comesBack 34 = .ok (.iload_n 1, 1) := by decide +kernel
theorem dX12_comesBack_35 : decode cX12_comesBack 35 = .ok (.dup2, 1) := by decide +kernel
theorem dX12_comesBack_36 : decode cX12_comesBack 36 = .ok (.iaload, 1) := by decide +kernel
theorem dX12_comesBack_37 : decode cX12_comesBack 37 = .ok (.iconst 1, 1) := by decide +kernel
theorem dX12_comesBack_38 : decode cX12_comesBack 38 = .ok (.isub, 1) := by decide +kernel
theorem dX12_comesBack_39 : decode cX12_comesBack 39 = .ok (.iastore, 1) := by decide +kernel
theorem dX12_comesBack_40 : decode cX12_comesBack 40 = .ok (.iconst 0, 1) := by decide +kernel
theorem dX12_comesBack_41 : decode cX12_comesBack 41 = .ok (.istore_n 2, 1) := by decide +kernel
theorem dX12_comesBack_42 : decode cX12_comesBack 42 = .ok (.iload_n 2, 1) := by decide +kernel
theorem dX12_comesBack_43 : decode cX12_comesBack 43 = .ok (.aload_n 0, 1) := by decide +kernel
theorem dX12_comesBack_44 : decode cX12_comesBack 44 = .ok (.getfield 84, 3) := by decide +kernel
theorem dX12_comesBack_47 : decode cX12_comesBack 47 = .ok (.iload_n 1, 1) := by decide +kernel
theorem dX12_comesBack_48 : decode cX12_comesBack 48 = .ok (.iaload, 1) := by decide +kernel
theorem dX12_comesBack_49 : decode cX12_comesBack 49 = .ok (.if_icmp .ge 33, 3) := by decide +kernel
theorem dX12_comesBack_52 : decode cX12_comesBack 52 = .ok (.aload_n 0, 1) := by decide +kernel
theorem dX12_comesBack_53 : decode cX12_comesBack 53 = .ok (.getfield 87, 3) := by decide +kernel
theorem dX12_comesBack_56 : decode cX12_comesBack 56 = .ok (.bipush 7, 2) := by decide +kernel
theorem dX12_comesBack_58 : decode cX12_comesBack 58 = .ok (.iload_n 1, 1) := by decide +kernel
theorem dX12_comesBack_59 : decode cX12_comesBack 59 = .ok (.imul, 1) := by decide +kernel
theorem dX12_comesBack_60 : decode cX12_comesBack 60 = .ok (.iload_n 2, 1) := by decide +kernel
theorem dX12_comesBack_61 : decode cX12_comesBack 61 = .ok (.iadd, 1) := by decide +kernel
theorem dX12_comesBack_62 : decode cX12_comesBack 62 = .ok (.aload_n 0, 1) := by decide +kernel
theorem dX12_comesBack_63 : decode cX12_comesBack 63 = .ok (.getfield 87, 3) := by decide +kernel
theorem dX12_comesBack_66 : decode cX12_comesBack 66 = .ok (.bipush 7, 2) := by decide +kernel
theorem dX12_comesBack_68 : decode cX12_comesBack 68 = .ok (.iload_n 1, 1) := by decide +kernel
theorem dX12_comesBack_69 : decode cX12_comesBack 69 = .ok (.imul, 1) := by decide +kernel
theorem dX12_comesBack_70 : decode cX12_comesBack 70 = .ok (.iload_n 2, 1) := by decide +kernel
theorem dX12_comesBack_71 : decode cX12_comesBack 71 = .ok (.iadd, 1) := by decide +kernel
theorem dX12_comesBack_72 : decode cX12_comesBack 72 = .ok (.iconst 1, 1) := by decide +kernel
theorem dX12_comesBack_73 : decode cX12_comesBack 73 = .ok (.iadd, 1) := by decide +kernel
theorem dX12_comesBack_74 : decode cX12_comesBack 74 = .ok (.iaload, 1) := by decide +kernel
theorem dX12_comesBack_75 : decode cX12_comesBack 75 = .ok (.iastore, 1) := by decide +kernel
theorem dX12_comesBack_76 : decode cX12_comesBack 76 = .ok (.iinc 2 1, 3) := by decide +kernel
theorem dX12_comesBack_79 : decode cX12_comesBack 79 = .ok (.goto (-37), 3) := by decide +kernel
theorem dX12_comesBack_82 : decode cX12_comesBack 82 = .ok (.return_, 1) := by decide +kernel
theorem dX12_raids_0 : decode cX12_raids 0 = .ok (.iconst 1, 1) := by decide +kernel
theorem dX12_raids_1 : decode cX12_raids 1 = .ok (.iload_n 1, 1) := by decide +kernel
theorem dX12_raids_2 : decode cX12_raids 2 = .ok (.isub, 1) := by decide +kernel
theorem dX12_raids_3 : decode cX12_raids 3 = .ok (.istore_n 3, 1) := by decide +kernel
theorem dX12_raids_4 : decode cX12_raids 4 = .ok (.iload_n 2, 1) := by decide +kernel
theorem dX12_raids_5 : decode cX12_raids 5 = .ok (.bipush 8, 2) := by decide +kernel
theorem dX12_raids_7 : decode cX12_raids 7 = .ok (.if_icmp .ne 24, 3) := by decide +kernel
theorem dX12_raids_10 : decode cX12_raids 10 = .ok (.aload_n 0, 1) := by decide +kernel
theorem dX12_raids_11 : decode cX12_raids 11 = .ok (.iload_n 1, 1) := by decide +kernel
theorem dX12_raids_12 : decode cX12_raids 12 = .ok (.invokevirtual 393, 3) := by decide +kernel
theorem dX12_raids_15 : decode cX12_raids 15 = .ok (.aload_n 0, 1) := by decide +kernel
theorem dX12_raids_16 : decode cX12_raids 16 = .ok (.iload_n 3, 1) := by decide +kernel
theorem dX12_raids_17 : decode cX12_raids 17 = .ok (.invokevirtual 396, 3) := by decide +kernel
theorem dX12_raids_20 : decode cX12_raids 20 = .ok (.aload_n 0, 1) := by decide +kernel
theorem dX12_raids_21 : decode cX12_raids 21 = .ok (.getfield 90, 3) := by decide +kernel
theorem dX12_raids_24 : decode cX12_raids 24 = .ok (.iload_n 3, 1) := by decide +kernel
theorem dX12_raids_25 : decode cX12_raids 25 = .ok (.dup2, 1) := by decide +kernel
theorem dX12_raids_26 : decode cX12_raids 26 = .ok (.iaload, 1) := by decide +kernel
theorem dX12_raids_27 : decode cX12_raids 27 = .ok (.iconst 1, 1) := by decide +kernel
theorem dX12_raids_28 : decode cX12_raids 28 = .ok (.iadd, 1) := by decide +kernel
theorem dX12_raids_29 : decode cX12_raids 29 = .ok (.iastore, 1) := by decide +kernel
theorem dX12_raids_30 : decode cX12_raids 30 = .ok (.return_, 1) := by decide +kernel
theorem dX12_raids_31 : decode cX12_raids 31 = .ok (.iconst 0, 1) := by decide +kernel
theorem dX12_raids_32 : decode cX12_raids 32 = .ok (.istore 4, 2) := by decide +kernel
theorem dX12_raids_34 : decode cX12_raids 34 = .ok (.iload 4, 2) := by decide +kernel
theorem dX12_raids_36 : decode cX12_raids 36 = .ok (.iload_n 2, 1) := by decide +kernel
theorem dX12_raids_37 : decode cX12_raids 37 = .ok (.if_icmp .ge 14, 3) := by decide +kernel
theorem dX12_raids_40 : decode cX12_raids 40 = .ok (.aload_n 0, 1) := by decide +kernel
theorem dX12_raids_41 : decode cX12_raids 41 = .ok (.iload_n 3, 1) := by decide +kernel
theorem dX12_raids_42 : decode cX12_raids 42 = .ok (.invokevirtual 393, 3) := by decide +kernel
theorem dX12_raids_45 : decode cX12_raids 45 = .ok (.iinc 4 1, 3) := by decide +kernel
theorem dX12_raids_48 : decode cX12_raids 48 = .ok (.goto (-14), 3) := by decide +kernel
theorem dX12_raids_51 : decode cX12_raids 51 = .ok (.iconst 0, 1) := by decide +kernel
theorem dX12_raids_52 : decode cX12_raids 52 = .ok (.istore 4, 2) := by decide +kernel
theorem dX12_raids_54 : decode cX12_raids 54 = .ok (.iload 4, 2) := by decide +kernel
theorem dX12_raids_56 : decode cX12_raids 56 = .ok (.iload_n 2, 1) := by decide +kernel
theorem dX12_raids_57 : decode cX12_raids 57 = .ok (.if_icmp .ge 14, 3) := by decide +kernel
theorem dX12_raids_60 : decode cX12_raids 60 = .ok (.aload_n 0, 1) := by decide +kernel
theorem dX12_raids_61 : decode cX12_raids 61 = .ok (.iload_n 1, 1) := by decide +kernel
theorem dX12_raids_62 : decode cX12_raids 62 = .ok (.invokevirtual 396, 3) := by decide +kernel
theorem dX12_raids_65 : decode cX12_raids 65 = .ok (.iinc 4 1, 3) := by decide +kernel
theorem dX12_raids_68 : decode cX12_raids 68 = .ok (.goto (-14), 3) := by decide +kernel
theorem dX12_raids_71 : decode cX12_raids 71 = .ok (.aload_n 0, 1) := by decide +kernel
theorem dX12_raids_72 : decode cX12_raids 72 = .ok (.getfield 90, 3) := by decide +kernel
theorem dX12_raids_75 : decode cX12_raids 75 = .ok (.iload_n 1, 1) := by decide +kernel
theorem dX12_raids_76 : decode cX12_raids 76 = .ok (.dup2, 1) := by decide +kernel
theorem dX12_raids_77 : decode cX12_raids 77 = .ok (.iaload, 1) := by decide +kernel
theorem dX12_raids_78 : decode cX12_raids 78 = .ok (.iload_n 2, 1) := by decide +kernel
theorem dX12_raids_79 : decode cX12_raids 79 = .ok (.iadd, 1) := by decide +kernel
theorem dX12_raids_80 : decode cX12_raids 80 = .ok (.iastore, 1) := by decide +kernel
theorem dX12_raids_81 : decode cX12_raids 81 = .ok (.return_, 1) := by decide +kernel
theorem dX12_goSheet_0 : decode cX12_goSheet 0 = .ok (.aload_n 0, 1) := by decide +kernel
theorem dX12_goSheet_1 : decode cX12_goSheet 1 = .ok (.getfield 81, 3) := by decide +kernel
theorem dX12_goSheet_4 : decode cX12_goSheet 4 = .ok (.iconst 0, 1) := by decide +kernel
theorem dX12_goSheet_5 : decode cX12_goSheet 5 = .ok (.iconst 1, 1) := by decide +kernel
theorem dX12_goSheet_6 : decode cX12_goSheet 6 = .ok (.iload_n 2, 1) := by decide +kernel
theorem dX12_goSheet_7 : decode cX12_goSheet 7 = .ok (.bipush 10, 2) := by decide +kernel
theorem dX12_goSheet_9 : decode cX12_goSheet 9 = .ok (.idiv, 1) := by decide +kernel
theorem dX12_goSheet_10 : decode cX12_goSheet 10 = .ok (.ishl, 1) := by decide +kernel
theorem dX12_goSheet_11 : decode cX12_goSheet 11 = .ok (.iconst 1, 1) := by decide +kernel
theorem dX12_goSheet_12 : decode cX12_goSheet 12 = .ok (.isub, 1) := by decide +kernel
theorem dX12_goSheet_13 : decode cX12_goSheet 13 = .ok (.iastore, 1) := by decide +kernel
theorem dX12_goSheet_14 : decode cX12_goSheet 14 = .ok (.aload_n 0, 1) := by decide +kernel
theorem dX12_goSheet_15 : decode cX12_goSheet 15 = .ok (.getfield 81, 3) := by decide +kernel
theorem dX12_goSheet_18 : decode cX12_goSheet 18 = .ok (.iconst 1, 1) := by decide +kernel
theorem dX12_goSheet_19 : decode cX12_goSheet 19 = .ok (.iconst 1, 1) := by decide +kernel
theorem dX12_goSheet_20 : decode cX12_goSheet 20 = .ok (.iload_n 2, 1) := by decide +kernel
theorem dX12_goSheet_21 : decode cX12_goSheet 21 = .ok (.bipush 10, 2) := by decide +kernel
theorem dX12_goSheet_23 : decode cX12_goSheet 23 = .ok (.irem, 1) := by decide +kernel
theorem dX12_goSheet_24 : decode cX12_goSheet 24 = .ok (.ishl, 1) := by decide +kernel
theorem dX12_goSheet_25 : decode cX12_goSheet 25 = .ok (.iconst 1, 1) := by decide +kernel
theorem dX12_goSheet_26 : decode cX12_goSheet 26 = .ok (.isub, 1) := by decide +kernel
theorem dX12_goSheet_27 : decode cX12_goSheet 27 = .ok (.iastore, 1) := by decide +kernel
theorem dX12_goSheet_28 : decode cX12_goSheet 28 = .ok (.iconst 0, 1) := by decide +kernel
theorem dX12_goSheet_29 : decode cX12_goSheet 29 = .ok (.istore_n 3, 1) := by decide +kernel
theorem dX12_goSheet_30 : decode cX12_goSheet 30 = .ok (.iload_n 3, 1) := by decide +kernel
theorem dX12_goSheet_31 : decode cX12_goSheet 31 = .ok (.iconst 2, 1) := by decide +kernel
theorem dX12_goSheet_32 : decode cX12_goSheet 32 = .ok (.if_icmp .ge 23, 3) := by decide +kernel
theorem dX12_goSheet_35 : decode cX12_goSheet 35 = .ok (.aload_n 0, 1) := by decide +kernel
theorem dX12_goSheet_36 : decode cX12_goSheet 36 = .ok (.getfield 84, 3) := by decide +kernel
theorem dX12_goSheet_39 : decode cX12_goSheet 39 = .ok (.iload_n 3, 1) := by decide +kernel
theorem dX12_goSheet_40 : decode cX12_goSheet 40 = .ok (.iconst 0, 1) := by decide +kernel
theorem dX12_goSheet_41 : decode cX12_goSheet 41 = .ok (.iastore, 1) := by decide +kernel
theorem dX12_goSheet_42 : decode cX12_goSheet 42 = .ok (.aload_n 0, 1) := by decide +kernel
theorem dX12_goSheet_43 : decode cX12_goSheet 43 = .ok (.getfield 90, 3) := by decide +kernel
theorem dX12_goSheet_46 : decode cX12_goSheet 46 = .ok (.iload_n 3, 1) := by decide +kernel
theorem dX12_goSheet_47 : decode cX12_goSheet 47 = .ok (.iconst 0, 1) := by decide +kernel
theorem dX12_goSheet_48 : decode cX12_goSheet 48 = .ok (.iastore, 1) := by decide +kernel
theorem dX12_goSheet_49 : decode cX12_goSheet 49 = .ok (.iinc 3 1, 3) := by decide +kernel
theorem dX12_goSheet_52 : decode cX12_goSheet 52 = .ok (.goto (-22), 3) := by decide +kernel
theorem dX12_goSheet_55 : decode cX12_goSheet 55 = .ok (.aload_n 0, 1) := by decide +kernel
theorem dX12_goSheet_56 : decode cX12_goSheet 56 = .ok (.bipush (-2), 2) := by decide +kernel
theorem dX12_goSheet_58 : decode cX12_goSheet 58 = .ok (.putfield 399, 3) := by decide +kernel
theorem dX12_goSheet_61 : decode cX12_goSheet 61 = .ok (.iconst 0, 1) := by decide +kernel
theorem dX12_goSheet_62 : decode cX12_goSheet 62 = .ok (.istore_n 3, 1) := by decide +kernel
theorem dX12_goSheet_63 : decode cX12_goSheet 63 = .ok (.iload_n 3, 1) := by decide +kernel
theorem dX12_goSheet_64 : decode cX12_goSheet 64 = .ok (.aload_n 0, 1) := by decide +kernel
theorem dX12_goSheet_65 : decode cX12_goSheet 65 = .ok (.getfield 111, 3) := by decide +kernel
theorem dX12_goSheet_68 : decode cX12_goSheet 68 = .ok (.iload_n 1, 1) := by decide +kernel
theorem dX12_goSheet_69 : decode cX12_goSheet 69 = .ok (.iaload, 1) := by decide +kernel
theorem dX12_goSheet_70 : decode cX12_goSheet 70 = .ok (.if_icmp .ge 90, 3) := by decide +kernel
theorem dX12_goSheet_73 : decode cX12_goSheet 73 = .ok (.aload_n 0, 1) := by decide +kernel
theorem dX12_goSheet_74 : decode cX12_goSheet 74 = .ok (.getfield 399, 3) := by decide +kernel
theorem dX12_goSheet_77 : decode cX12_goSheet 77 = .ok (.ifCond .ge 83, 3) := by decide +kernel
theorem dX12_goSheet_80 : decode cX12_goSheet 80 = .ok (.iload_n 3, 1) := by decide +kernel
theorem dX12_goSheet_81 : decode cX12_goSheet 81 = .ok (.iconst 2, 1) := by decide +kernel
theorem dX12_goSheet_82 : decode cX12_goSheet 82 = .ok (.irem, 1) := by decide +kernel
theorem dX12_goSheet_83 : decode cX12_goSheet 83 = .ok (.istore 4, 2) := by decide +kernel
theorem dX12_goSheet_85 : decode cX12_goSheet 85 = .ok (.aload_n 0, 1) := by decide +kernel
theorem dX12_goSheet_86 : decode cX12_goSheet 86 = .ok (.iload_n 1, 1) := by decide +kernel
theorem dX12_goSheet_87 : decode cX12_goSheet 87 = .ok (.iload_n 3, 1) := by decide +kernel
theorem dX12_goSheet_88 : decode cX12_goSheet 88 = .ok (.invokevirtual 307, 3) := by decide +kernel
theorem dX12_goSheet_91 : decode cX12_goSheet 91 = .ok (.istore 5, 2) := by decide +kernel
theorem dX12_goSheet_93 : decode cX12_goSheet 93 = .ok (.iload 5, 2) := by decide +kernel
theorem dX12_goSheet_95 : decode cX12_goSheet 95 = .ok (.iconst 0, 1) := by decide +kernel
theorem dX12_goSheet_96 : decode cX12_goSheet 96 = .ok (.bipush 8, 2) := by decide +kernel
theorem dX12_goSheet_98 : decode cX12_goSheet 98 = .ok (.invokestatic 128, 3) := by decide +kernel
theorem dX12_goSheet_101 : decode cX12_goSheet 101 = .ok (.ifCond .eq 37, 3) := by decide +kernel
theorem dX12_goSheet_104 : decode cX12_goSheet 104 = .ok (.aload_n 0, 1) := by decide +kernel
theorem dX12_goSheet_105 : decode cX12_goSheet 105 = .ok (.getfield 81, 3) := by decide +kernel
theorem dX12_goSheet_108 : decode cX12_goSheet 108 = .ok (.iload 4, 2) := by decide +kernel
theorem dX12_goSheet_110 : decode cX12_goSheet 110 = .ok (.iaload, 1) := by decide +kernel
theorem dX12_goSheet_111 : decode cX12_goSheet 111 = .ok (.ifCond .eq 27, 3) := by decide +kernel
theorem dX12_goSheet_114 : decode cX12_goSheet 114 = .ok (.iload 5, 2) := by decide +kernel
theorem dX12_goSheet_116 : decode cX12_goSheet 116 = .ok (.bipush 8, 2) := by decide +kernel
theorem dX12_goSheet_118 : decode cX12_goSheet 118 = .ok (.if_icmp .ge 28, 3) := by decide +kernel
theorem dX12_goSheet_121 : decode cX12_goSheet 121 = .ok (.iload 5, 2) := by decide +kernel
theorem dX12_goSheet_123 : decode cX12_goSheet 123 = .ok (.aload_n 0, 1) := by decide +kernel
theorem dX12_goSheet_124 : decode cX12_goSheet 124 = .ok (.getfield 81, 3) := by decide +kernel
theorem dX12_goSheet_127 : decode cX12_goSheet 127 = .ok (.iconst 1, 1) := by decide +kernel
theorem dX12_goSheet_128 : decode cX12_goSheet 128 = .ok (.iload 4, 2) := by decide +kernel
theorem dX12_goSheet_130 : decode cX12_goSheet 130 = .ok (.isub, 1) := by decide +kernel
theorem dX12_goSheet_131 : decode cX12_goSheet 131 = .ok (.iaload, 1) := by decide +kernel
theorem dX12_goSheet_132 : decode cX12_goSheet 132 = .ok (.invokestatic 279, 3) := by decide +kernel
theorem dX12_goSheet_135 : decode cX12_goSheet 135 = .ok (.if_icmp .le 11, 3) := by decide +kernel
theorem dX12_goSheet_138 : decode cX12_goSheet 138 = .ok (.aload_n 0, 1) := by decide +kernel
theorem dX12_goSheet_139 : decode cX12_goSheet 139 = .ok (.iload_n 3, 1) := by decide +kernel
theorem dX12_goSheet_140 : decode cX12_goSheet 140 = .ok (.putfield 399, 3) := by decide +kernel
theorem dX12_goSheet_143 : decode cX12_goSheet 143 = .ok (.goto 11, 3) := by decide +kernel
theorem dX12_goSheet_146 : decode cX12_goSheet 146 = .ok (.aload_n 0, 1) := by decide +kernel
theorem dX12_goSheet_147 : decode cX12_goSheet 147 = .ok (.iload 4, 2) := by decide +kernel
theorem dX12_goSheet_149 : decode cX12_goSheet 149 = .ok (.iload 5, 2) := by decide +kernel
theorem dX12_goSheet_151 : decode cX12_goSheet 151 = .ok (.invokevirtual 402, 3) := by decide +kernel
theorem dX12_goSheet_154 : decode cX12_goSheet 154 = .ok (.iinc 3 1, 3) := by decide +kernel
theorem dX12_goSheet_157 : decode cX12_goSheet 157 = .ok (.goto (-94), 3) := by decide +kernel
theorem dX12_goSheet_160 : decode cX12_goSheet 160 = .ok (.return_, 1) := by decide +kernel
theorem dX12_areSizes_0 : decode cX12_areSizes 0 = .ok (.iload_n 0, 1) := by decide +kernel
theorem dX12_areSizes_1 : decode cX12_areSizes 1 = .ok (.ifCond .lt 33, 3) := by decide +kernel
theorem dX12_areSizes_4 : decode cX12_areSizes 4 = .ok (.iload_n 0, 1) := by decide +kernel
theorem dX12_areSizes_5 : decode cX12_areSizes 5 = .ok (.bipush 10, 2) := by decide +kernel
theorem dX12_areSizes_7 : decode cX12_areSizes 7 = .ok (.idiv, 1) := by decide +kernel
theorem dX12_areSizes_8 : decode cX12_areSizes 8 = .ok (.iconst 1, 1) := by decide +kernel
theorem dX12_areSizes_9 : decode cX12_areSizes 9 = .ok (.bipush 7, 2) := by decide +kernel
theorem dX12_areSizes_11 : decode cX12_areSizes 11 = .ok (.invokestatic 128, 3) := by decide +kernel
theorem dX12_areSizes_14 : decode cX12_areSizes 14 = .ok (.ifCond .eq 20, 3) := by decide +kernel
theorem dX12_areSizes_17 : decode cX12_areSizes 17 = .ok (.iload_n 0, 1) := by decide +kernel
theorem dX12_areSizes_18 : decode cX12_areSizes 18 = .ok (.bipush 10, 2) := by decide +kernel
theorem dX12_areSizes_20 : decode cX12_areSizes 20 = .ok (.irem, 1) := by decide +kernel
theorem dX12_areSizes_21 : decode cX12_areSizes 21 = .ok (.iconst 1, 1) := by decide +kernel
theorem dX12_areSizes_22 : decode cX12_areSizes 22 = .ok (.bipush 7, 2) := by decide +kernel
theorem dX12_areSizes_24 : decode cX12_areSizes 24 = .ok (.invokestatic 128, 3) := by decide +kernel
theorem dX12_areSizes_27 : decode cX12_areSizes 27 = .ok (.ifCond .eq 7, 3) := by decide +kernel
theorem dX12_areSizes_30 : decode cX12_areSizes 30 = .ok (.iconst 1, 1) := by decide +kernel
theorem dX12_areSizes_31 : decode cX12_areSizes 31 = .ok (.goto 4, 3) := by decide +kernel
theorem dX12_areSizes_34 : decode cX12_areSizes 34 = .ok (.iconst 0, 1) := by decide +kernel
theorem dX12_areSizes_35 : decode cX12_areSizes 35 = .ok (.ireturn, 1) := by decide +kernel
theorem dX12_judge_0 : decode cX12_judge 0 = .ok (.iload_n 1, 1) := by decide +kernel
theorem dX12_judge_1 : decode cX12_judge 1 = .ok (.invokestatic 143, 3) := by decide +kernel
theorem dX12_judge_4 : decode cX12_judge 4 = .ok (.ifCond .eq 10, 3) := by decide +kernel
theorem dX12_judge_7 : decode cX12_judge 7 = .ok (.iload_n 2, 1) := by decide +kernel
theorem dX12_judge_8 : decode cX12_judge 8 = .ok (.invokestatic 405, 3) := by decide +kernel
theorem dX12_judge_11 : decode cX12_judge 11 = .ok (.ifCond .ne 5, 3) := by decide +kernel
theorem dX12_judge_14 : decode cX12_judge 14 = .ok (.iconst (-1), 1) := by decide +kernel
theorem dX12_judge_15 : decode cX12_judge 15 = .ok (.ireturn, 1) := by decide +kernel
theorem dX12_judge_16 : decode cX12_judge 16 = .ok (.aload_n 0, 1) := by decide +kernel
theorem dX12_judge_17 : decode cX12_judge 17 = .ok (.iload_n 1, 1) := by decide +kernel
theorem dX12_judge_18 : decode cX12_judge 18 = .ok (.invokevirtual 316, 3) := by decide +kernel
theorem dX12_judge_21 : decode cX12_judge 21 = .ok (.ifCond .ge 9, 3) := by decide +kernel
theorem dX12_judge_24 : decode cX12_judge 24 = .ok (.aload_n 0, 1) := by decide +kernel
theorem dX12_judge_25 : decode cX12_judge 25 = .ok (.iload_n 1, 1) := by decide +kernel
theorem dX12_judge_26 : decode cX12_judge 26 = .ok (.invokevirtual 316, 3) := by decide +kernel
theorem dX12_judge_29 : decode cX12_judge 29 = .ok (.ireturn, 1) := by decide +kernel
theorem dX12_judge_30 : decode cX12_judge 30 = .ok (.aload_n 0, 1) := by decide +kernel
theorem dX12_judge_31 : decode cX12_judge 31 = .ok (.iload_n 1, 1) := by decide +kernel
theorem dX12_judge_32 : decode cX12_judge 32 = .ok (.iload_n 2, 1) := by decide +kernel
theorem dX12_judge_33 : decode cX12_judge 33 = .ok (.invokevirtual 408, 3) := by decide +kernel
theorem dX12_judge_36 : decode cX12_judge 36 = .ok (.aload_n 0, 1) := by decide +kernel
theorem dX12_judge_37 : decode cX12_judge 37 = .ok (.getfield 399, 3) := by decide +kernel
theorem dX12_judge_40 : decode cX12_judge 40 = .ok (.ireturn, 1) := by decide +kernel
theorem dX12_bench_0 : decode cX12_bench 0 = .ok (.iload_n 1, 1) := by decide +kernel
theorem dX12_bench_1 : decode cX12_bench 1 = .ok (.invokestatic 143, 3) := by decide +kernel
theorem dX12_bench_4 : decode cX12_bench 4 = .ok (.ifCond .eq 29, 3) := by decide +kernel
theorem dX12_bench_7 : decode cX12_bench 7 = .ok (.iload_n 2, 1) := by decide +kernel
theorem dX12_bench_8 : decode cX12_bench 8 = .ok (.invokestatic 405, 3) := by decide +kernel
theorem dX12_bench_11 : decode cX12_bench 11 = .ok (.ifCond .eq 22, 3) := by decide +kernel
theorem dX12_bench_14 : decode cX12_bench 14 = .ok (.iload_n 3, 1) := by decide +kernel
theorem dX12_bench_15 : decode cX12_bench 15 = .ok (.iconst 0, 1) := by decide +kernel
theorem dX12_bench_16 : decode cX12_bench 16 = .ok (.iconst 1, 1) := by decide +kernel
theorem dX12_bench_17 : decode cX12_bench 17 = .ok (.invokestatic 128, 3) := by decide +kernel
theorem dX12_bench_20 : decode cX12_bench 20 = .ok (.ifCond .eq 13, 3) := by decide +kernel
theorem dX12_bench_23 : decode cX12_bench 23 = .ok (.iload 4, 2) := by decide +kernel
theorem dX12_bench_25 : decode cX12_bench 25 = .ok (.iconst 0, 1) := by decide +kernel
theorem dX12_bench_26 : decode cX12_bench 26 = .ok (.iconst 2, 1) := by decide +kernel
theorem dX12_bench_27 : decode cX12_bench 27 = .ok (.invokestatic 128, 3) := by decide +kernel
theorem dX12_bench_30 : decode cX12_bench 30 = .ok (.ifCond .ne 5, 3) := by decide +kernel
theorem dX12_bench_33 : decode cX12_bench 33 = .ok (.iconst (-1), 1) := by decide +kernel
theorem dX12_bench_34 : decode cX12_bench 34 = .ok (.ireturn, 1) := by decide +kernel
theorem dX12_bench_35 : decode cX12_bench 35 = .ok (.aload_n 0, 1) := by decide +kernel
theorem dX12_bench_36 : decode cX12_bench 36 = .ok (.iload_n 1, 1) := by decide +kernel
theorem dX12_bench_37 : decode cX12_bench 37 = .ok (.invokevirtual 316, 3) := by decide +kernel
theorem dX12_bench_40 : decode cX12_bench 40 = .ok (.ifCond .ge 9, 3) := by decide +kernel
theorem dX12_bench_43 : decode cX12_bench 43 = .ok (.aload_n 0, 1) := by decide +kernel
theorem dX12_bench_44 : decode cX12_bench 44 = .ok (.iload_n 1, 1) := by decide +kernel
theorem dX12_bench_45 : decode cX12_bench 45 = .ok (.invokevirtual 316, 3) := by decide +kernel
theorem dX12_bench_48 : decode cX12_bench 48 = .ok (.ireturn, 1) := by decide +kernel
theorem dX12_bench_49 : decode cX12_bench 49 = .ok (.aload_n 0, 1) := by decide +kernel
theorem dX12_bench_50 : decode cX12_bench 50 = .ok (.iload_n 1, 1) := by decide +kernel
theorem dX12_bench_51 : decode cX12_bench 51 = .ok (.iload_n 2, 1) := by decide +kernel
theorem dX12_bench_52 : decode cX12_bench 52 = .ok (.invokevirtual 408, 3) := by decide +kernel
theorem dX12_bench_55 : decode cX12_bench 55 = .ok (.iload 4, 2) := by decide +kernel
theorem dX12_bench_57 : decode cX12_bench 57 = .ok (.ifCond .ne 10, 3) := by decide +kernel
theorem dX12_bench_60 : decode cX12_bench 60 = .ok (.aload_n 0, 1) := by decide +kernel
theorem dX12_bench_61 : decode cX12_bench 61 = .ok (.getfield 81, 3) := by decide +kernel
theorem dX12_bench_64 : decode cX12_bench 64 = .ok (.iload_n 3, 1) := by decide +kernel
theorem dX12_bench_65 : decode cX12_bench 65 = .ok (.iaload, 1) := by decide +kernel
theorem dX12_bench_66 : decode cX12_bench 66 = .ok (.ireturn, 1) := by decide +kernel
theorem dX12_bench_67 : decode cX12_bench 67 = .ok (.iload 4, 2) := by decide +kernel
theorem dX12_bench_69 : decode cX12_bench 69 = .ok (.iconst 2, 1) := by decide +kernel
theorem dX12_bench_70 : decode cX12_bench 70 = .ok (.if_icmp .ne 12, 3) := by decide +kernel
theorem dX12_bench_73 : decode cX12_bench 73 = .ok (.aload_n 0, 1) := by decide +kernel
theorem dX12_bench_74 : decode cX12_bench 74 = .ok (.getfield 90, 3) := by decide +kernel
theorem dX12_bench_77 : decode cX12_bench 77 = .ok (.iload_n 3, 1) := by decide +kernel
theorem dX12_bench_78 : decode cX12_bench 78 = .ok (.iaload, 1) := by decide +kernel
theorem dX12_bench_79 : decode cX12_bench 79 = .ok (.goto 26, 3) := by decide +kernel
theorem dX12_bench_82 : decode cX12_bench 82 = .ok (.aload_n 0, 1) := by decide +kernel
theorem dX12_bench_83 : decode cX12_bench 83 = .ok (.getfield 84, 3) := by decide +kernel
theorem dX12_bench_86 : decode cX12_bench 86 = .ok (.iload_n 3, 1) := by decide +kernel
theorem dX12_bench_87 : decode cX12_bench 87 = .ok (.iaload, 1) := by decide +kernel
theorem dX12_bench_88 : decode cX12_bench 88 = .ok (.ifCond .ne 8, 3) := by decide +kernel
theorem dX12_bench_91 : decode cX12_bench 91 = .ok (.bipush (-2), 2) := by decide +kernel
theorem dX12_bench_93 : decode cX12_bench 93 = .ok (.goto 12, 3) := by decide +kernel
theorem dX12_bench_96 : decode cX12_bench 96 = .ok (.aload_n 0, 1) := by decide +kernel
theorem dX12_bench_97 : decode cX12_bench 97 = .ok (.getfield 87, 3) := by decide +kernel
theorem dX12_bench_100 : decode cX12_bench 100 = .ok (.bipush 7, 2) := by decide +kernel
theorem dX12_bench_102 : decode cX12_bench 102 = .ok (.iload_n 3, 1) := by decide +kernel
theorem dX12_bench_103 : decode cX12_bench 103 = .ok (.imul, 1) := by decide +kernel
theorem dX12_bench_104 : decode cX12_bench 104 = .ok (.iaload, 1) := by decide +kernel
theorem dX12_bench_105 : decode cX12_bench 105 = .ok (.ireturn, 1) := by decide +kernel
theorem dX12_drawn_0 : decode cX12_drawn 0 = .ok (.iload_n 2, 1) := by decide +kernel
theorem dX12_drawn_1 : decode cX12_drawn 1 = .ok (.iconst 1, 1) := by decide +kernel
theorem dX12_drawn_2 : decode cX12_drawn 2 = .ok (.bipush 50, 2) := by decide +kernel
theorem dX12_drawn_4 : decode cX12_drawn 4 = .ok (.invokestatic 128, 3) := by decide +kernel
theorem dX12_drawn_7 : decode cX12_drawn 7 = .ok (.ifCond .eq 12, 3) := by decide +kernel
theorem dX12_drawn_10 : decode cX12_drawn 10 = .ok (.iload_n 3, 1) := by decide +kernel
theorem dX12_drawn_11 : decode cX12_drawn 11 = .ok (.iconst 0, 1) := by decide +kernel
theorem dX12_drawn_12 : decode cX12_drawn 12 = .ok (.iconst 1, 1) := by decide +kernel
theorem dX12_drawn_13 : decode cX12_drawn 13 = .ok (.invokestatic 128, 3) := by decide +kernel
theorem dX12_drawn_16 : decode cX12_drawn 16 = .ok (.ifCond .ne 5, 3) := by decide +kernel
theorem dX12_drawn_19 : decode cX12_drawn 19 = .ok (.iconst (-1), 1) := by decide +kernel
theorem dX12_drawn_20 : decode cX12_drawn 20 = .ok (.ireturn, 1) := by decide +kernel
theorem dX12_drawn_21 : decode cX12_drawn 21 = .ok (.iload_n 1, 1) := by decide +kernel
theorem dX12_drawn_22 : decode cX12_drawn 22 = .ok (.istore 4, 2) := by decide +kernel
theorem dX12_drawn_24 : decode cX12_drawn 24 = .ok (.iconst 0, 1) := by decide +kernel
theorem dX12_drawn_25 : decode cX12_drawn 25 = .ok (.istore 5, 2) := by decide +kernel
theorem dX12_drawn_27 : decode cX12_drawn 27 = .ok (.iconst 0, 1) := by decide +kernel
theorem dX12_drawn_28 : decode cX12_drawn 28 = .ok (.istore 6, 2) := by decide +kernel
theorem dX12_drawn_30 : decode cX12_drawn 30 = .ok (.iconst 0, 1) := by decide +kernel
theorem dX12_drawn_31 : decode cX12_drawn 31 = .ok (.istore 7, 2) := by decide +kernel
theorem dX12_drawn_33 : decode cX12_drawn 33 = .ok (.iload 7, 2) := by decide +kernel
theorem dX12_drawn_35 : decode cX12_drawn 35 = .ok (.iload_n 2, 1) := by decide +kernel
theorem dX12_drawn_36 : decode cX12_drawn 36 = .ok (.if_icmp .ge 93, 3) := by decide +kernel
theorem dX12_drawn_39 : decode cX12_drawn 39 = .ok (.aload_n 0, 1) := by decide +kernel
theorem dX12_drawn_40 : decode cX12_drawn 40 = .ok (.invokevirtual 288, 3) := by decide +kernel
theorem dX12_drawn_43 : decode cX12_drawn 43 = .ok (.aload_n 0, 1) := by decide +kernel
theorem dX12_drawn_44 : decode cX12_drawn 44 = .ok (.getfield 258, 3) := by decide +kernel
theorem dX12_drawn_47 : decode cX12_drawn 47 = .ok (.ifCond .ne 56, 3) := by decide +kernel
theorem dX12_drawn_50 : decode cX12_drawn 50 = .ok (.iload 4, 2) := by decide +kernel
theorem dX12_drawn_52 : decode cX12_drawn 52 = .ok (.ldc_w 411, 3) := by decide +kernel
theorem dX12_drawn_55 : decode cX12_drawn 55 = .ok (.imul, 1) := by decide +kernel
theorem dX12_drawn_56 : decode cX12_drawn 56 = .ok (.sipush 12345, 3) := by decide +kernel
theorem dX12_drawn_59 : decode cX12_drawn 59 = .ok (.iadd, 1) := by decide +kernel
theorem dX12_drawn_60 : decode cX12_drawn 60 = .ok (.istore 4, 2) := by decide +kernel
theorem dX12_drawn_62 : decode cX12_drawn 62 = .ok (.aload_n 0, 1) := by decide +kernel
theorem dX12_drawn_63 : decode cX12_drawn 63 = .ok (.aload_n 0, 1) := by decide +kernel
theorem dX12_drawn_64 : decode cX12_drawn 64 = .ok (.getfield 264, 3) := by decide +kernel
theorem dX12_drawn_67 : decode cX12_drawn 67 = .ok (.aload_n 0, 1) := by decide +kernel
theorem dX12_drawn_68 : decode cX12_drawn 68 = .ok (.getfield 22, 3) := by decide +kernel
theorem dX12_drawn_71 : decode cX12_drawn 71 = .ok (.iconst 4, 1) := by decide +kernel
theorem dX12_drawn_72 : decode cX12_drawn 72 = .ok (.iaload, 1) := by decide +kernel
theorem dX12_drawn_73 : decode cX12_drawn 73 = .ok (.if_icmp .lt 13, 3) := by decide +kernel
theorem dX12_drawn_76 : decode cX12_drawn 76 = .ok (.iload 4, 2) := by decide +kernel
theorem dX12_drawn_78 : decode cX12_drawn 78 = .ok (.bipush 16, 2) := by decide +kernel
theorem dX12_drawn_80 : decode cX12_drawn 80 = .ok (.iushr, 1) := by decide +kernel
theorem dX12_drawn_81 : decode cX12_drawn 81 = .ok (.iconst 1, 1) := by decide +kernel
theorem dX12_drawn_82 : decode cX12_drawn 82 = .ok (.iand, 1) := by decide +kernel
theorem dX12_drawn_83 : decode cX12_drawn 83 = .ok (.ifCond .ne 13, 3) := by decide +kernel
theorem dX12_drawn_86 : decode cX12_drawn 86 = .ok (.iload 4, 2) := by decide +kernel
theorem dX12_drawn_88 : decode cX12_drawn 88 = .ok (.bipush 8, 2) := by decide +kernel
theorem dX12_drawn_90 : decode cX12_drawn 90 = .ok (.iushr, 1) := by decide +kernel
theorem dX12_drawn_91 : decode cX12_drawn 91 = .ok (.iconst 5, 1) := by decide +kernel
theorem dX12_drawn_92 : decode cX12_drawn 92 = .ok (.irem, 1) := by decide +kernel
theorem dX12_drawn_93 : decode cX12_drawn 93 = .ok (.goto 4, 3) := by decide +kernel
theorem dX12_drawn_96 : decode cX12_drawn 96 = .ok (.iconst 2, 1) := by decide +kernel
theorem dX12_drawn_97 : decode cX12_drawn 97 = .ok (.invokevirtual 313, 3) := by decide +kernel
theorem dX12_drawn_100 : decode cX12_drawn 100 = .ok (.goto (-57), 3) := by decide +kernel
theorem dX12_drawn_103 : decode cX12_drawn 103 = .ok (.iload 5, 2) := by decide +kernel
theorem dX12_drawn_105 : decode cX12_drawn 105 = .ok (.aload_n 0, 1) := by decide +kernel
theorem dX12_drawn_106 : decode cX12_drawn 106 = .ok (.invokevirtual 322, 3) := by decide +kernel
theorem dX12_drawn_109 : decode cX12_drawn 109 = .ok (.iadd, 1) := by decide +kernel
theorem dX12_drawn_110 : decode cX12_drawn 110 = .ok (.istore 5, 2) := by decide +kernel
theorem dX12_drawn_112 : decode cX12_drawn 112 = .ok (.aload_n 0, 1) := by decide +kernel
theorem dX12_drawn_113 : decode cX12_drawn 113 = .ok (.getfield 258, 3) := by decide +kernel
theorem dX12_drawn_116 : decode cX12_drawn 116 = .ok (.iconst 2, 1) := by decide +kernel
theorem dX12_drawn_117 : decode cX12_drawn 117 = .ok (.if_icmp .ne 6, 3) := by decide +kernel
theorem dX12_drawn_120 : decode cX12_drawn 120 = .ok (.iinc 6 1, 3) := by decide +kernel
theorem dX12_drawn_123 : decode cX12_drawn 123 = .ok (.iinc 7 1, 3) := by decide +kernel
theorem dX12_drawn_126 : decode cX12_drawn 126 = .ok (.goto (-93), 3) := by decide +kernel
theorem dX12_drawn_129 : decode cX12_drawn 129 = .ok (.iload_n 3, 1) := by decide +kernel
theorem dX12_drawn_130 : decode cX12_drawn 130 = .ok (.ifCond .ne 8, 3) := by decide +kernel
theorem dX12_drawn_133 : decode cX12_drawn 133 = .ok (.iload 5, 2) := by decide +kernel
theorem dX12_drawn_135 : decode cX12_drawn 135 = .ok (.goto 5, 3) := by decide +kernel
theorem dX12_drawn_138 : decode cX12_drawn 138 = .ok (.iload 6, 2) := by decide +kernel
theorem dX12_drawn_140 : decode cX12_drawn 140 = .ok (.ireturn, 1) := by decide +kernel
theorem dX12_go_0 : decode cX12_go 0 = .ok (.iload_n 1, 1) := by decide +kernel
theorem dX12_go_1 : decode cX12_go 1 = .ok (.invokestatic 143, 3) := by decide +kernel
theorem dX12_go_4 : decode cX12_go 4 = .ok (.ifCond .ne 5, 3) := by decide +kernel
theorem dX12_go_7 : decode cX12_go 7 = .ok (.iconst (-1), 1) := by decide +kernel
theorem dX12_go_8 : decode cX12_go 8 = .ok (.ireturn, 1) := by decide +kernel
theorem dX12_go_9 : decode cX12_go 9 = .ok (.aload_n 0, 1) := by decide +kernel
theorem dX12_go_10 : decode cX12_go 10 = .ok (.iload_n 1, 1) := by decide +kernel
theorem dX12_go_11 : decode cX12_go 11 = .ok (.invokevirtual 316, 3) := by decide +kernel
theorem dX12_go_14 : decode cX12_go 14 = .ok (.ifCond .ge 9, 3) := by decide +kernel
theorem dX12_go_17 : decode cX12_go 17 = .ok (.aload_n 0, 1) := by decide +kernel
theorem dX12_go_18 : decode cX12_go 18 = .ok (.iload_n 1, 1) := by decide +kernel
theorem dX12_go_19 : decode cX12_go 19 = .ok (.invokevirtual 316, 3) := by decide +kernel
theorem dX12_go_22 : decode cX12_go 22 = .ok (.ireturn, 1) := by decide +kernel
theorem dX12_go_23 : decode cX12_go 23 = .ok (.aload_n 0, 1) := by decide +kernel
theorem dX12_go_24 : decode cX12_go 24 = .ok (.iload_n 1, 1) := by decide +kernel
theorem dX12_go_25 : decode cX12_go 25 = .ok (.bipush 60, 2) := by decide +kernel
theorem dX12_go_27 : decode cX12_go 27 = .ok (.invokevirtual 319, 3) := by decide +kernel
theorem dX12_go_30 : decode cX12_go 30 = .ok (.aload_n 0, 1) := by decide +kernel
theorem dX12_go_31 : decode cX12_go 31 = .ok (.invokevirtual 325, 3) := by decide +kernel
theorem dX12_go_34 : decode cX12_go 34 = .ok (.istore_n 2, 1) := by decide +kernel
theorem dX12_go_35 : decode cX12_go 35 = .ok (.aload_n 0, 1) := by decide +kernel
theorem dX12_go_36 : decode cX12_go 36 = .ok (.getfield 93, 3) := by decide +kernel
theorem dX12_go_39 : decode cX12_go 39 = .ok (.iconst 0, 1) := by decide +kernel
theorem dX12_go_40 : decode cX12_go 40 = .ok (.dup2, 1) := by decide +kernel
theorem dX12_go_41 : decode cX12_go 41 = .ok (.iaload, 1) := by decide +kernel
theorem dX12_go_42 : decode cX12_go 42 = .ok (.iconst 1, 1) := by decide +kernel
theorem dX12_go_43 : decode cX12_go 43 = .ok (.iadd, 1) := by decide +kernel
theorem dX12_go_44 : decode cX12_go 44 = .ok (.iastore, 1) := by decide +kernel
theorem dX12_go_45 : decode cX12_go 45 = .ok (.aload_n 0, 1) := by decide +kernel
theorem dX12_go_46 : decode cX12_go 46 = .ok (.getfield 93, 3) := by decide +kernel
theorem dX12_go_49 : decode cX12_go 49 = .ok (.iconst 1, 1) := by decide +kernel
theorem dX12_go_50 : decode cX12_go 50 = .ok (.dup2, 1) := by decide +kernel
theorem dX12_go_51 : decode cX12_go 51 = .ok (.iaload, 1) := by decide +kernel
theorem dX12_go_52 : decode cX12_go 52 = .ok (.aload_n 0, 1) := by decide +kernel
theorem dX12_go_53 : decode cX12_go 53 = .ok (.invokevirtual 322, 3) := by decide +kernel
theorem dX12_go_56 : decode cX12_go 56 = .ok (.iadd, 1) := by decide +kernel
theorem dX12_go_57 : decode cX12_go 57 = .ok (.iastore, 1) := by decide +kernel
theorem dX12_go_58 : decode cX12_go 58 = .ok (.aload_n 0, 1) := by decide +kernel
theorem dX12_go_59 : decode cX12_go 59 = .ok (.getfield 93, 3) := by decide +kernel
theorem dX12_go_62 : decode cX12_go 62 = .ok (.iconst 2, 1) := by decide +kernel
theorem dX12_go_63 : decode cX12_go 63 = .ok (.dup2, 1) := by decide +kernel
theorem dX12_go_64 : decode cX12_go 64 = .ok (.iaload, 1) := by decide +kernel
theorem dX12_go_65 : decode cX12_go 65 = .ok (.iload_n 2, 1) := by decide +kernel
theorem dX12_go_66 : decode cX12_go 66 = .ok (.iadd, 1) := by decide +kernel
theorem dX12_go_67 : decode cX12_go 67 = .ok (.iastore, 1) := by decide +kernel
theorem dX12_go_68 : decode cX12_go 68 = .ok (.aload_n 0, 1) := by decide +kernel
theorem dX12_go_69 : decode cX12_go 69 = .ok (.getfield 93, 3) := by decide +kernel
theorem dX12_go_72 : decode cX12_go 72 = .ok (.iconst 3, 1) := by decide +kernel
theorem dX12_go_73 : decode cX12_go 73 = .ok (.dup2, 1) := by decide +kernel
theorem dX12_go_74 : decode cX12_go 74 = .ok (.iaload, 1) := by decide +kernel
theorem dX12_go_75 : decode cX12_go 75 = .ok (.aload_n 0, 1) := by decide +kernel
theorem dX12_go_76 : decode cX12_go 76 = .ok (.getfield 255, 3) := by decide +kernel
theorem dX12_go_79 : decode cX12_go 79 = .ok (.iadd, 1) := by decide +kernel
theorem dX12_go_80 : decode cX12_go 80 = .ok (.iastore, 1) := by decide +kernel
theorem dX12_go_81 : decode cX12_go 81 = .ok (.aload_n 0, 1) := by decide +kernel
theorem dX12_go_82 : decode cX12_go 82 = .ok (.getfield 258, 3) := by decide +kernel
theorem dX12_go_85 : decode cX12_go 85 = .ok (.iconst 2, 1) := by decide +kernel
theorem dX12_go_86 : decode cX12_go 86 = .ok (.if_icmp .ne 13, 3) := by decide +kernel
theorem dX12_go_89 : decode cX12_go 89 = .ok (.aload_n 0, 1) := by decide +kernel
theorem dX12_go_90 : decode cX12_go 90 = .ok (.getfield 93, 3) := by decide +kernel
theorem dX12_go_93 : decode cX12_go 93 = .ok (.iconst 4, 1) := by decide +kernel
theorem dX12_go_94 : decode cX12_go 94 = .ok (.dup2, 1) := by decide +kernel
theorem dX12_go_95 : decode cX12_go 95 = .ok (.iaload, 1) := by decide +kernel
theorem dX12_go_96 : decode cX12_go 96 = .ok (.iconst 1, 1) := by decide +kernel
theorem dX12_go_97 : decode cX12_go 97 = .ok (.iadd, 1) := by decide +kernel
theorem dX12_go_98 : decode cX12_go 98 = .ok (.iastore, 1) := by decide +kernel
theorem dX12_go_99 : decode cX12_go 99 = .ok (.iconst 0, 1) := by decide +kernel
theorem dX12_go_100 : decode cX12_go 100 = .ok (.istore_n 3, 1) := by decide +kernel
theorem dX12_go_101 : decode cX12_go 101 = .ok (.iload_n 3, 1) := by decide +kernel
theorem dX12_go_102 : decode cX12_go 102 = .ok (.aload_n 0, 1) := by decide +kernel
theorem dX12_go_103 : decode cX12_go 103 = .ok (.getfield 125, 3) := by decide +kernel
theorem dX12_go_106 : decode cX12_go 106 = .ok (.if_icmp .ge 36, 3) := by decide +kernel
theorem dX12_go_109 : decode cX12_go 109 = .ok (.aload_n 0, 1) := by decide +kernel
theorem dX12_go_110 : decode cX12_go 110 = .ok (.getfield 258, 3) := by decide +kernel
theorem dX12_go_113 : decode cX12_go 113 = .ok (.iconst 1, 1) := by decide +kernel
theorem dX12_go_114 : decode cX12_go 114 = .ok (.if_icmp .ne 28, 3) := by decide +kernel
theorem dX12_go_117 : decode cX12_go 117 = .ok (.aload_n 0, 1) := by decide +kernel
theorem dX12_go_118 : decode cX12_go 118 = .ok (.getfield 261, 3) := by decide +kernel
theorem dX12_go_121 : decode cX12_go 121 = .ok (.iload_n 3, 1) := by decide +kernel
theorem dX12_go_122 : decode cX12_go 122 = .ok (.ishr, 1) := by decide +kernel
theorem dX12_go_123 : decode cX12_go 123 = .ok (.iconst 1, 1) := by decide +kernel
theorem dX12_go_124 : decode cX12_go 124 = .ok (.iand, 1) := by decide +kernel
theorem dX12_go_125 : decode cX12_go 125 = .ok (.iconst 1, 1) := by decide +kernel
theorem dX12_go_126 : decode cX12_go 126 = .ok (.if_icmp .ne 10, 3) := by decide +kernel
theorem dX12_go_129 : decode cX12_go 129 = .ok (.aload_n 0, 1) := by decide +kernel
theorem dX12_go_130 : decode cX12_go 130 = .ok (.getfield 19, 3) := by decide +kernel
theorem dX12_go_133 : decode cX12_go 133 = .ok (.iload_n 3, 1) := by decide +kernel
theorem dX12_go_134 : decode cX12_go 134 = .ok (.iconst 0, 1) := by decide +kernel
theorem dX12_go_135 : decode cX12_go 135 = .ok (.iastore, 1) := by decide +kernel
theorem dX12_go_136 : decode cX12_go 136 = .ok (.iinc 3 1, 3) := by decide +kernel
theorem dX12_go_139 : decode cX12_go 139 = .ok (.goto (-38), 3) := by decide +kernel
theorem dX12_go_142 : decode cX12_go 142 = .ok (.iconst 0, 1) := by decide +kernel
theorem dX12_go_143 : decode cX12_go 143 = .ok (.istore_n 3, 1) := by decide +kernel
theorem dX12_go_144 : decode cX12_go 144 = .ok (.iload_n 3, 1) := by decide +kernel
theorem dX12_go_145 : decode cX12_go 145 = .ok (.aload_n 0, 1) := by decide +kernel
theorem dX12_go_146 : decode cX12_go 146 = .ok (.getfield 125, 3) := by decide +kernel
theorem dX12_go_149 : decode cX12_go 149 = .ok (.if_icmp .ge 36, 3) := by decide +kernel
theorem dX12_go_152 : decode cX12_go 152 = .ok (.iload_n 2, 1) := by decide +kernel
theorem dX12_go_153 : decode cX12_go 153 = .ok (.ifCond .le 32, 3) := by decide +kernel
theorem dX12_go_156 : decode cX12_go 156 = .ok (.aload_n 0, 1) := by decide +kernel
theorem dX12_go_157 : decode cX12_go 157 = .ok (.getfield 19, 3) := by decide +kernel
theorem dX12_go_160 : decode cX12_go 160 = .ok (.iload_n 3, 1) := by decide +kernel
theorem dX12_go_161 : decode cX12_go 161 = .ok (.iaload, 1) := by decide +kernel
theorem dX12_go_162 : decode cX12_go 162 = .ok (.iconst 1, 1) := by decide +kernel
theorem dX12_go_163 : decode cX12_go 163 = .ok (.if_icmp .ne 6, 3) := by decide +kernel
theorem dX12_go_166 : decode cX12_go 166 = .ok (.goto 13, 3) := by decide +kernel
theorem dX12_go_169 : decode cX12_go 169 = .ok (.aload_n 0, 1) := by decide +kernel
theorem dX12_go_170 : decode cX12_go 170 = .ok (.getfield 19, 3) := by decide +kernel
theorem dX12_go_173 : decode cX12_go 173 = .ok (.iload_n 3, 1) := by decide +kernel
theorem dX12_go_174 : decode cX12_go 174 = .ok (.iconst 1, 1) := by decide +kernel
theorem dX12_go_175 : decode cX12_go 175 = .ok (.iastore, 1) := by decide +kernel
theorem dX12_go_176 : decode cX12_go 176 = .ok (.iinc 2 (-1), 3) := by decide +kernel
theorem dX12_go_179 : decode cX12_go 179 = .ok (.iinc 3 1, 3) := by decide +kernel
theorem dX12_go_182 : decode cX12_go 182 = .ok (.goto (-38), 3) := by decide +kernel
theorem dX12_go_185 : decode cX12_go 185 = .ok (.aload_n 0, 1) := by decide +kernel
theorem dX12_go_186 : decode cX12_go 186 = .ok (.getfield 258, 3) := by decide +kernel
theorem dX12_go_189 : decode cX12_go 189 = .ok (.ireturn, 1) := by decide +kernel
theorem dX12_allIn_0 : decode cX12_allIn 0 = .ok (.iconst 0, 1) := by decide +kernel
theorem dX12_allIn_1 : decode cX12_allIn 1 = .ok (.istore_n 1, 1) := by decide +kernel
theorem dX12_allIn_2 : decode cX12_allIn 2 = .ok (.iconst 0, 1) := by decide +kernel
theorem dX12_allIn_3 : decode cX12_allIn 3 = .ok (.istore_n 2, 1) := by decide +kernel
theorem dX12_allIn_4 : decode cX12_allIn 4 = .ok (.iload_n 2, 1) := by decide +kernel
theorem dX12_allIn_5 : decode cX12_allIn 5 = .ok (.aload_n 0, 1) := by decide +kernel
theorem dX12_allIn_6 : decode cX12_allIn 6 = .ok (.getfield 125, 3) := by decide +kernel
theorem dX12_allIn_9 : decode cX12_allIn 9 = .ok (.if_icmp .ge 27, 3) := by decide +kernel
theorem dX12_allIn_12 : decode cX12_allIn 12 = .ok (.iload_n 1, 1) := by decide +kernel
theorem dX12_allIn_13 : decode cX12_allIn 13 = .ok (.iconst 1, 1) := by decide +kernel
theorem dX12_allIn_14 : decode cX12_allIn 14 = .ok (.aload_n 0, 1) := by decide +kernel
theorem dX12_allIn_15 : decode cX12_allIn 15 = .ok (.getfield 19, 3) := by decide +kernel
theorem dX12_allIn_18 : decode cX12_allIn 18 = .ok (.iload_n 2, 1) := by decide +kernel
theorem dX12_allIn_19 : decode cX12_allIn 19 = .ok (.iaload, 1) := by decide +kernel
theorem dX12_allIn_20 : decode cX12_allIn 20 = .ok (.isub, 1) := by decide +kernel
theorem dX12_allIn_21 : decode cX12_allIn 21 = .ok (.iadd, 1) := by decide +kernel
theorem dX12_allIn_22 : decode cX12_allIn 22 = .ok (.istore_n 1, 1) := by decide +kernel
theorem dX12_allIn_23 : decode cX12_allIn 23 = .ok (.aload_n 0, 1) := by decide +kernel
theorem dX12_allIn_24 : decode cX12_allIn 24 = .ok (.getfield 19, 3) := by decide +kernel
theorem dX12_allIn_27 : decode cX12_allIn 27 = .ok (.iload_n 2, 1) := by decide +kernel
theorem dX12_allIn_28 : decode cX12_allIn 28 = .ok (.iconst 1, 1) := by decide +kernel
theorem dX12_allIn_29 : decode cX12_allIn 29 = .ok (.iastore, 1) := by decide +kernel
theorem dX12_allIn_30 : decode cX12_allIn 30 = .ok (.iinc 2 1, 3) := by decide +kernel
theorem dX12_allIn_33 : decode cX12_allIn 33 = .ok (.goto (-29), 3) := by decide +kernel
theorem dX12_allIn_36 : decode cX12_allIn 36 = .ok (.iload_n 1, 1) := by decide +kernel
theorem dX12_allIn_37 : decode cX12_allIn 37 = .ok (.ireturn, 1) := by decide +kernel
theorem dX12_led_0 : decode cX12_led 0 = .ok (.iload_n 1, 1) := by decide +kernel
theorem dX12_led_1 : decode cX12_led 1 = .ok (.iconst 0, 1) := by decide +kernel
theorem dX12_led_2 : decode cX12_led 2 = .ok (.iconst 4, 1) := by decide +kernel
theorem dX12_led_3 : decode cX12_led 3 = .ok (.invokestatic 128, 3) := by decide +kernel
theorem dX12_led_6 : decode cX12_led 6 = .ok (.ifCond .eq 12, 3) := by decide +kernel
theorem dX12_led_9 : decode cX12_led 9 = .ok (.aload_n 0, 1) := by decide +kernel
theorem dX12_led_10 : decode cX12_led 10 = .ok (.getfield 93, 3) := by decide +kernel
theorem dX12_led_13 : decode cX12_led 13 = .ok (.iload_n 1, 1) := by decide +kernel
theorem dX12_led_14 : decode cX12_led 14 = .ok (.iaload, 1) := by decide +kernel
theorem dX12_led_15 : decode cX12_led 15 = .ok (.goto 4, 3) := by decide +kernel
theorem dX12_led_18 : decode cX12_led 18 = .ok (.iconst (-1), 1) := by decide +kernel
theorem dX12_led_19 : decode cX12_led 19 = .ok (.ireturn, 1) := by decide +kernel
theorem dX12_image_0 : decode cX12_image 0 = .ok (.aload_n 0, 1) := by decide +kernel
theorem dX12_image_1 : decode cX12_image 1 = .ok (.iconst 1, 1) := by decide +kernel
theorem dX12_image_2 : decode cX12_image 2 = .ok (.putfield 412, 3) := by decide +kernel
theorem dX12_image_5 : decode cX12_image 5 = .ok (.aload_n 0, 1) := by decide +kernel
theorem dX12_image_6 : decode cX12_image 6 = .ok (.aload_n 0, 1) := by decide +kernel
theorem dX12_image_7 : decode cX12_image 7 = .ok (.getfield 125, 3) := by decide +kernel
theorem dX12_image_10 : decode cX12_image 10 = .ok (.putfield 415, 3) := by decide +kernel
theorem dX12_image_13 : decode cX12_image 13 = .ok (.iconst 0, 1) := by decide +kernel
theorem dX12_image_14 : decode cX12_image 14 = .ok (.istore_n 1, 1) := by decide +kernel
theorem dX12_image_15 : decode cX12_image 15 = .ok (.iload_n 1, 1) := by decide +kernel
theorem dX12_image_16 : decode cX12_image 16 = .ok (.aload_n 0, 1) := by decide +kernel
theorem dX12_image_17 : decode cX12_image 17 = .ok (.getfield 125, 3) := by decide +kernel
theorem dX12_image_20 : decode cX12_image 20 = .ok (.if_icmp .ge 21, 3) := by decide +kernel
theorem dX12_image_23 : decode cX12_image 23 = .ok (.aload_n 0, 1) := by decide +kernel
theorem dX12_image_24 : decode cX12_image 24 = .ok (.getfield 96, 3) := by decide +kernel
theorem dX12_image_27 : decode cX12_image 27 = .ok (.iload_n 1, 1) := by decide +kernel
theorem dX12_image_28 : decode cX12_image 28 = .ok (.aload_n 0, 1) := by decide +kernel
theorem dX12_image_29 : decode cX12_image 29 = .ok (.getfield 19, 3) := by decide +kernel
theorem dX12_image_32 : decode cX12_image 32 = .ok (.iload_n 1, 1) := by decide +kernel
theorem dX12_image_33 : decode cX12_image 33 = .ok (.iaload, 1) := by decide +kernel
theorem dX12_image_34 : decode cX12_image 34 = .ok (.iastore, 1) := by decide +kernel
theorem dX12_image_35 : decode cX12_image 35 = .ok (.iinc 1 1, 3) := by decide +kernel
theorem dX12_image_38 : decode cX12_image 38 = .ok (.goto (-23), 3) := by decide +kernel
theorem dX12_image_41 : decode cX12_image 41 = .ok (.iconst 0, 1) := by decide +kernel
theorem dX12_image_42 : decode cX12_image 42 = .ok (.istore_n 1, 1) := by decide +kernel
theorem dX12_image_43 : decode cX12_image 43 = .ok (.iload_n 1, 1) := by decide +kernel
theorem dX12_image_44 : decode cX12_image 44 = .ok (.iconst 5, 1) := by decide +kernel
theorem dX12_image_45 : decode cX12_image 45 = .ok (.if_icmp .ge 21, 3) := by decide +kernel
theorem dX12_image_48 : decode cX12_image 48 = .ok (.aload_n 0, 1) := by decide +kernel
theorem dX12_image_49 : decode cX12_image 49 = .ok (.getfield 99, 3) := by decide +kernel
theorem dX12_image_52 : decode cX12_image 52 = .ok (.iload_n 1, 1) := by decide +kernel
theorem dX12_image_53 : decode cX12_image 53 = .ok (.aload_n 0, 1) := by decide +kernel
theorem dX12_image_54 : decode cX12_image 54 = .ok (.getfield 93, 3) := by decide +kernel
theorem dX12_image_57 : decode cX12_image 57 = .ok (.iload_n 1, 1) := by decide +kernel
theorem dX12_image_58 : decode cX12_image 58 = .ok (.iaload, 1) := by decide +kernel
theorem dX12_image_59 : decode cX12_image 59 = .ok (.iastore, 1) := by decide +kernel
theorem dX12_image_60 : decode cX12_image 60 = .ok (.iinc 1 1, 3) := by decide +kernel
theorem dX12_image_63 : decode cX12_image 63 = .ok (.goto (-20), 3) := by decide +kernel
theorem dX12_image_66 : decode cX12_image 66 = .ok (.aload_n 0, 1) := by decide +kernel
theorem dX12_image_67 : decode cX12_image 67 = .ok (.getfield 93, 3) := by decide +kernel
theorem dX12_image_70 : decode cX12_image 70 = .ok (.iconst 0, 1) := by decide +kernel
theorem dX12_image_71 : decode cX12_image 71 = .ok (.iaload, 1) := by decide +kernel
theorem dX12_image_72 : decode cX12_image 72 = .ok (.ireturn, 1) := by decide +kernel
theorem dX12_back_0 : decode cX12_back 0 = .ok (.aload_n 0, 1) := by decide +kernel
theorem dX12_back_1 : decode cX12_back 1 = .ok (.getfield 412, 3) := by decide +kernel
theorem dX12_back_4 : decode cX12_back 4 = .ok (.ifCond .ne 6, 3) := by decide +kernel
theorem dX12_back_7 : decode cX12_back 7 = .ok (.bipush (-5), 2) := by decide +kernel
theorem dX12_back_9 : decode cX12_back 9 = .ok (.ireturn, 1) := by decide +kernel
theorem dX12_back_10 : decode cX12_back 10 = .ok (.iconst 0, 1) := by decide +kernel
theorem dX12_back_11 : decode cX12_back 11 = .ok (.istore_n 1, 1) := by decide +kernel
theorem dX12_back_12 : decode cX12_back 12 = .ok (.iload_n 1, 1) := by decide +kernel
theorem dX12_back_13 : decode cX12_back 13 = .ok (.aload_n 0, 1) := by decide +kernel
theorem dX12_back_14 : decode cX12_back 14 = .ok (.getfield 415, 3) := by decide +kernel
theorem dX12_back_17 : decode cX12_back 17 = .ok (.if_icmp .ge 21, 3) := by decide +kernel
theorem dX12_back_20 : decode cX12_back 20 = .ok (.aload_n 0, 1) := by decide +kernel
theorem dX12_back_21 : decode cX12_back 21 = .ok (.getfield 19, 3) := by decide +kernel
theorem dX12_back_24 : decode cX12_back 24 = .ok (.iload_n 1, 1) := by decide +kernel
theorem dX12_back_25 : decode cX12_back 25 = .ok (.aload_n 0, 1) := by decide +kernel
theorem dX12_back_26 : decode cX12_back 26 = .ok (.getfield 96, 3) := by decide +kernel
theorem dX12_back_29 : decode cX12_back 29 = .ok (.iload_n 1, 1) := by decide +kernel
theorem dX12_back_30 : decode cX12_back 30 = .ok (.iaload, 1) := by decide +kernel
theorem dX12_back_31 : decode cX12_back 31 = .ok (.iastore, 1) := by decide +kernel
theorem dX12_back_32 : decode cX12_back 32 = .ok (.iinc 1 1, 3) := by decide +kernel
theorem dX12_back_35 : decode cX12_back 35 = .ok (.goto (-23), 3) := by decide +kernel
theorem dX12_back_38 : decode cX12_back 38 = .ok (.iconst 0, 1) := by decide +kernel
theorem dX12_back_39 : decode cX12_back 39 = .ok (.istore_n 1, 1) := by decide +kernel
theorem dX12_back_40 : decode cX12_back 40 = .ok (.iload_n 1, 1) := by decide +kernel
theorem dX12_back_41 : decode cX12_back 41 = .ok (.iconst 5, 1) := by decide +kernel
theorem dX12_back_42 : decode cX12_back 42 = .ok (.if_icmp .ge 21, 3) := by decide +kernel
theorem dX12_back_45 : decode cX12_back 45 = .ok (.aload_n 0, 1) := by decide +kernel
theorem dX12_back_46 : decode cX12_back 46 = .ok (.getfield 93, 3) := by decide +kernel
theorem dX12_back_49 : decode cX12_back 49 = .ok (.iload_n 1, 1) := by decide +kernel
theorem dX12_back_50 : decode cX12_back 50 = .ok (.aload_n 0, 1) := by decide +kernel
theorem dX12_back_51 : decode cX12_back 51 = .ok (.getfield 99, 3) := by decide +kernel
theorem dX12_back_54 : decode cX12_back 54 = .ok (.iload_n 1, 1) := by decide +kernel
theorem dX12_back_55 : decode cX12_back 55 = .ok (.iaload, 1) := by decide +kernel
theorem dX12_back_56 : decode cX12_back 56 = .ok (.iastore, 1) := by decide +kernel
theorem dX12_back_57 : decode cX12_back 57 = .ok (.iinc 1 1, 3) := by decide +kernel
theorem dX12_back_60 : decode cX12_back 60 = .ok (.goto (-20), 3) := by decide +kernel
theorem dX12_back_63 : decode cX12_back 63 = .ok (.aload_n 0, 1) := by decide +kernel
theorem dX12_back_64 : decode cX12_back 64 = .ok (.getfield 93, 3) := by decide +kernel
theorem dX12_back_67 : decode cX12_back 67 = .ok (.iconst 0, 1) := by decide +kernel
theorem dX12_back_68 : decode cX12_back 68 = .ok (.iaload, 1) := by decide +kernel
theorem dX12_back_69 : decode cX12_back 69 = .ok (.ireturn, 1) := by decide +kernel
theorem dX12_isBody_0 : decode cX12_isBody 0 = .ok (.iload_n 1, 1) := by decide +kernel
theorem dX12_isBody_1 : decode cX12_isBody 1 = .ok (.iconst 0, 1) := by decide +kernel
theorem dX12_isBody_2 : decode cX12_isBody 2 = .ok (.aload_n 0, 1) := by decide +kernel
theorem dX12_isBody_3 : decode cX12_isBody 3 = .ok (.getfield 418, 3) := by decide +kernel
theorem dX12_isBody_6 : decode cX12_isBody 6 = .ok (.iconst 1, 1) := by decide +kernel
theorem dX12_isBody_7 : decode cX12_isBody 7 = .ok (.isub, 1) := by decide +kernel
theorem dX12_isBody_8 : decode cX12_isBody 8 = .ok (.invokestatic 128, 3) := by decide +kernel
theorem dX12_isBody_11 : decode cX12_isBody 11 = .ok (.ireturn, 1) := by decide +kernel
theorem dX12_ran_0 : decode cX12_ran 0 = .ok (.aload_n 0, 1) := by decide +kernel
theorem dX12_ran_1 : decode cX12_ran 1 = .ok (.getfield 421, 3) := by decide +kernel
theorem dX12_ran_4 : decode cX12_ran 4 = .ok (.bipush 24, 2) := by decide +kernel
theorem dX12_ran_6 : decode cX12_ran 6 = .ok (.if_icmp .ge 13, 3) := by decide +kernel
theorem dX12_ran_9 : decode cX12_ran 9 = .ok (.aload_n 0, 1) := by decide +kernel
theorem dX12_ran_10 : decode cX12_ran 10 = .ok (.getfield 105, 3) := by decide +kernel
theorem dX12_ran_13 : decode cX12_ran 13 = .ok (.aload_n 0, 1) := by decide +kernel
theorem dX12_ran_14 : decode cX12_ran 14 = .ok (.getfield 421, 3) := by decide +kernel
theorem dX12_ran_17 : decode cX12_ran 17 = .ok (.iload_n 1, 1) := by decide +kernel
theorem dX12_ran_18 : decode cX12_ran 18 = .ok (.iastore, 1) := by decide +kernel
theorem dX12_ran_19 : decode cX12_ran 19 = .ok (.aload_n 0, 1) := by decide +kernel
theorem dX12_ran_20 : decode cX12_ran 20 = .ok (.dup, 1) := by decide +kernel
theorem dX12_ran_21 : decode cX12_ran 21 = .ok (.getfield 421, 3) := by decide +kernel
theorem dX12_ran_24 : decode cX12_ran 24 = .ok (.iconst 1, 1) := by decide +kernel
theorem dX12_ran_25 : decode cX12_ran 25 = .ok (.iadd, 1) := by decide +kernel
theorem dX12_ran_26 : decode cX12_ran 26 = .ok (.putfield 421, 3) := by decide +kernel
theorem dX12_ran_29 : decode cX12_ran 29 = .ok (.return_, 1) := by decide +kernel
theorem dX12_trace_0 : decode cX12_trace 0 = .ok (.iload_n 1, 1) := by decide +kernel
theorem dX12_trace_1 : decode cX12_trace 1 = .ok (.ifCond .lt 26, 3) := by decide +kernel
theorem dX12_trace_4 : decode cX12_trace 4 = .ok (.iload_n 1, 1) := by decide +kernel
theorem dX12_trace_5 : decode cX12_trace 5 = .ok (.aload_n 0, 1) := by decide +kernel
theorem dX12_trace_6 : decode cX12_trace 6 = .ok (.getfield 421, 3) := by decide +kernel
theorem dX12_trace_9 : decode cX12_trace 9 = .ok (.if_icmp .ge 18, 3) := by decide +kernel
theorem dX12_trace_12 : decode cX12_trace 12 = .ok (.iload_n 1, 1) := by decide +kernel
theorem dX12_trace_13 : decode cX12_trace 13 = .ok (.bipush 24, 2) := by decide +kernel
theorem dX12_trace_15 : decode cX12_trace 15 = .ok (.if_icmp .ge 12, 3) := by decide +kernel
theorem dX12_trace_18 : decode cX12_trace 18 = .ok (.aload_n 0, 1) := by decide +kernel
theorem dX12_trace_19 : decode cX12_trace 19 = .ok (.getfield 105, 3) := by decide +kernel
theorem dX12_trace_22 : decode cX12_trace 22 = .ok (.iload_n 1, 1) := by decide +kernel
theorem dX12_trace_23 : decode cX12_trace 23 = .ok (.iaload, 1) := by decide +kernel
theorem dX12_trace_24 : decode cX12_trace 24 = .ok (.goto 4, 3) := by decide +kernel
theorem dX12_trace_27 : decode cX12_trace 27 = .ok (.iconst (-1), 1) := by decide +kernel
theorem dX12_trace_28 : decode cX12_trace 28 = .ok (.ireturn, 1) := by decide +kernel
theorem dX12_body_0 : decode cX12_body 0 = .ok (.iload_n 1, 1) := by decide +kernel
theorem dX12_body_1 : decode cX12_body 1 = .ok (.iconst 0, 1) := by decide +kernel
theorem dX12_body_2 : decode cX12_body 2 = .ok (.bipush 7, 2) := by decide +kernel
theorem dX12_body_4 : decode cX12_body 4 = .ok (.invokestatic 128, 3) := by decide +kernel
theorem dX12_body_7 : decode cX12_body 7 = .ok (.ifCond .ne 5, 3) := by decide +kernel
theorem dX12_body_10 : decode cX12_body 10 = .ok (.iconst (-1), 1) := by decide +kernel
theorem dX12_body_11 : decode cX12_body 11 = .ok (.ireturn, 1) := by decide +kernel
theorem dX12_body_12 : decode cX12_body 12 = .ok (.aload_n 0, 1) := by decide +kernel
theorem dX12_body_13 : decode cX12_body 13 = .ok (.getfield 418, 3) := by decide +kernel
theorem dX12_body_16 : decode cX12_body 16 = .ok (.bipush 50, 2) := by decide +kernel
theorem dX12_body_18 : decode cX12_body 18 = .ok (.if_icmp .ne 6, 3) := by decide +kernel
theorem dX12_body_21 : decode cX12_body 21 = .ok (.bipush (-3), 2) := by decide +kernel
theorem dX12_body_23 : decode cX12_body 23 = .ok (.ireturn, 1) := by decide +kernel
theorem dX12_body_24 : decode cX12_body 24 = .ok (.aload_n 0, 1) := by decide +kernel
theorem dX12_body_25 : decode cX12_body 25 = .ok (.getfield 102, 3) := by decide +kernel
theorem dX12_body_28 : decode cX12_body 28 = .ok (.aload_n 0, 1) := by decide +kernel
theorem dX12_body_29 : decode cX12_body 29 = .ok (.getfield 418, 3) := by decide +kernel
theorem dX12_body_32 : decode cX12_body 32 = .ok (.iload_n 1, 1) := by decide +kernel
theorem dX12_body_33 : decode cX12_body 33 = .ok (.iastore, 1) := by decide +kernel
theorem dX12_body_34 : decode cX12_body 34 = .ok (.aload_n 0, 1) := by decide +kernel
theorem dX12_body_35 : decode cX12_body 35 = .ok (.dup, 1) := by decide +kernel
theorem dX12_body_36 : decode cX12_body 36 = .ok (.getfield 418, 3) := by decide +kernel
theorem dX12_body_39 : decode cX12_body 39 = .ok (.iconst 1, 1) := by decide +kernel
theorem dX12_body_40 : decode cX12_body 40 = .ok (.iadd, 1) := by decide +kernel
theorem dX12_body_41 : decode cX12_body 41 = .ok (.putfield 418, 3) := by decide +kernel
theorem dX12_body_44 : decode cX12_body 44 = .ok (.aload_n 0, 1) := by decide +kernel
theorem dX12_body_45 : decode cX12_body 45 = .ok (.getfield 418, 3) := by decide +kernel
theorem dX12_body_48 : decode cX12_body 48 = .ok (.iconst 1, 1) := by decide +kernel
theorem dX12_body_49 : decode cX12_body 49 = .ok (.isub, 1) := by decide +kernel
theorem dX12_body_50 : decode cX12_body 50 = .ok (.ireturn, 1) := by decide +kernel
theorem dX12_isUnder_0 : decode cX12_isUnder 0 = .ok (.iload_n 1, 1) := by decide +kernel
theorem dX12_isUnder_1 : decode cX12_isUnder 1 = .ok (.ifCond .eq 55, 3) := by decide +kernel
theorem dX12_isUnder_4 : decode cX12_isUnder 4 = .ok (.iload_n 0, 1) := by decide +kernel
theorem dX12_isUnder_5 : decode cX12_isUnder 5 = .ok (.iload_n 1, 1) := by decide +kernel
theorem dX12_isUnder_6 : decode cX12_isUnder 6 = .ok (.if_icmp .eq 50, 3) := by decide +kernel
theorem dX12_isUnder_9 : decode cX12_isUnder 9 = .ok (.iload_n 1, 1) := by decide +kernel
theorem dX12_isUnder_10 : decode cX12_isUnder 10 = .ok (.iconst 1, 1) := by decide +kernel
theorem dX12_isUnder_11 : decode cX12_isUnder 11 = .ok (.if_icmp .ne 8, 3) := by decide +kernel
theorem dX12_isUnder_14 : decode cX12_isUnder 14 = .ok (.iload_n 0, 1) := by decide +kernel
theorem dX12_isUnder_15 : decode cX12_isUnder 15 = .ok (.iconst 4, 1) := by decide +kernel
theorem dX12_isUnder_16 : decode cX12_isUnder 16 = .ok (.if_icmp .eq 40, 3) := by decide +kernel
theorem dX12_isUnder_19 : decode cX12_isUnder 19 = .ok (.iload_n 1, 1) := by decide +kernel
theorem dX12_isUnder_20 : decode cX12_isUnder 20 = .ok (.iconst 2, 1) := by decide +kernel
theorem dX12_isUnder_21 : decode cX12_isUnder 21 = .ok (.if_icmp .ne 13, 3) := by decide +kernel
theorem dX12_isUnder_24 : decode cX12_isUnder 24 = .ok (.iload_n 0, 1) := by decide +kernel
theorem dX12_isUnder_25 : decode cX12_isUnder 25 = .ok (.iconst 3, 1) := by decide +kernel
theorem dX12_isUnder_26 : decode cX12_isUnder 26 = .ok (.if_icmp .eq 30, 3) := by decide +kernel
theorem dX12_isUnder_29 : decode cX12_isUnder 29 = .ok (.iload_n 0, 1) := by decide +kernel
theorem dX12_isUnder_30 : decode cX12_isUnder 30 = .ok (.iconst 5, 1) := by decide +kernel
theorem dX12_isUnder_31 : decode cX12_isUnder 31 = .ok (.if_icmp .eq 25, 3) := by decide +kernel
theorem dX12_isUnder_34 : decode cX12_isUnder 34 = .ok (.iload_n 1, 1) := by decide +kernel
theorem dX12_isUnder_35 : decode cX12_isUnder 35 = .ok (.iconst 3, 1) := by decide +kernel
theorem dX12_isUnder_36 : decode cX12_isUnder 36 = .ok (.if_icmp .ne 8, 3) := by decide +kernel
theorem dX12_isUnder_39 : decode cX12_isUnder 39 = .ok (.iload_n 0, 1) := by decide +kernel
theorem dX12_isUnder_40 : decode cX12_isUnder 40 = .ok (.iconst 5, 1) := by decide +kernel
theorem dX12_isUnder_41 : decode cX12_isUnder 41 = .ok (.if_icmp .eq 15, 3) := by decide +kernel
theorem dX12_isUnder_44 : decode cX12_isUnder 44 = .ok (.iload_n 1, 1) := by decide +kernel
theorem dX12_isUnder_45 : decode cX12_isUnder 45 = .ok (.bipush 6, 2) := by decide +kernel
theorem dX12_isUnder_47 : decode cX12_isUnder 47 = .ok (.if_icmp .ne 13, 3) := by decide +kernel
theorem dX12_isUnder_50 : decode cX12_isUnder 50 = .ok (.iload_n 0, 1) := by decide +kernel
theorem dX12_isUnder_51 : decode cX12_isUnder 51 = .ok (.bipush 7, 2) := by decide +kernel
theorem dX12_isUnder_53 : decode cX12_isUnder 53 = .ok (.if_icmp .ne 7, 3) := by decide +kernel
theorem dX12_isUnder_56 : decode cX12_isUnder 56 = .ok (.iconst 1, 1) := by decide +kernel
theorem dX12_isUnder_57 : decode cX12_isUnder 57 = .ok (.goto 4, 3) := by decide +kernel
theorem dX12_isUnder_60 : decode cX12_isUnder 60 = .ok (.iconst 0, 1) := by decide +kernel
theorem dX12_isUnder_61 : decode cX12_isUnder 61 = .ok (.ireturn, 1) := by decide +kernel
theorem dX12_plainGoes_0 : decode cX12_plainGoes 0 = .ok (.aload_n 0, 1) := by decide +kernel
theorem dX12_plainGoes_1 : decode cX12_plainGoes 1 = .ok (.iconst 1, 1) := by decide +kernel
theorem dX12_plainGoes_2 : decode cX12_plainGoes 2 = .ok (.invokevirtual 424, 3) := by decide +kernel
theorem dX12_plainGoes_5 : decode cX12_plainGoes 5 = .ok (.iload_n 2, 1) := by decide +kernel
theorem dX12_plainGoes_6 : decode cX12_plainGoes 6 = .ok (.iload_n 1, 1) := by decide +kernel
theorem dX12_plainGoes_7 : decode cX12_plainGoes 7 = .ok (.iadd, 1) := by decide +kernel
theorem dX12_plainGoes_8 : decode cX12_plainGoes 8 = .ok (.ireturn, 1) := by decide +kernel
theorem dX12_emptyGoes_0 : decode cX12_emptyGoes 0 = .ok (.aload_n 0, 1) := by decide +kernel
theorem dX12_emptyGoes_1 : decode cX12_emptyGoes 1 = .ok (.bipush 70, 2) := by decide +kernel
theorem dX12_emptyGoes_3 : decode cX12_emptyGoes 3 = .ok (.invokevirtual 424, 3) := by decide +kernel
theorem dX12_emptyGoes_6 : decode cX12_emptyGoes 6 = .ok (.aload_n 0, 1) := by decide +kernel
theorem dX12_emptyGoes_7 : decode cX12_emptyGoes 7 = .ok (.iload_n 1, 1) := by decide +kernel
theorem dX12_emptyGoes_8 : decode cX12_emptyGoes 8 = .ok (.iload_n 2, 1) := by decide +kernel
theorem dX12_emptyGoes_9 : decode cX12_emptyGoes 9 = .ok (.invokevirtual 427, 3) := by decide +kernel
theorem dX12_emptyGoes_12 : decode cX12_emptyGoes 12 = .ok (.iconst 2, 1) := by decide +kernel
theorem dX12_emptyGoes_13 : decode cX12_emptyGoes 13 = .ok (.imul, 1) := by decide +kernel
theorem dX12_emptyGoes_14 : decode cX12_emptyGoes 14 = .ok (.ireturn, 1) := by decide +kernel
theorem dX12_going_0 : decode cX12_going 0 = .ok (.aload_n 0, 1) := by decide +kernel
theorem dX12_going_1 : decode cX12_going 1 = .ok (.getfield 102, 3) := by decide +kernel
theorem dX12_going_4 : decode cX12_going 4 = .ok (.iload_n 1, 1) := by decide +kernel
theorem dX12_going_5 : decode cX12_going 5 = .ok (.iaload, 1) := by decide +kernel
theorem dX12_going_6 : decode cX12_going 6 = .ok (.iconst 1, 1) := by decide +kernel
theorem dX12_going_7 : decode cX12_going 7 = .ok (.invokestatic 430, 3) := by decide +kernel
theorem dX12_going_10 : decode cX12_going 10 = .ok (.ifCond .eq 18, 3) := by decide +kernel
theorem dX12_going_13 : decode cX12_going 13 = .ok (.aload_n 0, 1) := by decide +kernel
theorem dX12_going_14 : decode cX12_going 14 = .ok (.bipush 20, 2) := by decide +kernel
theorem dX12_going_16 : decode cX12_going 16 = .ok (.invokevirtual 424, 3) := by decide +kernel
theorem dX12_going_19 : decode cX12_going 19 = .ok (.aload_n 0, 1) := by decide +kernel
theorem dX12_going_20 : decode cX12_going 20 = .ok (.iload_n 1, 1) := by decide +kernel
theorem dX12_going_21 : decode cX12_going 21 = .ok (.iload_n 2, 1) := by decide +kernel
theorem dX12_going_22 : decode cX12_going 22 = .ok (.invokevirtual 427, 3) := by decide +kernel
theorem dX12_going_25 : decode cX12_going 25 = .ok (.iconst 3, 1) := by decide +kernel
theorem dX12_going_26 : decode cX12_going 26 = .ok (.iadd, 1) := by decide +kernel
theorem dX12_going_27 : decode cX12_going 27 = .ok (.ireturn, 1) := by decide +kernel
theorem dX12_going_28 : decode cX12_going 28 = .ok (.aload_n 0, 1) := by decide +kernel
theorem dX12_going_29 : decode cX12_going 29 = .ok (.getfield 102, 3) := by decide +kernel
theorem dX12_going_32 : decode cX12_going 32 = .ok (.iload_n 1, 1) := by decide +kernel
theorem dX12_going_33 : decode cX12_going 33 = .ok (.iaload, 1) := by decide +kernel
theorem dX12_going_34 : decode cX12_going 34 = .ok (.bipush 7, 2) := by decide +kernel
theorem dX12_going_36 : decode cX12_going 36 = .ok (.if_icmp .ne 18, 3) := by decide +kernel
theorem dX12_going_39 : decode cX12_going 39 = .ok (.aload_n 0, 1) := by decide +kernel
theorem dX12_going_40 : decode cX12_going 40 = .ok (.bipush 81, 2) := by decide +kernel
theorem dX12_going_42 : decode cX12_going 42 = .ok (.invokevirtual 424, 3) := by decide +kernel
theorem dX12_going_45 : decode cX12_going 45 = .ok (.aload_n 0, 1) := by decide +kernel
theorem dX12_going_46 : decode cX12_going 46 = .ok (.iload_n 1, 1) := by decide +kernel
theorem dX12_going_47 : decode cX12_going 47 = .ok (.iload_n 2, 1) := by decide +kernel
theorem dX12_going_48 : decode cX12_going 48 = .ok (.invokevirtual 433, 3) := by decide +kernel
theorem dX12_going_51 : decode cX12_going 51 = .ok (.iconst 1, 1) := by decide +kernel
theorem dX12_going_52 : decode cX12_going 52 = .ok (.isub, 1) := by decide +kernel
theorem dX12_going_53 : decode cX12_going 53 = .ok (.ireturn, 1) := by decide +kernel
theorem dX12_going_54 : decode cX12_going 54 = .ok (.aload_n 0, 1) := by decide +kernel
theorem dX12_going_55 : decode cX12_going 55 = .ok (.getfield 102, 3) := by decide +kernel
theorem dX12_going_58 : decode cX12_going 58 = .ok (.iload_n 1, 1) := by decide +kernel
theorem dX12_going_59 : decode cX12_going 59 = .ok (.iaload, 1) := by decide +kernel
theorem dX12_going_60 : decode cX12_going 60 = .ok (.bipush 6, 2) := by decide +kernel
theorem dX12_going_62 : decode cX12_going 62 = .ok (.if_icmp .ne 12, 3) := by decide +kernel
theorem dX12_going_65 : decode cX12_going 65 = .ok (.aload_n 0, 1) := by decide +kernel
theorem dX12_going_66 : decode cX12_going 66 = .ok (.iload_n 1, 1) := by decide +kernel
theorem dX12_going_67 : decode cX12_going 67 = .ok (.iload_n 2, 1) := by decide +kernel
theorem dX12_going_68 : decode cX12_going 68 = .ok (.invokevirtual 433, 3) := by decide +kernel
theorem dX12_going_71 : decode cX12_going 71 = .ok (.goto 9, 3) := by decide +kernel
theorem dX12_going_74 : decode cX12_going 74 = .ok (.aload_n 0, 1) := by decide +kernel
theorem dX12_going_75 : decode cX12_going 75 = .ok (.iload_n 1, 1) := by decide +kernel
theorem dX12_going_76 : decode cX12_going 76 = .ok (.iload_n 2, 1) := by decide +kernel
theorem dX12_going_77 : decode cX12_going 77 = .ok (.invokevirtual 427, 3) := by decide +kernel
theorem dX12_going_80 : decode cX12_going 80 = .ok (.ireturn, 1) := by decide +kernel
theorem dX12_plainTouches_0 : decode cX12_plainTouches 0 = .ok (.aload_n 0, 1) := by decide +kernel
theorem dX12_plainTouches_1 : decode cX12_plainTouches 1 = .ok (.bipush 10, 2) := by decide +kernel
theorem dX12_plainTouches_3 : decode cX12_plainTouches 3 = .ok (.invokevirtual 424, 3) := by decide +kernel
theorem dX12_plainTouches_6 : decode cX12_plainTouches 6 = .ok (.aload_n 0, 1) := by decide +kernel
theorem dX12_plainTouches_7 : decode cX12_plainTouches 7 = .ok (.iload_n 1, 1) := by decide +kernel
theorem dX12_plainTouches_8 : decode cX12_plainTouches 8 = .ok (.iload_n 2, 1) := by decide +kernel
theorem dX12_plainTouches_9 : decode cX12_plainTouches 9 = .ok (.invokevirtual 436, 3) := by decide +kernel
theorem dX12_plainTouches_12 : decode cX12_plainTouches 12 = .ok (.iconst 2, 1) := by decide +kernel
theorem dX12_plainTouches_13 : decode cX12_plainTouches 13 = .ok (.imul, 1) := by decide +kernel
theorem dX12_plainTouches_14 : decode cX12_plainTouches 14 = .ok (.ireturn, 1) := by decide +kernel
theorem dX12_touchTouches_0 : decode cX12_touchTouches 0 = .ok (.aload_n 0, 1) := by decide +kernel
theorem dX12_touchTouches_1 : decode cX12_touchTouches 1 = .ok (.bipush 30, 2) := by decide +kernel
theorem dX12_touchTouches_3 : decode cX12_touchTouches 3 = .ok (.invokevirtual 424, 3) := by decide +kernel
theorem dX12_touchTouches_6 : decode cX12_touchTouches 6 = .ok (.aload_n 0, 1) := by decide +kernel
theorem dX12_touchTouches_7 : decode cX12_touchTouches 7 = .ok (.iload_n 1, 1) := by decide +kernel
theorem dX12_touchTouches_8 : decode cX12_touchTouches 8 = .ok (.iload_n 2, 1) := by decide +kernel
theorem dX12_touchTouches_9 : decode cX12_touchTouches 9 = .ok (.invokevirtual 439, 3) := by decide +kernel
theorem dX12_touchTouches_12 : decode cX12_touchTouches 12 = .ok (.ineg, 1) := by decide +kernel
theorem dX12_touchTouches_13 : decode cX12_touchTouches 13 = .ok (.ireturn, 1) := by decide +kernel
theorem dX12_touching_0 : decode cX12_touching 0 = .ok (.aload_n 0, 1) := by decide +kernel
theorem dX12_touching_1 : decode cX12_touching 1 = .ok (.getfield 102, 3) := by decide +kernel
theorem dX12_touching_4 : decode cX12_touching 4 = .ok (.iload_n 1, 1) := by decide +kernel
theorem dX12_touching_5 : decode cX12_touching 5 = .ok (.iaload, 1) := by decide +kernel
theorem dX12_touching_6 : decode cX12_touching 6 = .ok (.iconst 3, 1) := by decide +kernel
theorem dX12_touching_7 : decode cX12_touching 7 = .ok (.invokestatic 430, 3) := by decide +kernel
theorem dX12_touching_10 : decode cX12_touching 10 = .ok (.ifCond .eq 18, 3) := by decide +kernel
theorem dX12_touching_13 : decode cX12_touching 13 = .ok (.aload_n 0, 1) := by decide +kernel
theorem dX12_touching_14 : decode cX12_touching 14 = .ok (.bipush 41, 2) := by decide +kernel
theorem dX12_touching_16 : decode cX12_touching 16 = .ok (.invokevirtual 424, 3) := by decide +kernel
theorem dX12_touching_19 : decode cX12_touching 19 = .ok (.aload_n 0, 1) := by decide +kernel
theorem dX12_touching_20 : decode cX12_touching 20 = .ok (.iload_n 1, 1) := by decide +kernel
theorem dX12_touching_21 : decode cX12_touching 21 = .ok (.iload_n 2, 1) := by decide +kernel
theorem dX12_touching_22 : decode cX12_touching 22 = .ok (.iconst 1, 1) := by decide +kernel
theorem dX12_touching_23 : decode cX12_touching 23 = .ok (.iadd, 1) := by decide +kernel
theorem dX12_touching_24 : decode cX12_touching 24 = .ok (.invokevirtual 442, 3) := by decide +kernel
theorem dX12_touching_27 : decode cX12_touching 27 = .ok (.ireturn, 1) := by decide +kernel
theorem dX12_touching_28 : decode cX12_touching 28 = .ok (.aload_n 0, 1) := by decide +kernel
theorem dX12_touching_29 : decode cX12_touching 29 = .ok (.getfield 102, 3) := by decide +kernel
theorem dX12_touching_32 : decode cX12_touching 32 = .ok (.iload_n 1, 1) := by decide +kernel
theorem dX12_touching_33 : decode cX12_touching 33 = .ok (.iaload, 1) := by decide +kernel
theorem dX12_touching_34 : decode cX12_touching 34 = .ok (.bipush 7, 2) := by decide +kernel
theorem dX12_touching_36 : decode cX12_touching 36 = .ok (.if_icmp .ne 25, 3) := by decide +kernel
theorem dX12_touching_39 : decode cX12_touching 39 = .ok (.aload_n 0, 1) := by decide +kernel
theorem dX12_touching_40 : decode cX12_touching 40 = .ok (.bipush 80, 2) := by decide +kernel
theorem dX12_touching_42 : decode cX12_touching 42 = .ok (.invokevirtual 424, 3) := by decide +kernel
theorem dX12_touching_45 : decode cX12_touching 45 = .ok (.aload_n 0, 1) := by decide +kernel
theorem dX12_touching_46 : decode cX12_touching 46 = .ok (.iload_n 1, 1) := by decide +kernel
theorem dX12_touching_47 : decode cX12_touching 47 = .ok (.iload_n 2, 1) := by decide +kernel
theorem dX12_touching_48 : decode cX12_touching 48 = .ok (.invokevirtual 439, 3) := by decide +kernel
theorem dX12_touching_51 : decode cX12_touching 51 = .ok (.istore_n 3, 1) := by decide +kernel
theorem dX12_touching_52 : decode cX12_touching 52 = .ok (.iload_n 3, 1) := by decide +kernel
theorem dX12_touching_53 : decode cX12_touching 53 = .ok (.aload_n 0, 1) := by decide +kernel
theorem dX12_touching_54 : decode cX12_touching 54 = .ok (.iload_n 1, 1) := by decide +kernel
theorem dX12_touching_55 : decode cX12_touching 55 = .ok (.iconst 2, 1) := by decide +kernel
theorem dX12_touching_56 : decode cX12_touching 56 = .ok (.invokevirtual 445, 3) := by decide +kernel
theorem dX12_touching_59 : decode cX12_touching 59 = .ok (.iadd, 1) := by decide +kernel
theorem dX12_touching_60 : decode cX12_touching 60 = .ok (.ireturn, 1) := by decide +kernel
theorem dX12_touching_61 : decode cX12_touching 61 = .ok (.aload_n 0, 1) := by decide +kernel
theorem dX12_touching_62 : decode cX12_touching 62 = .ok (.getfield 102, 3) := by decide +kernel
theorem dX12_touching_65 : decode cX12_touching 65 = .ok (.iload_n 1, 1) := by decide +kernel
theorem dX12_touching_66 : decode cX12_touching 66 = .ok (.iaload, 1) := by decide +kernel
theorem dX12_touching_67 : decode cX12_touching 67 = .ok (.iconst 2, 1) := by decide +kernel
theorem dX12_touching_68 : decode cX12_touching 68 = .ok (.if_icmp .ne 12, 3) := by decide +kernel
theorem dX12_touching_71 : decode cX12_touching 71 = .ok (.aload_n 0, 1) := by decide +kernel
theorem dX12_touching_72 : decode cX12_touching 72 = .ok (.iload_n 1, 1) := by decide +kernel
theorem dX12_touching_73 : decode cX12_touching 73 = .ok (.iload_n 2, 1) := by decide +kernel
theorem dX12_touching_74 : decode cX12_touching 74 = .ok (.invokevirtual 442, 3) := by decide +kernel
theorem dX12_touching_77 : decode cX12_touching 77 = .ok (.goto 9, 3) := by decide +kernel
theorem dX12_touching_80 : decode cX12_touching 80 = .ok (.aload_n 0, 1) := by decide +kernel
theorem dX12_touching_81 : decode cX12_touching 81 = .ok (.iload_n 1, 1) := by decide +kernel
theorem dX12_touching_82 : decode cX12_touching 82 = .ok (.iload_n 2, 1) := by decide +kernel
theorem dX12_touching_83 : decode cX12_touching 83 = .ok (.invokevirtual 439, 3) := by decide +kernel
theorem dX12_touching_86 : decode cX12_touching 86 = .ok (.ireturn, 1) := by decide +kernel
theorem dX12_plainHolds_0 : decode cX12_plainHolds 0 = .ok (.aload_n 0, 1) := by decide +kernel
theorem dX12_plainHolds_1 : decode cX12_plainHolds 1 = .ok (.bipush 11, 2) := by decide +kernel
theorem dX12_plainHolds_3 : decode cX12_plainHolds 3 = .ok (.invokevirtual 424, 3) := by decide +kernel
theorem dX12_plainHolds_6 : decode cX12_plainHolds 6 = .ok (.iload_n 2, 1) := by decide +kernel
theorem dX12_plainHolds_7 : decode cX12_plainHolds 7 = .ok (.iload_n 1, 1) := by decide +kernel
theorem dX12_plainHolds_8 : decode cX12_plainHolds 8 = .ok (.ixor, 1) := by decide +kernel
theorem dX12_plainHolds_9 : decode cX12_plainHolds 9 = .ok (.ireturn, 1) := by decide +kernel
theorem dX12_holdHolds_0 : decode cX12_holdHolds 0 = .ok (.aload_n 0, 1) := by decide +kernel
theorem dX12_holdHolds_1 : decode cX12_holdHolds 1 = .ok (.bipush 40, 2) := by decide +kernel
theorem dX12_holdHolds_3 : decode cX12_holdHolds 3 = .ok (.invokevirtual 424, 3) := by decide +kernel
theorem dX12_holdHolds_6 : decode cX12_holdHolds 6 = .ok (.aload_n 0, 1) := by decide +kernel
theorem dX12_holdHolds_7 : decode cX12_holdHolds 7 = .ok (.iload_n 1, 1) := by decide +kernel
theorem dX12_holdHolds_8 : decode cX12_holdHolds 8 = .ok (.iload_n 2, 1) := by decide +kernel
theorem dX12_holdHolds_9 : decode cX12_holdHolds 9 = .ok (.invokevirtual 448, 3) := by decide +kernel
theorem dX12_holdHolds_12 : decode cX12_holdHolds 12 = .ok (.iconst 3, 1) := by decide +kernel
theorem dX12_holdHolds_13 : decode cX12_holdHolds 13 = .ok (.imul, 1) := by decide +kernel
theorem dX12_holdHolds_14 : decode cX12_holdHolds 14 = .ok (.ireturn, 1) := by decide +kernel
theorem dX12_holdsBy_0 : decode cX12_holdsBy 0 = .ok (.aload_n 0, 1) := by decide +kernel
theorem dX12_holdsBy_1 : decode cX12_holdsBy 1 = .ok (.getfield 102, 3) := by decide +kernel
theorem dX12_holdsBy_4 : decode cX12_holdsBy 4 = .ok (.iload_n 1, 1) := by decide +kernel
theorem dX12_holdsBy_5 : decode cX12_holdsBy 5 = .ok (.iaload, 1) := by decide +kernel
theorem dX12_holdsBy_6 : decode cX12_holdsBy 6 = .ok (.iconst 5, 1) := by decide +kernel
theorem dX12_holdsBy_7 : decode cX12_holdsBy 7 = .ok (.if_icmp .ne 25, 3) := by decide +kernel
theorem dX12_holdsBy_10 : decode cX12_holdsBy 10 = .ok (.aload_n 0, 1) := by decide +kernel
theorem dX12_holdsBy_11 : decode cX12_holdsBy 11 = .ok (.bipush 60, 2) := by decide +kernel
theorem dX12_holdsBy_13 : decode cX12_holdsBy 13 = .ok (.invokevirtual 424, 3) := by decide +kernel
theorem dX12_holdsBy_16 : decode cX12_holdsBy 16 = .ok (.aload_n 0, 1) := by decide +kernel
theorem dX12_holdsBy_17 : decode cX12_holdsBy 17 = .ok (.iload_n 1, 1) := by decide +kernel
theorem dX12_holdsBy_18 : decode cX12_holdsBy 18 = .ok (.iload_n 2, 1) := by decide +kernel
theorem dX12_holdsBy_19 : decode cX12_holdsBy 19 = .ok (.invokevirtual 451, 3) := by decide +kernel
theorem dX12_holdsBy_22 : decode cX12_holdsBy 22 = .ok (.istore_n 3, 1) := by decide +kernel
theorem dX12_holdsBy_23 : decode cX12_holdsBy 23 = .ok (.iload_n 3, 1) := by decide +kernel
theorem dX12_holdsBy_24 : decode cX12_holdsBy 24 = .ok (.aload_n 0, 1) := by decide +kernel
theorem dX12_holdsBy_25 : decode cX12_holdsBy 25 = .ok (.iload_n 1, 1) := by decide +kernel
theorem dX12_holdsBy_26 : decode cX12_holdsBy 26 = .ok (.iconst 2, 1) := by decide +kernel
theorem dX12_holdsBy_27 : decode cX12_holdsBy 27 = .ok (.invokevirtual 436, 3) := by decide +kernel
theorem dX12_holdsBy_30 : decode cX12_holdsBy 30 = .ok (.isub, 1) := by decide +kernel
theorem dX12_holdsBy_31 : decode cX12_holdsBy 31 = .ok (.ireturn, 1) := by decide +kernel
theorem dX12_holdsBy_32 : decode cX12_holdsBy 32 = .ok (.aload_n 0, 1) := by decide +kernel
theorem dX12_holdsBy_33 : decode cX12_holdsBy 33 = .ok (.getfield 102, 3) := by decide +kernel
theorem dX12_holdsBy_36 : decode cX12_holdsBy 36 = .ok (.iload_n 1, 1) := by decide +kernel
theorem dX12_holdsBy_37 : decode cX12_holdsBy 37 = .ok (.iaload, 1) := by decide +kernel
theorem dX12_holdsBy_38 : decode cX12_holdsBy 38 = .ok (.iconst 3, 1) := by decide +kernel
theorem dX12_holdsBy_39 : decode cX12_holdsBy 39 = .ok (.if_icmp .ne 12, 3) := by decide +kernel
theorem dX12_holdsBy_42 : decode cX12_holdsBy 42 = .ok (.aload_n 0, 1) := by decide +kernel
theorem dX12_holdsBy_43 : decode cX12_holdsBy 43 = .ok (.iload_n 1, 1) := by decide +kernel
theorem dX12_holdsBy_44 : decode cX12_holdsBy 44 = .ok (.iload_n 2, 1) := by decide +kernel
theorem dX12_holdsBy_45 : decode cX12_holdsBy 45 = .ok (.invokevirtual 451, 3) := by decide +kernel
theorem dX12_holdsBy_48 : decode cX12_holdsBy 48 = .ok (.goto 9, 3) := by decide +kernel
theorem dX12_holdsBy_51 : decode cX12_holdsBy 51 = .ok (.aload_n 0, 1) := by decide +kernel
theorem dX12_holdsBy_52 : decode cX12_holdsBy 52 = .ok (.iload_n 1, 1) := by decide +kernel
theorem dX12_holdsBy_53 : decode cX12_holdsBy 53 = .ok (.iload_n 2, 1) := by decide +kernel
theorem dX12_holdsBy_54 : decode cX12_holdsBy 54 = .ok (.invokevirtual 448, 3) := by decide +kernel
theorem dX12_holdsBy_57 : decode cX12_holdsBy 57 = .ok (.ireturn, 1) := by decide +kernel
theorem dX12_plainTells_0 : decode cX12_plainTells 0 = .ok (.aload_n 0, 1) := by decide +kernel
theorem dX12_plainTells_1 : decode cX12_plainTells 1 = .ok (.iconst 2, 1) := by decide +kernel
theorem dX12_plainTells_2 : decode cX12_plainTells 2 = .ok (.invokevirtual 424, 3) := by decide +kernel
theorem dX12_plainTells_5 : decode cX12_plainTells 5 = .ok (.aload_n 0, 1) := by decide +kernel
theorem dX12_plainTells_6 : decode cX12_plainTells 6 = .ok (.iload_n 1, 1) := by decide +kernel
theorem dX12_plainTells_7 : decode cX12_plainTells 7 = .ok (.iload_n 2, 1) := by decide +kernel
theorem dX12_plainTells_8 : decode cX12_plainTells 8 = .ok (.invokevirtual 454, 3) := by decide +kernel
theorem dX12_plainTells_11 : decode cX12_plainTells 11 = .ok (.istore_n 3, 1) := by decide +kernel
theorem dX12_plainTells_12 : decode cX12_plainTells 12 = .ok (.iload_n 3, 1) := by decide +kernel
theorem dX12_plainTells_13 : decode cX12_plainTells 13 = .ok (.aload_n 0, 1) := by decide +kernel
theorem dX12_plainTells_14 : decode cX12_plainTells 14 = .ok (.iload_n 1, 1) := by decide +kernel
theorem dX12_plainTells_15 : decode cX12_plainTells 15 = .ok (.iconst 1, 1) := by decide +kernel
theorem dX12_plainTells_16 : decode cX12_plainTells 16 = .ok (.invokevirtual 445, 3) := by decide +kernel
theorem dX12_plainTells_19 : decode cX12_plainTells 19 = .ok (.isub, 1) := by decide +kernel
theorem dX12_plainTells_20 : decode cX12_plainTells 20 = .ok (.ireturn, 1) := by decide +kernel
theorem dX12_telling_0 : decode cX12_telling 0 = .ok (.aload_n 0, 1) := by decide +kernel
theorem dX12_telling_1 : decode cX12_telling 1 = .ok (.getfield 102, 3) := by decide +kernel
theorem dX12_telling_4 : decode cX12_telling 4 = .ok (.iload_n 1, 1) := by decide +kernel
theorem dX12_telling_5 : decode cX12_telling 5 = .ok (.iaload, 1) := by decide +kernel
theorem dX12_telling_6 : decode cX12_telling 6 = .ok (.iconst 4, 1) := by decide +kernel
theorem dX12_telling_7 : decode cX12_telling 7 = .ok (.if_icmp .ne 18, 3) := by decide +kernel
theorem dX12_telling_10 : decode cX12_telling 10 = .ok (.aload_n 0, 1) := by decide +kernel
theorem dX12_telling_11 : decode cX12_telling 11 = .ok (.bipush 50, 2) := by decide +kernel
theorem dX12_telling_13 : decode cX12_telling 13 = .ok (.invokevirtual 424, 3) := by decide +kernel
theorem dX12_telling_16 : decode cX12_telling 16 = .ok (.aload_n 0, 1) := by decide +kernel
theorem dX12_telling_17 : decode cX12_telling 17 = .ok (.iload_n 1, 1) := by decide +kernel
theorem dX12_telling_18 : decode cX12_telling 18 = .ok (.iload_n 2, 1) := by decide +kernel
theorem dX12_telling_19 : decode cX12_telling 19 = .ok (.invokevirtual 457, 3) := by decide +kernel
theorem dX12_telling_22 : decode cX12_telling 22 = .ok (.iconst 5, 1) := by decide +kernel
theorem dX12_telling_23 : decode cX12_telling 23 = .ok (.ixor, 1) := by decide +kernel
theorem dX12_telling_24 : decode cX12_telling 24 = .ok (.ireturn, 1) := by decide +kernel
theorem dX12_telling_25 : decode cX12_telling 25 = .ok (.aload_n 0, 1) := by decide +kernel
theorem dX12_telling_26 : decode cX12_telling 26 = .ok (.getfield 102, 3) := by decide +kernel
theorem dX12_telling_29 : decode cX12_telling 29 = .ok (.iload_n 1, 1) := by decide +kernel
theorem dX12_telling_30 : decode cX12_telling 30 = .ok (.iaload, 1) := by decide +kernel
theorem dX12_telling_31 : decode cX12_telling 31 = .ok (.iconst 5, 1) := by decide +kernel
theorem dX12_telling_32 : decode cX12_telling 32 = .ok (.if_icmp .ne 18, 3) := by decide +kernel
theorem dX12_telling_35 : decode cX12_telling 35 = .ok (.aload_n 0, 1) := by decide +kernel
theorem dX12_telling_36 : decode cX12_telling 36 = .ok (.bipush 61, 2) := by decide +kernel
theorem dX12_telling_38 : decode cX12_telling 38 = .ok (.invokevirtual 424, 3) := by decide +kernel
theorem dX12_telling_41 : decode cX12_telling 41 = .ok (.aload_n 0, 1) := by decide +kernel
theorem dX12_telling_42 : decode cX12_telling 42 = .ok (.iload_n 1, 1) := by decide +kernel
theorem dX12_telling_43 : decode cX12_telling 43 = .ok (.iload_n 2, 1) := by decide +kernel
theorem dX12_telling_44 : decode cX12_telling 44 = .ok (.invokevirtual 457, 3) := by decide +kernel
theorem dX12_telling_47 : decode cX12_telling 47 = .ok (.iconst 1, 1) := by decide +kernel
theorem dX12_telling_48 : decode cX12_telling 48 = .ok (.iadd, 1) := by decide +kernel
theorem dX12_telling_49 : decode cX12_telling 49 = .ok (.ireturn, 1) := by decide +kernel
theorem dX12_telling_50 : decode cX12_telling 50 = .ok (.aload_n 0, 1) := by decide +kernel
theorem dX12_telling_51 : decode cX12_telling 51 = .ok (.iload_n 1, 1) := by decide +kernel
theorem dX12_telling_52 : decode cX12_telling 52 = .ok (.iload_n 2, 1) := by decide +kernel
theorem dX12_telling_53 : decode cX12_telling 53 = .ok (.invokevirtual 457, 3) := by decide +kernel
theorem dX12_telling_56 : decode cX12_telling 56 = .ok (.ireturn, 1) := by decide +kernel
theorem dX12_act_0 : decode cX12_act 0 = .ok (.aload_n 0, 1) := by decide +kernel
theorem dX12_act_1 : decode cX12_act 1 = .ok (.iconst 0, 1) := by decide +kernel
theorem dX12_act_2 : decode cX12_act 2 = .ok (.putfield 421, 3) := by decide +kernel
theorem dX12_act_5 : decode cX12_act 5 = .ok (.aload_n 0, 1) := by decide +kernel
theorem dX12_act_6 : decode cX12_act 6 = .ok (.iload_n 1, 1) := by decide +kernel
theorem dX12_act_7 : decode cX12_act 7 = .ok (.invokevirtual 460, 3) := by decide +kernel
theorem dX12_act_10 : decode cX12_act 10 = .ok (.ifCond .eq 12, 3) := by decide +kernel
theorem dX12_act_13 : decode cX12_act 13 = .ok (.iload_n 2, 1) := by decide +kernel
theorem dX12_act_14 : decode cX12_act 14 = .ok (.iconst 0, 1) := by decide +kernel
theorem dX12_act_15 : decode cX12_act 15 = .ok (.iconst 3, 1) := by decide +kernel
theorem dX12_act_16 : decode cX12_act 16 = .ok (.invokestatic 128, 3) := by decide +kernel
theorem dX12_act_19 : decode cX12_act 19 = .ok (.ifCond .ne 5, 3) := by decide +kernel
theorem dX12_act_22 : decode cX12_act 22 = .ok (.iconst 0, 1) := by decide +kernel
theorem dX12_act_23 : decode cX12_act 23 = .ok (.ireturn, 1) := by decide +kernel
theorem dX12_act_24 : decode cX12_act 24 = .ok (.iload_n 2, 1) := by decide +kernel
theorem dX12_act_25 : decode cX12_act 25 = .ok (.ifCond .ne 12, 3) := by decide +kernel
theorem dX12_act_28 : decode cX12_act 28 = .ok (.aload_n 0, 1) := by decide +kernel
theorem dX12_act_29 : decode cX12_act 29 = .ok (.iload_n 1, 1) := by decide +kernel
theorem dX12_act_30 : decode cX12_act 30 = .ok (.iload_n 3, 1) := by decide +kernel
theorem dX12_act_31 : decode cX12_act 31 = .ok (.invokevirtual 436, 3) := by decide +kernel
theorem dX12_act_34 : decode cX12_act 34 = .ok (.goto 37, 3) := by decide +kernel
theorem dX12_act_37 : decode cX12_act 37 = .ok (.iload_n 2, 1) := by decide +kernel
theorem dX12_act_38 : decode cX12_act 38 = .ok (.iconst 1, 1) := by decide +kernel
theorem dX12_act_39 : decode cX12_act 39 = .ok (.if_icmp .ne 12, 3) := by decide +kernel
theorem dX12_act_42 : decode cX12_act 42 = .ok (.aload_n 0, 1) := by decide +kernel
theorem dX12_act_43 : decode cX12_act 43 = .ok (.iload_n 1, 1) := by decide +kernel
theorem dX12_act_44 : decode cX12_act 44 = .ok (.iload_n 3, 1) := by decide +kernel
theorem dX12_act_45 : decode cX12_act 45 = .ok (.invokevirtual 454, 3) := by decide +kernel
theorem dX12_act_48 : decode cX12_act 48 = .ok (.goto 23, 3) := by decide +kernel
theorem dX12_act_51 : decode cX12_act 51 = .ok (.iload_n 2, 1) := by decide +kernel
theorem dX12_act_52 : decode cX12_act 52 = .ok (.iconst 2, 1) := by decide +kernel
theorem dX12_act_53 : decode cX12_act 53 = .ok (.if_icmp .ne 12, 3) := by decide +kernel
theorem dX12_act_56 : decode cX12_act 56 = .ok (.aload_n 0, 1) := by decide +kernel
theorem dX12_act_57 : decode cX12_act 57 = .ok (.iload_n 1, 1) := by decide +kernel
theorem dX12_act_58 : decode cX12_act 58 = .ok (.iload_n 3, 1) := by decide +kernel
theorem dX12_act_59 : decode cX12_act 59 = .ok (.invokevirtual 445, 3) := by decide +kernel
theorem dX12_act_62 : decode cX12_act 62 = .ok (.goto 9, 3) := by decide +kernel
theorem dX12_act_65 : decode cX12_act 65 = .ok (.aload_n 0, 1) := by decide +kernel
theorem dX12_act_66 : decode cX12_act 66 = .ok (.iload_n 1, 1) := by decide +kernel
theorem dX12_act_67 : decode cX12_act 67 = .ok (.iload_n 3, 1) := by decide +kernel
theorem dX12_act_68 : decode cX12_act 68 = .ok (.invokevirtual 463, 3) := by decide +kernel
theorem dX12_act_71 : decode cX12_act 71 = .ok (.ireturn, 1) := by decide +kernel
theorem dX12_count_0 : decode cX12_count 0 = .ok (.iload_n 1, 1) := by decide +kernel
theorem dX12_count_1 : decode cX12_count 1 = .ok (.tableswitch 93 0 5 #[39, 44, 73, 78, 83, 88], 39) := by decide +kernel
theorem dX12_count_40 : decode cX12_count 40 = .ok (.aload_n 0, 1) := by decide +kernel
theorem dX12_count_41 : decode cX12_count 41 = .ok (.getfield 125, 3) := by decide +kernel
theorem dX12_count_44 : decode cX12_count 44 = .ok (.ireturn, 1) := by decide +kernel
theorem dX12_count_45 : decode cX12_count 45 = .ok (.iconst 0, 1) := by decide +kernel
theorem dX12_count_46 : decode cX12_count 46 = .ok (.istore_n 2, 1) := by decide +kernel
theorem dX12_count_47 : decode cX12_count 47 = .ok (.iconst 0, 1) := by decide +kernel
theorem dX12_count_48 : decode cX12_count 48 = .ok (.istore_n 3, 1) := by decide +kernel
theorem dX12_count_49 : decode cX12_count 49 = .ok (.iload_n 3, 1) := by decide +kernel
theorem dX12_count_50 : decode cX12_count 50 = .ok (.aload_n 0, 1) := by decide +kernel
theorem dX12_count_51 : decode cX12_count 51 = .ok (.getfield 125, 3) := by decide +kernel
theorem dX12_count_54 : decode cX12_count 54 = .ok (.if_icmp .ge 18, 3) := by decide +kernel
theorem dX12_count_57 : decode cX12_count 57 = .ok (.iload_n 2, 1) := by decide +kernel
theorem dX12_count_58 : decode cX12_count 58 = .ok (.aload_n 0, 1) := by decide +kernel
theorem dX12_count_59 : decode cX12_count 59 = .ok (.getfield 19, 3) := by decide +kernel
theorem dX12_count_62 : decode cX12_count 62 = .ok (.iload_n 3, 1) := by decide +kernel
theorem dX12_count_63 : decode cX12_count 63 = .ok (.iaload, 1) := by decide +kernel
theorem dX12_count_64 : decode cX12_count 64 = .ok (.iadd, 1) := by decide +kernel
theorem dX12_count_65 : decode cX12_count 65 = .ok (.istore_n 2, 1) := by decide +kernel
theorem dX12_count_66 : decode cX12_count 66 = .ok (.iinc 3 1, 3) := by decide +kernel
theorem dX12_count_69 : decode cX12_count 69 = .ok (.goto (-20), 3) := by decide +kernel
theorem dX12_count_72 : decode cX12_count 72 = .ok (.iload_n 2, 1) := by decide +kernel
theorem dX12_count_73 : decode cX12_count 73 = .ok (.ireturn, 1) := by decide +kernel
theorem dX12_count_74 : decode cX12_count 74 = .ok (.aload_n 0, 1) := by decide +kernel
theorem dX12_count_75 : decode cX12_count 75 = .ok (.getfield 175, 3) := by decide +kernel
theorem dX12_count_78 : decode cX12_count 78 = .ok (.ireturn, 1) := by decide +kernel
theorem dX12_count_79 : decode cX12_count 79 = .ok (.aload_n 0, 1) := by decide +kernel
theorem dX12_count_80 : decode cX12_count 80 = .ok (.getfield 155, 3) := by decide +kernel
theorem dX12_count_83 : decode cX12_count 83 = .ok (.ireturn, 1) := by decide +kernel
theorem dX12_count_84 : decode cX12_count 84 = .ok (.aload_n 0, 1) := by decide +kernel
theorem dX12_count_85 : decode cX12_count 85 = .ok (.getfield 418, 3) := by decide +kernel
theorem dX12_count_88 : decode cX12_count 88 = .ok (.ireturn, 1) := by decide +kernel
theorem dX12_count_89 : decode cX12_count 89 = .ok (.aload_n 0, 1) := by decide +kernel
theorem dX12_count_90 : decode cX12_count 90 = .ok (.getfield 421, 3) := by decide +kernel
theorem dX12_count_93 : decode cX12_count 93 = .ok (.ireturn, 1) := by decide +kernel
theorem dX12_count_94 : decode cX12_count 94 = .ok (.iconst (-1), 1) := by decide +kernel
theorem dX12_count_95 : decode cX12_count 95 = .ok (.ireturn, 1) := by decide +kernel
theorem dX12_isShelf_0 : decode cX12_isShelf 0 = .ok (.iload_n 0, 1) := by decide +kernel
theorem dX12_isShelf_1 : decode cX12_isShelf 1 = .ok (.iconst 0, 1) := by decide +kernel
theorem dX12_isShelf_2 : decode cX12_isShelf 2 = .ok (.iconst 5, 1) := by decide +kernel
theorem dX12_isShelf_3 : decode cX12_isShelf 3 = .ok (.invokestatic 128, 3) := by decide +kernel
theorem dX12_isShelf_6 : decode cX12_isShelf 6 = .ok (.ireturn, 1) := by decide +kernel
theorem dX12_keep_0 : decode cX12_keep 0 = .ok (.iload_n 1, 1) := by decide +kernel
theorem dX12_keep_1 : decode cX12_keep 1 = .ok (.invokestatic 143, 3) := by decide +kernel
theorem dX12_keep_4 : decode cX12_keep 4 = .ok (.ifCond .eq 16, 3) := by decide +kernel
theorem dX12_keep_7 : decode cX12_keep 7 = .ok (.iload_n 2, 1) := by decide +kernel
theorem dX12_keep_8 : decode cX12_keep 8 = .ok (.iconst (-1), 1) := by decide +kernel
theorem dX12_keep_9 : decode cX12_keep 9 = .ok (.if_icmp .eq 13, 3) := by decide +kernel
theorem dX12_keep_12 : decode cX12_keep 12 = .ok (.aload_n 0, 1) := by decide +kernel
theorem dX12_keep_13 : decode cX12_keep 13 = .ok (.iload_n 2, 1) := by decide +kernel
theorem dX12_keep_14 : decode cX12_keep 14 = .ok (.invokevirtual 460, 3) := by decide +kernel
theorem dX12_keep_17 : decode cX12_keep 17 = .ok (.ifCond .ne 5, 3) := by decide +kernel
theorem dX12_keep_20 : decode cX12_keep 20 = .ok (.iconst (-1), 1) := by decide +kernel
theorem dX12_keep_21 : decode cX12_keep 21 = .ok (.ireturn, 1) := by decide +kernel
theorem dX12_keep_22 : decode cX12_keep 22 = .ok (.aload_n 0, 1) := by decide +kernel
theorem dX12_keep_23 : decode cX12_keep 23 = .ok (.getfield 108, 3) := by decide +kernel
theorem dX12_keep_26 : decode cX12_keep 26 = .ok (.iload_n 1, 1) := by decide +kernel
theorem dX12_keep_27 : decode cX12_keep 27 = .ok (.iload_n 2, 1) := by decide +kernel
theorem dX12_keep_28 : decode cX12_keep 28 = .ok (.iastore, 1) := by decide +kernel
theorem dX12_keep_29 : decode cX12_keep 29 = .ok (.iconst 1, 1) := by decide +kernel
theorem dX12_keep_30 : decode cX12_keep 30 = .ok (.ireturn, 1) := by decide +kernel
theorem dX12_row_0 : decode cX12_row 0 = .ok (.iload_n 1, 1) := by decide +kernel
theorem dX12_row_1 : decode cX12_row 1 = .ok (.invokestatic 143, 3) := by decide +kernel
theorem dX12_row_4 : decode cX12_row 4 = .ok (.ifCond .eq 18, 3) := by decide +kernel
theorem dX12_row_7 : decode cX12_row 7 = .ok (.iload_n 2, 1) := by decide +kernel
theorem dX12_row_8 : decode cX12_row 8 = .ok (.iconst 0, 1) := by decide +kernel
theorem dX12_row_9 : decode cX12_row 9 = .ok (.iconst 4, 1) := by decide +kernel
theorem dX12_row_10 : decode cX12_row 10 = .ok (.invokestatic 128, 3) := by decide +kernel
theorem dX12_row_13 : decode cX12_row 13 = .ok (.ifCond .eq 9, 3) := by decide +kernel
theorem dX12_row_16 : decode cX12_row 16 = .ok (.iload_n 3, 1) := by decide +kernel
theorem dX12_row_17 : decode cX12_row 17 = .ok (.bipush 60, 2) := by decide +kernel
theorem dX12_row_19 : decode cX12_row 19 = .ok (.if_icmp .le 5, 3) := by decide +kernel
theorem dX12_row_22 : decode cX12_row 22 = .ok (.iconst (-1), 1) := by decide +kernel
theorem dX12_row_23 : decode cX12_row 23 = .ok (.ireturn, 1) := by decide +kernel
theorem dX12_row_24 : decode cX12_row 24 = .ok (.iload_n 3, 1) := by decide +kernel
theorem dX12_row_25 : decode cX12_row 25 = .ok (.ifCond .ge 6, 3) := by decide +kernel
theorem dX12_row_28 : decode cX12_row 28 = .ok (.bipush (-14), 2) := by decide +kernel
theorem dX12_row_30 : decode cX12_row 30 = .ok (.ireturn, 1) := by decide +kernel
theorem dX12_row_31 : decode cX12_row 31 = .ok (.aload_n 0, 1) := by decide +kernel
theorem dX12_row_32 : decode cX12_row 32 = .ok (.getfield 108, 3) := by decide +kernel
theorem dX12_row_35 : decode cX12_row 35 = .ok (.iload_n 1, 1) := by decide +kernel
theorem dX12_row_36 : decode cX12_row 36 = .ok (.bipush (-2), 2) := by decide +kernel
theorem dX12_row_38 : decode cX12_row 38 = .ok (.iload_n 2, 1) := by decide +kernel
theorem dX12_row_39 : decode cX12_row 39 = .ok (.isub, 1) := by decide +kernel
theorem dX12_row_40 : decode cX12_row 40 = .ok (.iastore, 1) := by decide +kernel
theorem dX12_row_41 : decode cX12_row 41 = .ok (.aload_n 0, 1) := by decide +kernel
theorem dX12_row_42 : decode cX12_row 42 = .ok (.getfield 111, 3) := by decide +kernel
theorem dX12_row_45 : decode cX12_row 45 = .ok (.iload_n 1, 1) := by decide +kernel
theorem dX12_row_46 : decode cX12_row 46 = .ok (.iload_n 3, 1) := by decide +kernel
theorem dX12_row_47 : decode cX12_row 47 = .ok (.iastore, 1) := by decide +kernel
theorem dX12_row_48 : decode cX12_row 48 = .ok (.bipush 60, 2) := by decide +kernel
theorem dX12_row_50 : decode cX12_row 50 = .ok (.iload_n 1, 1) := by decide +kernel
theorem dX12_row_51 : decode cX12_row 51 = .ok (.imul, 1) := by decide +kernel
theorem dX12_row_52 : decode cX12_row 52 = .ok (.istore 4, 2) := by decide +kernel
theorem dX12_row_54 : decode cX12_row 54 = .ok (.iload 4, 2) := by decide +kernel
theorem dX12_row_56 : decode cX12_row 56 = .ok (.bipush 60, 2) := by decide +kernel
theorem dX12_row_58 : decode cX12_row 58 = .ok (.iload_n 1, 1) := by decide +kernel
theorem dX12_row_59 : decode cX12_row 59 = .ok (.imul, 1) := by decide +kernel
theorem dX12_row_60 : decode cX12_row 60 = .ok (.bipush 60, 2) := by decide +kernel
theorem dX12_row_62 : decode cX12_row 62 = .ok (.iadd, 1) := by decide +kernel
theorem dX12_row_63 : decode cX12_row 63 = .ok (.if_icmp .ge 17, 3) := by decide +kernel
theorem dX12_row_66 : decode cX12_row 66 = .ok (.aload_n 0, 1) := by decide +kernel
theorem dX12_row_67 : decode cX12_row 67 = .ok (.getfield 114, 3) := by decide +kernel
theorem dX12_row_70 : decode cX12_row 70 = .ok (.iload 4, 2) := by decide +kernel
theorem dX12_row_72 : decode cX12_row 72 = .ok (.lconst 0, 1) := by decide +kernel
theorem dX12_row_73 : decode cX12_row 73 = .ok (.lastore, 1) := by decide +kernel
theorem dX12_row_74 : decode cX12_row 74 = .ok (.iinc 4 1, 3) := by decide +kernel
theorem dX12_row_77 : decode cX12_row 77 = .ok (.goto (-23), 3) := by decide +kernel
theorem dX12_row_80 : decode cX12_row 80 = .ok (.iconst 1, 1) := by decide +kernel
theorem dX12_row_81 : decode cX12_row 81 = .ok (.ireturn, 1) := by decide +kernel
theorem dX12_whyNoPlace_0 : decode cX12_whyNoPlace 0 = .ok (.iload_n 1, 1) := by decide +kernel
theorem dX12_whyNoPlace_1 : decode cX12_whyNoPlace 1 = .ok (.invokestatic 143, 3) := by decide +kernel
theorem dX12_whyNoPlace_4 : decode cX12_whyNoPlace 4 = .ok (.ifCond .ne 5, 3) := by decide +kernel
theorem dX12_whyNoPlace_7 : decode cX12_whyNoPlace 7 = .ok (.iconst (-1), 1) := by decide +kernel
theorem dX12_whyNoPlace_8 : decode cX12_whyNoPlace 8 = .ok (.ireturn, 1) := by decide +kernel
theorem dX12_whyNoPlace_9 : decode cX12_whyNoPlace 9 = .ok (.aload_n 0, 1) := by decide +kernel
theorem dX12_whyNoPlace_10 : decode cX12_whyNoPlace 10 = .ok (.getfield 108, 3) := by decide +kernel
theorem dX12_whyNoPlace_13 : decode cX12_whyNoPlace 13 = .ok (.iload_n 1, 1) := by decide +kernel
theorem dX12_whyNoPlace_14 : decode cX12_whyNoPlace 14 = .ok (.iaload, 1) := by decide +kernel
theorem dX12_whyNoPlace_15 : decode cX12_whyNoPlace 15 = .ok (.iconst (-1), 1) := by decide +kernel
theorem dX12_whyNoPlace_16 : decode cX12_whyNoPlace 16 = .ok (.if_icmp .ne 6, 3) := by decide +kernel
theorem dX12_whyNoPlace_19 : decode cX12_whyNoPlace 19 = .ok (.bipush (-11), 2) := by decide +kernel
theorem dX12_whyNoPlace_21 : decode cX12_whyNoPlace 21 = .ok (.ireturn, 1) := by decide +kernel
theorem dX12_whyNoPlace_22 : decode cX12_whyNoPlace 22 = .ok (.aload_n 0, 1) := by decide +kernel
theorem dX12_whyNoPlace_23 : decode cX12_whyNoPlace 23 = .ok (.getfield 108, 3) := by decide +kernel
theorem dX12_whyNoPlace_26 : decode cX12_whyNoPlace 26 = .ok (.iload_n 1, 1) := by decide +kernel
theorem dX12_whyNoPlace_27 : decode cX12_whyNoPlace 27 = .ok (.iaload, 1) := by decide +kernel
theorem dX12_whyNoPlace_28 : decode cX12_whyNoPlace 28 = .ok (.ifCond .lt 6, 3) := by decide +kernel
theorem dX12_whyNoPlace_31 : decode cX12_whyNoPlace 31 = .ok (.bipush (-12), 2) := by decide +kernel
theorem dX12_whyNoPlace_33 : decode cX12_whyNoPlace 33 = .ok (.ireturn, 1) := by decide +kernel
theorem dX12_whyNoPlace_34 : decode cX12_whyNoPlace 34 = .ok (.iload_n 2, 1) := by decide +kernel
theorem dX12_whyNoPlace_35 : decode cX12_whyNoPlace 35 = .ok (.iconst 0, 1) := by decide +kernel
theorem dX12_whyNoPlace_36 : decode cX12_whyNoPlace 36 = .ok (.aload_n 0, 1) := by decide +kernel
theorem dX12_whyNoPlace_37 : decode cX12_whyNoPlace 37 = .ok (.getfield 111, 3) := by decide +kernel
