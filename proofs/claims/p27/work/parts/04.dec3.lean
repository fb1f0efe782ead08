theorem dL_adds_0 : decode cL_adds 0 = .ok (.aload_n 1, 1) := by decide +kernel
theorem dL_adds_1 : decode cL_adds 1 = .ok (.iconst 3, 1) := by decide +kernel
theorem dL_adds_2 : decode cL_adds 2 = .ok (.iload 4, 2) := by decide +kernel
theorem dL_adds_4 : decode cL_adds 4 = .ok (.imul, 1) := by decide +kernel
theorem dL_adds_5 : decode cL_adds 5 = .ok (.iload 5, 2) := by decide +kernel
theorem dL_adds_7 : decode cL_adds 7 = .ok (.iastore, 1) := by decide +kernel
theorem dL_adds_8 : decode cL_adds 8 = .ok (.aload_n 1, 1) := by decide +kernel
theorem dL_adds_9 : decode cL_adds 9 = .ok (.iconst 3, 1) := by decide +kernel
theorem dL_adds_10 : decode cL_adds 10 = .ok (.iload 4, 2) := by decide +kernel
theorem dL_adds_12 : decode cL_adds 12 = .ok (.imul, 1) := by decide +kernel
theorem dL_adds_13 : decode cL_adds 13 = .ok (.iconst 1, 1) := by decide +kernel
theorem dL_adds_14 : decode cL_adds 14 = .ok (.iadd, 1) := by decide +kernel
theorem dL_adds_15 : decode cL_adds 15 = .ok (.iconst 0, 1) := by decide +kernel
theorem dL_adds_16 : decode cL_adds 16 = .ok (.iastore, 1) := by decide +kernel
theorem dL_adds_17 : decode cL_adds 17 = .ok (.aload_n 1, 1) := by decide +kernel
theorem dL_adds_18 : decode cL_adds 18 = .ok (.iconst 3, 1) := by decide +kernel
theorem dL_adds_19 : decode cL_adds 19 = .ok (.iload 4, 2) := by decide +kernel
theorem dL_adds_21 : decode cL_adds 21 = .ok (.imul, 1) := by decide +kernel
theorem dL_adds_22 : decode cL_adds 22 = .ok (.iconst 2, 1) := by decide +kernel
theorem dL_adds_23 : decode cL_adds 23 = .ok (.iadd, 1) := by decide +kernel
theorem dL_adds_24 : decode cL_adds 24 = .ok (.bipush 99, 2) := by decide +kernel
theorem dL_adds_26 : decode cL_adds 26 = .ok (.iastore, 1) := by decide +kernel
theorem dL_adds_27 : decode cL_adds 27 = .ok (.aload_n 0, 1) := by decide +kernel
theorem dL_adds_28 : decode cL_adds 28 = .ok (.iload 5, 2) := by decide +kernel
theorem dL_adds_30 : decode cL_adds 30 = .ok (.invokevirtual 9, 3) := by decide +kernel
theorem dL_adds_33 : decode cL_adds 33 = .ok (.iload 4, 2) := by decide +kernel
theorem dL_adds_35 : decode cL_adds 35 = .ok (.if_icmp .ne 53, 3) := by decide +kernel
theorem dL_adds_38 : decode cL_adds 38 = .ok (.aload_n 0, 1) := by decide +kernel
theorem dL_adds_39 : decode cL_adds 39 = .ok (.iload 4, 2) := by decide +kernel
theorem dL_adds_41 : decode cL_adds 41 = .ok (.iconst 0, 1) := by decide +kernel
theorem dL_adds_42 : decode cL_adds 42 = .ok (.invokevirtual 15, 3) := by decide +kernel
theorem dL_adds_45 : decode cL_adds 45 = .ok (.iload 5, 2) := by decide +kernel
theorem dL_adds_47 : decode cL_adds 47 = .ok (.if_icmp .ne 41, 3) := by decide +kernel
theorem dL_adds_50 : decode cL_adds 50 = .ok (.aload_n 0, 1) := by decide +kernel
theorem dL_adds_51 : decode cL_adds 51 = .ok (.iload 4, 2) := by decide +kernel
theorem dL_adds_53 : decode cL_adds 53 = .ok (.iload 5, 2) := by decide +kernel
theorem dL_adds_55 : decode cL_adds 55 = .ok (.invokestatic 19, 3) := by decide +kernel
theorem dL_adds_58 : decode cL_adds 58 = .ok (.invokevirtual 24, 3) := by decide +kernel
theorem dL_adds_61 : decode cL_adds 61 = .ok (.sipush (-1001), 3) := by decide +kernel
theorem dL_adds_64 : decode cL_adds 64 = .ok (.if_icmp .ne 24, 3) := by decide +kernel
theorem dL_adds_67 : decode cL_adds 67 = .ok (.aload_n 0, 1) := by decide +kernel
theorem dL_adds_68 : decode cL_adds 68 = .ok (.iload 4, 2) := by decide +kernel
theorem dL_adds_70 : decode cL_adds 70 = .ok (.iload 5, 2) := by decide +kernel
theorem dL_adds_72 : decode cL_adds 72 = .ok (.invokestatic 27, 3) := by decide +kernel
theorem dL_adds_75 : decode cL_adds 75 = .ok (.invokevirtual 30, 3) := by decide +kernel
theorem dL_adds_78 : decode cL_adds 78 = .ok (.sipush (-1001), 3) := by decide +kernel
theorem dL_adds_81 : decode cL_adds 81 = .ok (.if_icmp .ne 7, 3) := by decide +kernel
theorem dL_adds_84 : decode cL_adds 84 = .ok (.iconst 1, 1) := by decide +kernel
theorem dL_adds_85 : decode cL_adds 85 = .ok (.goto 4, 3) := by decide +kernel
theorem dL_adds_88 : decode cL_adds 88 = .ok (.iconst 0, 1) := by decide +kernel
theorem dL_adds_89 : decode cL_adds 89 = .ok (.istore 6, 2) := by decide +kernel
theorem dL_adds_91 : decode cL_adds 91 = .ok (.iconst 0, 1) := by decide +kernel
theorem dL_adds_92 : decode cL_adds 92 = .ok (.istore 7, 2) := by decide +kernel
theorem dL_adds_94 : decode cL_adds 94 = .ok (.iload 7, 2) := by decide +kernel
theorem dL_adds_96 : decode cL_adds 96 = .ok (.iconst 3, 1) := by decide +kernel
theorem dL_adds_97 : decode cL_adds 97 = .ok (.if_icmp .ge 57, 3) := by decide +kernel
theorem dL_adds_100 : decode cL_adds 100 = .ok (.aload_n 2, 1) := by decide +kernel
theorem dL_adds_101 : decode cL_adds 101 = .ok (.iconst 3, 1) := by decide +kernel
theorem dL_adds_102 : decode cL_adds 102 = .ok (.iload 4, 2) := by decide +kernel
theorem dL_adds_104 : decode cL_adds 104 = .ok (.imul, 1) := by decide +kernel
theorem dL_adds_105 : decode cL_adds 105 = .ok (.iload 7, 2) := by decide +kernel
theorem dL_adds_107 : decode cL_adds 107 = .ok (.iadd, 1) := by decide +kernel
theorem dL_adds_108 : decode cL_adds 108 = .ok (.sipush (-1005), 3) := by decide +kernel
theorem dL_adds_111 : decode cL_adds 111 = .ok (.iastore, 1) := by decide +kernel
theorem dL_adds_112 : decode cL_adds 112 = .ok (.iload 6, 2) := by decide +kernel
theorem dL_adds_114 : decode cL_adds 114 = .ok (.ifCond .eq 31, 3) := by decide +kernel
theorem dL_adds_117 : decode cL_adds 117 = .ok (.iload 7, 2) := by decide +kernel
theorem dL_adds_119 : decode cL_adds 119 = .ok (.iload 5, 2) := by decide +kernel
theorem dL_adds_121 : decode cL_adds 121 = .ok (.invokestatic 19, 3) := by decide +kernel
theorem dL_adds_124 : decode cL_adds 124 = .ok (.if_icmp .ge 17, 3) := by decide +kernel
theorem dL_adds_127 : decode cL_adds 127 = .ok (.aload_n 0, 1) := by decide +kernel
theorem dL_adds_128 : decode cL_adds 128 = .ok (.iload 4, 2) := by decide +kernel
theorem dL_adds_130 : decode cL_adds 130 = .ok (.iload 7, 2) := by decide +kernel
theorem dL_adds_132 : decode cL_adds 132 = .ok (.invokevirtual 24, 3) := by decide +kernel
theorem dL_adds_135 : decode cL_adds 135 = .ok (.sipush (-1005), 3) := by decide +kernel
theorem dL_adds_138 : decode cL_adds 138 = .ok (.if_icmp .ne 7, 3) := by decide +kernel
theorem dL_adds_141 : decode cL_adds 141 = .ok (.iconst 1, 1) := by decide +kernel
theorem dL_adds_142 : decode cL_adds 142 = .ok (.goto 4, 3) := by decide +kernel
theorem dL_adds_145 : decode cL_adds 145 = .ok (.iconst 0, 1) := by decide +kernel
theorem dL_adds_146 : decode cL_adds 146 = .ok (.istore 6, 2) := by decide +kernel
theorem dL_adds_148 : decode cL_adds 148 = .ok (.iinc 7 1, 3) := by decide +kernel
theorem dL_adds_151 : decode cL_adds 151 = .ok (.goto (-57), 3) := by decide +kernel
theorem dL_adds_154 : decode cL_adds 154 = .ok (.iconst 0, 1) := by decide +kernel
theorem dL_adds_155 : decode cL_adds 155 = .ok (.istore 7, 2) := by decide +kernel
theorem dL_adds_157 : decode cL_adds 157 = .ok (.iload 7, 2) := by decide +kernel
theorem dL_adds_159 : decode cL_adds 159 = .ok (.iconst 4, 1) := by decide +kernel
theorem dL_adds_160 : decode cL_adds 160 = .ok (.if_icmp .ge 100, 3) := by decide +kernel
theorem dL_adds_163 : decode cL_adds 163 = .ok (.aload_n 3, 1) := by decide +kernel
theorem dL_adds_164 : decode cL_adds 164 = .ok (.iconst 4, 1) := by decide +kernel
theorem dL_adds_165 : decode cL_adds 165 = .ok (.iload 4, 2) := by decide +kernel
theorem dL_adds_167 : decode cL_adds 167 = .ok (.imul, 1) := by decide +kernel
theorem dL_adds_168 : decode cL_adds 168 = .ok (.iload 7, 2) := by decide +kernel
theorem dL_adds_170 : decode cL_adds 170 = .ok (.iadd, 1) := by decide +kernel
theorem dL_adds_171 : decode cL_adds 171 = .ok (.iload 5, 2) := by decide +kernel
theorem dL_adds_173 : decode cL_adds 173 = .ok (.iconst 1, 1) := by decide +kernel
theorem dL_adds_174 : decode cL_adds 174 = .ok (.if_icmp .ne 8, 3) := by decide +kernel
theorem dL_adds_177 : decode cL_adds 177 = .ok (.bipush 16, 2) := by decide +kernel
theorem dL_adds_179 : decode cL_adds 179 = .ok (.goto 32, 3) := by decide +kernel
theorem dL_adds_182 : decode cL_adds 182 = .ok (.iload 5, 2) := by decide +kernel
theorem dL_adds_184 : decode cL_adds 184 = .ok (.iconst 4, 1) := by decide +kernel
theorem dL_adds_185 : decode cL_adds 185 = .ok (.if_icmp .ne 7, 3) := by decide +kernel
theorem dL_adds_188 : decode cL_adds 188 = .ok (.iconst 1, 1) := by decide +kernel
theorem dL_adds_189 : decode cL_adds 189 = .ok (.goto 22, 3) := by decide +kernel
theorem dL_adds_192 : decode cL_adds 192 = .ok (.iload 5, 2) := by decide +kernel
theorem dL_adds_194 : decode cL_adds 194 = .ok (.iconst 5, 1) := by decide +kernel
theorem dL_adds_195 : decode cL_adds 195 = .ok (.if_icmp .ne 15, 3) := by decide +kernel
theorem dL_adds_198 : decode cL_adds 198 = .ok (.iload 7, 2) := by decide +kernel
theorem dL_adds_200 : decode cL_adds 200 = .ok (.iconst 2, 1) := by decide +kernel
theorem dL_adds_201 : decode cL_adds 201 = .ok (.if_icmp .ne 9, 3) := by decide +kernel
theorem dL_adds_204 : decode cL_adds 204 = .ok (.sipush 255, 3) := by decide +kernel
theorem dL_adds_207 : decode cL_adds 207 = .ok (.goto 4, 3) := by decide +kernel
theorem dL_adds_210 : decode cL_adds 210 = .ok (.iconst 0, 1) := by decide +kernel
theorem dL_adds_211 : decode cL_adds 211 = .ok (.iastore, 1) := by decide +kernel
theorem dL_adds_212 : decode cL_adds 212 = .ok (.iload 6, 2) := by decide +kernel
theorem dL_adds_214 : decode cL_adds 214 = .ok (.ifCond .eq 37, 3) := by decide +kernel
theorem dL_adds_217 : decode cL_adds 217 = .ok (.iload 7, 2) := by decide +kernel
theorem dL_adds_219 : decode cL_adds 219 = .ok (.iload 5, 2) := by decide +kernel
theorem dL_adds_221 : decode cL_adds 221 = .ok (.invokestatic 27, 3) := by decide +kernel
theorem dL_adds_224 : decode cL_adds 224 = .ok (.if_icmp .ge 23, 3) := by decide +kernel
theorem dL_adds_227 : decode cL_adds 227 = .ok (.aload_n 0, 1) := by decide +kernel
theorem dL_adds_228 : decode cL_adds 228 = .ok (.iload 4, 2) := by decide +kernel
theorem dL_adds_230 : decode cL_adds 230 = .ok (.iload 7, 2) := by decide +kernel
theorem dL_adds_232 : decode cL_adds 232 = .ok (.invokevirtual 30, 3) := by decide +kernel
theorem dL_adds_235 : decode cL_adds 235 = .ok (.aload_n 3, 1) := by decide +kernel
theorem dL_adds_236 : decode cL_adds 236 = .ok (.iconst 4, 1) := by decide +kernel
theorem dL_adds_237 : decode cL_adds 237 = .ok (.iload 4, 2) := by decide +kernel
theorem dL_adds_239 : decode cL_adds 239 = .ok (.imul, 1) := by decide +kernel
theorem dL_adds_240 : decode cL_adds 240 = .ok (.iload 7, 2) := by decide +kernel
theorem dL_adds_242 : decode cL_adds 242 = .ok (.iadd, 1) := by decide +kernel
theorem dL_adds_243 : decode cL_adds 243 = .ok (.iaload, 1) := by decide +kernel
theorem dL_adds_244 : decode cL_adds 244 = .ok (.if_icmp .ne 7, 3) := by decide +kernel
theorem dL_adds_247 : decode cL_adds 247 = .ok (.iconst 1, 1) := by decide +kernel
theorem dL_adds_248 : decode cL_adds 248 = .ok (.goto 4, 3) := by decide +kernel
theorem dL_adds_251 : decode cL_adds 251 = .ok (.iconst 0, 1) := by decide +kernel
theorem dL_adds_252 : decode cL_adds 252 = .ok (.istore 6, 2) := by decide +kernel
theorem dL_adds_254 : decode cL_adds 254 = .ok (.iinc 7 1, 3) := by decide +kernel
theorem dL_adds_257 : decode cL_adds 257 = .ok (.goto (-100), 3) := by decide +kernel
theorem dL_adds_260 : decode cL_adds 260 = .ok (.iload 6, 2) := by decide +kernel
theorem dL_adds_262 : decode cL_adds 262 = .ok (.ireturn, 1) := by decide +kernel
theorem dL_cell_0 : decode cL_cell 0 = .ok (.iload_n 1, 1) := by decide +kernel
theorem dL_cell_1 : decode cL_cell 1 = .ok (.aload_n 0, 1) := by decide +kernel
theorem dL_cell_2 : decode cL_cell 2 = .ok (.arraylength, 1) := by decide +kernel
theorem dL_cell_3 : decode cL_cell 3 = .ok (.if_icmp .ge 9, 3) := by decide +kernel
theorem dL_cell_6 : decode cL_cell 6 = .ok (.aload_n 0, 1) := by decide +kernel
theorem dL_cell_7 : decode cL_cell 7 = .ok (.iload_n 1, 1) := by decide +kernel
theorem dL_cell_8 : decode cL_cell 8 = .ok (.iaload, 1) := by decide +kernel
theorem dL_cell_9 : decode cL_cell 9 = .ok (.goto 11, 3) := by decide +kernel
theorem dL_cell_12 : decode cL_cell 12 = .ok (.ldc 7, 2) := by decide +kernel
theorem dL_cell_14 : decode cL_cell 14 = .ok (.iload_n 1, 1) := by decide +kernel
theorem dL_cell_15 : decode cL_cell 15 = .ok (.imul, 1) := by decide +kernel
theorem dL_cell_16 : decode cL_cell 16 = .ok (.sipush 431, 3) := by decide +kernel
theorem dL_cell_19 : decode cL_cell 19 = .ok (.iadd, 1) := by decide +kernel
theorem dL_cell_20 : decode cL_cell 20 = .ok (.ldc 8, 2) := by decide +kernel
theorem dL_cell_22 : decode cL_cell 22 = .ok (.iand, 1) := by decide +kernel
theorem dL_cell_23 : decode cL_cell 23 = .ok (.ireturn, 1) := by decide +kernel
theorem dL_depends_0 : decode cL_depends 0 = .ok (.iconst 1, 1) := by decide +kernel
theorem dL_depends_1 : decode cL_depends 1 = .ok (.iload_n 2, 1) := by decide +kernel
theorem dL_depends_2 : decode cL_depends 2 = .ok (.ishl, 1) := by decide +kernel
theorem dL_depends_3 : decode cL_depends 3 = .ok (.istore 4, 2) := by decide +kernel
theorem dL_depends_5 : decode cL_depends 5 = .ok (.iconst 0, 1) := by decide +kernel
theorem dL_depends_6 : decode cL_depends 6 = .ok (.istore 5, 2) := by decide +kernel
theorem dL_depends_8 : decode cL_depends 8 = .ok (.iload 5, 2) := by decide +kernel
theorem dL_depends_10 : decode cL_depends 10 = .ok (.iload_n 1, 1) := by decide +kernel
theorem dL_depends_11 : decode cL_depends 11 = .ok (.if_icmp .ge 61, 3) := by decide +kernel
theorem dL_depends_14 : decode cL_depends 14 = .ok (.iconst 0, 1) := by decide +kernel
theorem dL_depends_15 : decode cL_depends 15 = .ok (.istore 6, 2) := by decide +kernel
theorem dL_depends_17 : decode cL_depends 17 = .ok (.iload 6, 2) := by decide +kernel
theorem dL_depends_19 : decode cL_depends 19 = .ok (.iconst 3, 1) := by decide +kernel
theorem dL_depends_20 : decode cL_depends 20 = .ok (.iload_n 1, 1) := by decide +kernel
theorem dL_depends_21 : decode cL_depends 21 = .ok (.imul, 1) := by decide +kernel
theorem dL_depends_22 : decode cL_depends 22 = .ok (.if_icmp .ge 44, 3) := by decide +kernel
theorem dL_depends_25 : decode cL_depends 25 = .ok (.iload 4, 2) := by decide +kernel
theorem dL_depends_27 : decode cL_depends 27 = .ok (.iload 4, 2) := by decide +kernel
theorem dL_depends_29 : decode cL_depends 29 = .ok (.iload 6, 2) := by decide +kernel
theorem dL_depends_31 : decode cL_depends 31 = .ok (.iconst 3, 1) := by decide +kernel
theorem dL_depends_32 : decode cL_depends 32 = .ok (.idiv, 1) := by decide +kernel
theorem dL_depends_33 : decode cL_depends 33 = .ok (.ishr, 1) := by decide +kernel
theorem dL_depends_34 : decode cL_depends 34 = .ok (.iconst 1, 1) := by decide +kernel
theorem dL_depends_35 : decode cL_depends 35 = .ok (.iand, 1) := by decide +kernel
theorem dL_depends_36 : decode cL_depends 36 = .ok (.iconst 1, 1) := by decide +kernel
theorem dL_depends_37 : decode cL_depends 37 = .ok (.if_icmp .ne 19, 3) := by decide +kernel
theorem dL_depends_40 : decode cL_depends 40 = .ok (.aload_n 0, 1) := by decide +kernel
theorem dL_depends_41 : decode cL_depends 41 = .ok (.iload 6, 2) := by decide +kernel
theorem dL_depends_43 : decode cL_depends 43 = .ok (.iaload, 1) := by decide +kernel
theorem dL_depends_44 : decode cL_depends 44 = .ok (.ifCond .lt 12, 3) := by decide +kernel
theorem dL_depends_47 : decode cL_depends 47 = .ok (.iconst 1, 1) := by decide +kernel
theorem dL_depends_48 : decode cL_depends 48 = .ok (.aload_n 0, 1) := by decide +kernel
theorem dL_depends_49 : decode cL_depends 49 = .ok (.iload 6, 2) := by decide +kernel
theorem dL_depends_51 : decode cL_depends 51 = .ok (.iaload, 1) := by decide +kernel
theorem dL_depends_52 : decode cL_depends 52 = .ok (.ishl, 1) := by decide +kernel
theorem dL_depends_53 : decode cL_depends 53 = .ok (.goto 4, 3) := by decide +kernel
theorem dL_depends_56 : decode cL_depends 56 = .ok (.iconst 0, 1) := by decide +kernel
theorem dL_depends_57 : decode cL_depends 57 = .ok (.ior, 1) := by decide +kernel
theorem dL_depends_58 : decode cL_depends 58 = .ok (.istore 4, 2) := by decide +kernel
theorem dL_depends_60 : decode cL_depends 60 = .ok (.iinc 6 1, 3) := by decide +kernel
theorem dL_depends_63 : decode cL_depends 63 = .ok (.goto (-46), 3) := by decide +kernel
theorem dL_depends_66 : decode cL_depends 66 = .ok (.iinc 5 1, 3) := by decide +kernel
theorem dL_depends_69 : decode cL_depends 69 = .ok (.goto (-61), 3) := by decide +kernel
theorem dL_depends_72 : decode cL_depends 72 = .ok (.iload 4, 2) := by decide +kernel
theorem dL_depends_74 : decode cL_depends 74 = .ok (.iload_n 3, 1) := by decide +kernel
theorem dL_depends_75 : decode cL_depends 75 = .ok (.ishr, 1) := by decide +kernel
theorem dL_depends_76 : decode cL_depends 76 = .ok (.iconst 1, 1) := by decide +kernel
theorem dL_depends_77 : decode cL_depends 77 = .ok (.iand, 1) := by decide +kernel
theorem dL_depends_78 : decode cL_depends 78 = .ok (.iconst 1, 1) := by decide +kernel
theorem dL_depends_79 : decode cL_depends 79 = .ok (.if_icmp .ne 7, 3) := by decide +kernel
theorem dL_depends_82 : decode cL_depends 82 = .ok (.iconst 1, 1) := by decide +kernel
theorem dL_depends_83 : decode cL_depends 83 = .ok (.goto 4, 3) := by decide +kernel
theorem dL_depends_86 : decode cL_depends 86 = .ok (.iconst 0, 1) := by decide +kernel
theorem dL_depends_87 : decode cL_depends 87 = .ok (.ireturn, 1) := by decide +kernel
theorem dL_high_0 : decode cL_high 0 = .ok (.iload_n 0, 1) := by decide +kernel
theorem dL_high_1 : decode cL_high 1 = .ok (.ifCond .ne 9, 3) := by decide +kernel
theorem dL_high_4 : decode cL_high 4 = .ok (.sipush 999, 3) := by decide +kernel
theorem dL_high_7 : decode cL_high 7 = .ok (.goto 54, 3) := by decide +kernel
theorem dL_high_10 : decode cL_high 10 = .ok (.iload_n 0, 1) := by decide +kernel
theorem dL_high_11 : decode cL_high 11 = .ok (.iconst 1, 1) := by decide +kernel
theorem dL_high_12 : decode cL_high 12 = .ok (.if_icmp .ne 8, 3) := by decide +kernel
theorem dL_high_15 : decode cL_high 15 = .ok (.bipush 64, 2) := by decide +kernel
theorem dL_high_17 : decode cL_high 17 = .ok (.goto 44, 3) := by decide +kernel
theorem dL_high_20 : decode cL_high 20 = .ok (.iload_n 0, 1) := by decide +kernel
theorem dL_high_21 : decode cL_high 21 = .ok (.iconst 2, 1) := by decide +kernel
theorem dL_high_22 : decode cL_high 22 = .ok (.if_icmp .ne 9, 3) := by decide +kernel
theorem dL_high_25 : decode cL_high 25 = .ok (.sipush 255, 3) := by decide +kernel
theorem dL_high_28 : decode cL_high 28 = .ok (.goto 33, 3) := by decide +kernel
theorem dL_high_31 : decode cL_high 31 = .ok (.iload_n 0, 1) := by decide +kernel
theorem dL_high_32 : decode cL_high 32 = .ok (.iconst 4, 1) := by decide +kernel
theorem dL_high_33 : decode cL_high 33 = .ok (.if_icmp .ne 7, 3) := by decide +kernel
theorem dL_high_36 : decode cL_high 36 = .ok (.iconst 3, 1) := by decide +kernel
theorem dL_high_37 : decode cL_high 37 = .ok (.goto 24, 3) := by decide +kernel
theorem dL_high_40 : decode cL_high 40 = .ok (.iload_n 1, 1) := by decide +kernel
theorem dL_high_41 : decode cL_high 41 = .ok (.ifCond .ne 7, 3) := by decide +kernel
theorem dL_high_44 : decode cL_high 44 = .ok (.iconst 2, 1) := by decide +kernel
theorem dL_high_45 : decode cL_high 45 = .ok (.goto 16, 3) := by decide +kernel
theorem dL_high_48 : decode cL_high 48 = .ok (.iload_n 1, 1) := by decide +kernel
theorem dL_high_49 : decode cL_high 49 = .ok (.iconst 3, 1) := by decide +kernel
theorem dL_high_50 : decode cL_high 50 = .ok (.if_icmp .ne 8, 3) := by decide +kernel
theorem dL_high_53 : decode cL_high 53 = .ok (.bipush 99, 2) := by decide +kernel
theorem dL_high_55 : decode cL_high 55 = .ok (.goto 6, 3) := by decide +kernel
theorem dL_high_58 : decode cL_high 58 = .ok (.sipush 255, 3) := by decide +kernel
theorem dL_high_61 : decode cL_high 61 = .ok (.ireturn, 1) := by decide +kernel
theorem dL_inputs_0 : decode cL_inputs 0 = .ok (.iload_n 0, 1) := by decide +kernel
theorem dL_inputs_1 : decode cL_inputs 1 = .ok (.ifCond .ne 7, 3) := by decide +kernel
theorem dL_inputs_4 : decode cL_inputs 4 = .ok (.iconst 0, 1) := by decide +kernel
theorem dL_inputs_5 : decode cL_inputs 5 = .ok (.goto 14, 3) := by decide +kernel
theorem dL_inputs_8 : decode cL_inputs 8 = .ok (.iload_n 0, 1) := by decide +kernel
theorem dL_inputs_9 : decode cL_inputs 9 = .ok (.bipush 6, 2) := by decide +kernel
theorem dL_inputs_11 : decode cL_inputs 11 = .ok (.if_icmp .ne 7, 3) := by decide +kernel
theorem dL_inputs_14 : decode cL_inputs 14 = .ok (.iconst 3, 1) := by decide +kernel
theorem dL_inputs_15 : decode cL_inputs 15 = .ok (.goto 4, 3) := by decide +kernel
theorem dL_inputs_18 : decode cL_inputs 18 = .ok (.iconst 1, 1) := by decide +kernel
theorem dL_inputs_19 : decode cL_inputs 19 = .ok (.ireturn, 1) := by decide +kernel
theorem dL_law_0 : decode cL_law 0 = .ok (.new 10, 3) := by decide +kernel
theorem dL_law_3 : decode cL_law 3 = .ok (.dup, 1) := by decide +kernel
theorem dL_law_4 : decode cL_law 4 = .ok (.invokespecial 86, 3) := by decide +kernel
theorem dL_law_7 : decode cL_law 7 = .ok (.astore_n 1, 1) := by decide +kernel
theorem dL_law_8 : decode cL_law 8 = .ok (.bipush 36, 2) := by decide +kernel
theorem dL_law_10 : decode cL_law 10 = .ok (.newarray .int, 2) := by decide +kernel
theorem dL_law_12 : decode cL_law 12 = .ok (.astore_n 2, 1) := by decide +kernel
theorem dL_law_13 : decode cL_law 13 = .ok (.bipush 36, 2) := by decide +kernel
theorem dL_law_15 : decode cL_law 15 = .ok (.newarray .int, 2) := by decide +kernel
theorem dL_law_17 : decode cL_law 17 = .ok (.astore_n 3, 1) := by decide +kernel
theorem dL_law_18 : decode cL_law 18 = .ok (.bipush 48, 2) := by decide +kernel
theorem dL_law_20 : decode cL_law 20 = .ok (.newarray .int, 2) := by decide +kernel
theorem dL_law_22 : decode cL_law 22 = .ok (.astore 4, 2) := by decide +kernel
theorem dL_law_24 : decode cL_law 24 = .ok (.aload_n 0, 1) := by decide +kernel
theorem dL_law_25 : decode cL_law 25 = .ok (.iconst 0, 1) := by decide +kernel
theorem dL_law_26 : decode cL_law 26 = .ok (.invokestatic 87, 3) := by decide +kernel
theorem dL_law_29 : decode cL_law 29 = .ok (.istore 5, 2) := by decide +kernel
theorem dL_law_31 : decode cL_law 31 = .ok (.iconst 3, 1) := by decide +kernel
theorem dL_law_32 : decode cL_law 32 = .ok (.iload 5, 2) := by decide +kernel
theorem dL_law_34 : decode cL_law 34 = .ok (.bipush 7, 2) := by decide +kernel
theorem dL_law_36 : decode cL_law 36 = .ok (.irem, 1) := by decide +kernel
theorem dL_law_37 : decode cL_law 37 = .ok (.iadd, 1) := by decide +kernel
theorem dL_law_38 : decode cL_law 38 = .ok (.istore 6, 2) := by decide +kernel
theorem dL_law_40 : decode cL_law 40 = .ok (.aload_n 1, 1) := by decide +kernel
theorem dL_law_41 : decode cL_law 41 = .ok (.iconst 0, 1) := by decide +kernel
theorem dL_law_42 : decode cL_law 42 = .ok (.invokevirtual 50, 3) := by decide +kernel
theorem dL_law_45 : decode cL_law 45 = .ok (.sipush (-1003), 3) := by decide +kernel
theorem dL_law_48 : decode cL_law 48 = .ok (.if_icmp .ne 24, 3) := by decide +kernel
theorem dL_law_51 : decode cL_law 51 = .ok (.aload_n 1, 1) := by decide +kernel
theorem dL_law_52 : decode cL_law 52 = .ok (.invokevirtual 91, 3) := by decide +kernel
theorem dL_law_55 : decode cL_law 55 = .ok (.sipush (-1003), 3) := by decide +kernel
theorem dL_law_58 : decode cL_law 58 = .ok (.if_icmp .ne 14, 3) := by decide +kernel
theorem dL_law_61 : decode cL_law 61 = .ok (.aload_n 1, 1) := by decide +kernel
theorem dL_law_62 : decode cL_law 62 = .ok (.invokevirtual 94, 3) := by decide +kernel
theorem dL_law_65 : decode cL_law 65 = .ok (.ifCond .ne 7, 3) := by decide +kernel
theorem dL_law_68 : decode cL_law 68 = .ok (.iconst 1, 1) := by decide +kernel
theorem dL_law_69 : decode cL_law 69 = .ok (.goto 4, 3) := by decide +kernel
theorem dL_law_72 : decode cL_law 72 = .ok (.iconst 0, 1) := by decide +kernel
theorem dL_law_73 : decode cL_law 73 = .ok (.istore 7, 2) := by decide +kernel
theorem dL_law_75 : decode cL_law 75 = .ok (.iconst 0, 1) := by decide +kernel
theorem dL_law_76 : decode cL_law 76 = .ok (.istore 8, 2) := by decide +kernel
theorem dL_law_78 : decode cL_law 78 = .ok (.iload 8, 2) := by decide +kernel
theorem dL_law_80 : decode cL_law 80 = .ok (.iload 6, 2) := by decide +kernel
theorem dL_law_82 : decode cL_law 82 = .ok (.if_icmp .ge 54, 3) := by decide +kernel
theorem dL_law_85 : decode cL_law 85 = .ok (.iload 7, 2) := by decide +kernel
theorem dL_law_87 : decode cL_law 87 = .ok (.ifCond .eq 49, 3) := by decide +kernel
theorem dL_law_90 : decode cL_law 90 = .ok (.aload_n 0, 1) := by decide +kernel
theorem dL_law_91 : decode cL_law 91 = .ok (.iconst 1, 1) := by decide +kernel
theorem dL_law_92 : decode cL_law 92 = .ok (.iload 8, 2) := by decide +kernel
theorem dL_law_94 : decode cL_law 94 = .ok (.iadd, 1) := by decide +kernel
theorem dL_law_95 : decode cL_law 95 = .ok (.invokestatic 87, 3) := by decide +kernel
theorem dL_law_98 : decode cL_law 98 = .ok (.istore 9, 2) := by decide +kernel
theorem dL_law_100 : decode cL_law 100 = .ok (.aload_n 1, 1) := by decide +kernel
theorem dL_law_101 : decode cL_law 101 = .ok (.aload_n 2, 1) := by decide +kernel
theorem dL_law_102 : decode cL_law 102 = .ok (.aload_n 3, 1) := by decide +kernel
theorem dL_law_103 : decode cL_law 103 = .ok (.aload 4, 2) := by decide +kernel
theorem dL_law_105 : decode cL_law 105 = .ok (.iload 8, 2) := by decide +kernel
theorem dL_law_107 : decode cL_law 107 = .ok (.iload 9, 2) := by decide +kernel
theorem dL_law_109 : decode cL_law 109 = .ok (.iconst 3, 1) := by decide +kernel
theorem dL_law_110 : decode cL_law 110 = .ok (.irem, 1) := by decide +kernel
theorem dL_law_111 : decode cL_law 111 = .ok (.ifCond .ne 7, 3) := by decide +kernel
theorem dL_law_114 : decode cL_law 114 = .ok (.iconst 0, 1) := by decide +kernel
theorem dL_law_115 : decode cL_law 115 = .ok (.goto 10, 3) := by decide +kernel
theorem dL_law_118 : decode cL_law 118 = .ok (.iload 9, 2) := by decide +kernel
theorem dL_law_120 : decode cL_law 120 = .ok (.iconst 2, 1) := by decide +kernel
theorem dL_law_121 : decode cL_law 121 = .ok (.ishr, 1) := by decide +kernel
theorem dL_law_122 : decode cL_law 122 = .ok (.bipush 7, 2) := by decide +kernel
theorem dL_law_124 : decode cL_law 124 = .ok (.irem, 1) := by decide +kernel
theorem dL_law_125 : decode cL_law 125 = .ok (.invokestatic 97, 3) := by decide +kernel
theorem dL_law_128 : decode cL_law 128 = .ok (.istore 7, 2) := by decide +kernel
theorem dL_law_130 : decode cL_law 130 = .ok (.iinc 8 1, 3) := by decide +kernel
theorem dL_law_133 : decode cL_law 133 = .ok (.goto (-55), 3) := by decide +kernel
theorem dL_law_136 : decode cL_law 136 = .ok (.iconst 0, 1) := by decide +kernel
theorem dL_law_137 : decode cL_law 137 = .ok (.istore 8, 2) := by decide +kernel
theorem dL_law_139 : decode cL_law 139 = .ok (.iload 8, 2) := by decide +kernel
theorem dL_law_141 : decode cL_law 141 = .ok (.bipush 22, 2) := by decide +kernel
theorem dL_law_143 : decode cL_law 143 = .ok (.if_icmp .ge 494, 3) := by decide +kernel
theorem dL_law_146 : decode cL_law 146 = .ok (.iload 7, 2) := by decide +kernel
theorem dL_law_148 : decode cL_law 148 = .ok (.ifCond .eq 489, 3) := by decide +kernel
theorem dL_law_151 : decode cL_law 151 = .ok (.aload_n 0, 1) := by decide +kernel
theorem dL_law_152 : decode cL_law 152 = .ok (.bipush 11, 2) := by decide +kernel
theorem dL_law_154 : decode cL_law 154 = .ok (.iload 8, 2) := by decide +kernel
theorem dL_law_156 : decode cL_law 156 = .ok (.iadd, 1) := by decide +kernel
theorem dL_law_157 : decode cL_law 157 = .ok (.invokestatic 87, 3) := by decide +kernel
theorem dL_law_160 : decode cL_law 160 = .ok (.istore 9, 2) := by decide +kernel
theorem dL_law_162 : decode cL_law 162 = .ok (.iload 9, 2) := by decide +kernel
theorem dL_law_164 : decode cL_law 164 = .ok (.iconst 3, 1) := by decide +kernel
theorem dL_law_165 : decode cL_law 165 = .ok (.ishr, 1) := by decide +kernel
theorem dL_law_166 : decode cL_law 166 = .ok (.iload 6, 2) := by decide +kernel
theorem dL_law_168 : decode cL_law 168 = .ok (.irem, 1) := by decide +kernel
theorem dL_law_169 : decode cL_law 169 = .ok (.istore 10, 2) := by decide +kernel
theorem dL_law_171 : decode cL_law 171 = .ok (.iconst 0, 1) := by decide +kernel
theorem dL_law_172 : decode cL_law 172 = .ok (.istore 11, 2) := by decide +kernel
theorem dL_law_174 : decode cL_law 174 = .ok (.iload 9, 2) := by decide +kernel
theorem dL_law_176 : decode cL_law 176 = .ok (.bipush 7, 2) := by decide +kernel
theorem dL_law_178 : decode cL_law 178 = .ok (.iand, 1) := by decide +kernel
theorem dL_law_179 : decode cL_law 179 = .ok (.tableswitch 342 0 6 #[41, 41, 41, 172, 172, 253, 301], 41) := by decide +kernel
theorem dL_law_220 : decode cL_law 220 = .ok (.iload 9, 2) := by decide +kernel
theorem dL_law_222 : decode cL_law 222 = .ok (.bipush 7, 2) := by decide +kernel
theorem dL_law_224 : decode cL_law 224 = .ok (.ishr, 1) := by decide +kernel
theorem dL_law_225 : decode cL_law 225 = .ok (.iload 6, 2) := by decide +kernel
theorem dL_law_227 : decode cL_law 227 = .ok (.irem, 1) := by decide +kernel
theorem dL_law_228 : decode cL_law 228 = .ok (.istore 12, 2) := by decide +kernel
theorem dL_law_230 : decode cL_law 230 = .ok (.iload 9, 2) := by decide +kernel
theorem dL_law_232 : decode cL_law 232 = .ok (.bipush 11, 2) := by decide +kernel
theorem dL_law_234 : decode cL_law 234 = .ok (.ishr, 1) := by decide +kernel
theorem dL_law_235 : decode cL_law 235 = .ok (.iconst 3, 1) := by decide +kernel
theorem dL_law_236 : decode cL_law 236 = .ok (.irem, 1) := by decide +kernel
theorem dL_law_237 : decode cL_law 237 = .ok (.aload_n 2, 1) := by decide +kernel
theorem dL_law_238 : decode cL_law 238 = .ok (.iconst 3, 1) := by decide +kernel
theorem dL_law_239 : decode cL_law 239 = .ok (.iload 10, 2) := by decide +kernel
theorem dL_law_241 : decode cL_law 241 = .ok (.imul, 1) := by decide +kernel
theorem dL_law_242 : decode cL_law 242 = .ok (.iaload, 1) := by decide +kernel
theorem dL_law_243 : decode cL_law 243 = .ok (.invokestatic 19, 3) := by decide +kernel
theorem dL_law_246 : decode cL_law 246 = .ok (.if_icmp .ge 20, 3) := by decide +kernel
theorem dL_law_249 : decode cL_law 249 = .ok (.aload_n 3, 1) := by decide +kernel
theorem dL_law_250 : decode cL_law 250 = .ok (.iload 6, 2) := by decide +kernel
theorem dL_law_252 : decode cL_law 252 = .ok (.iload 12, 2) := by decide +kernel
theorem dL_law_254 : decode cL_law 254 = .ok (.iload 10, 2) := by decide +kernel
theorem dL_law_256 : decode cL_law 256 = .ok (.invokestatic 101, 3) := by decide +kernel
theorem dL_law_259 : decode cL_law 259 = .ok (.ifCond .ne 7, 3) := by decide +kernel
theorem dL_law_262 : decode cL_law 262 = .ok (.iconst 1, 1) := by decide +kernel
theorem dL_law_263 : decode cL_law 263 = .ok (.goto 4, 3) := by decide +kernel
theorem dL_law_266 : decode cL_law 266 = .ok (.iconst 0, 1) := by decide +kernel
theorem dL_law_267 : decode cL_law 267 = .ok (.istore 13, 2) := by decide +kernel
theorem dL_law_269 : decode cL_law 269 = .ok (.aload_n 1, 1) := by decide +kernel
theorem dL_law_270 : decode cL_law 270 = .ok (.iload 10, 2) := by decide +kernel
theorem dL_law_272 : decode cL_law 272 = .ok (.iload 9, 2) := by decide +kernel
theorem dL_law_274 : decode cL_law 274 = .ok (.bipush 11, 2) := by decide +kernel
theorem dL_law_276 : decode cL_law 276 = .ok (.ishr, 1) := by decide +kernel
theorem dL_law_277 : decode cL_law 277 = .ok (.iconst 3, 1) := by decide +kernel
theorem dL_law_278 : decode cL_law 278 = .ok (.irem, 1) := by decide +kernel
theorem dL_law_279 : decode cL_law 279 = .ok (.iload 12, 2) := by decide +kernel
theorem dL_law_281 : decode cL_law 281 = .ok (.invokevirtual 68, 3) := by decide +kernel
theorem dL_law_284 : decode cL_law 284 = .ok (.istore 11, 2) := by decide +kernel
theorem dL_law_286 : decode cL_law 286 = .ok (.iload 13, 2) := by decide +kernel
theorem dL_law_288 : decode cL_law 288 = .ok (.ifCond .eq 19, 3) := by decide +kernel
theorem dL_law_291 : decode cL_law 291 = .ok (.aload_n 3, 1) := by decide +kernel
theorem dL_law_292 : decode cL_law 292 = .ok (.iconst 3, 1) := by decide +kernel
theorem dL_law_293 : decode cL_law 293 = .ok (.iload 10, 2) := by decide +kernel
theorem dL_law_295 : decode cL_law 295 = .ok (.imul, 1) := by decide +kernel
theorem dL_law_296 : decode cL_law 296 = .ok (.iload 9, 2) := by decide +kernel
theorem dL_law_298 : decode cL_law 298 = .ok (.bipush 11, 2) := by decide +kernel
theorem dL_law_300 : decode cL_law 300 = .ok (.ishr, 1) := by decide +kernel
theorem dL_law_301 : decode cL_law 301 = .ok (.iconst 3, 1) := by decide +kernel
theorem dL_law_302 : decode cL_law 302 = .ok (.irem, 1) := by decide +kernel
theorem dL_law_303 : decode cL_law 303 = .ok (.iadd, 1) := by decide +kernel
theorem dL_law_304 : decode cL_law 304 = .ok (.iload 12, 2) := by decide +kernel
theorem dL_law_306 : decode cL_law 306 = .ok (.iastore, 1) := by decide +kernel
theorem dL_law_307 : decode cL_law 307 = .ok (.iload 13, 2) := by decide +kernel
theorem dL_law_309 : decode cL_law 309 = .ok (.ifCond .eq 16, 3) := by decide +kernel
theorem dL_law_312 : decode cL_law 312 = .ok (.iload 11, 2) := by decide +kernel
theorem dL_law_314 : decode cL_law 314 = .ok (.ifCond .lt 7, 3) := by decide +kernel
theorem dL_law_317 : decode cL_law 317 = .ok (.iconst 1, 1) := by decide +kernel
theorem dL_law_318 : decode cL_law 318 = .ok (.goto 28, 3) := by decide +kernel
theorem dL_law_321 : decode cL_law 321 = .ok (.iconst 0, 1) := by decide +kernel
theorem dL_law_322 : decode cL_law 322 = .ok (.goto 24, 3) := by decide +kernel
theorem dL_law_325 : decode cL_law 325 = .ok (.iload 11, 2) := by decide +kernel
theorem dL_law_327 : decode cL_law 327 = .ok (.sipush (-1001), 3) := by decide +kernel
theorem dL_law_330 : decode cL_law 330 = .ok (.if_icmp .eq 11, 3) := by decide +kernel
theorem dL_law_333 : decode cL_law 333 = .ok (.iload 11, 2) := by decide +kernel
theorem dL_law_335 : decode cL_law 335 = .ok (.sipush (-1003), 3) := by decide +kernel
theorem dL_law_338 : decode cL_law 338 = .ok (.if_icmp .ne 7, 3) := by decide +kernel
theorem dL_law_341 : decode cL_law 341 = .ok (.iconst 1, 1) := by decide +kernel
theorem dL_law_342 : decode cL_law 342 = .ok (.goto 4, 3) := by decide +kernel
theorem dL_law_345 : decode cL_law 345 = .ok (.iconst 0, 1) := by decide +kernel
theorem dL_law_346 : decode cL_law 346 = .ok (.istore 7, 2) := by decide +kernel
theorem dL_law_348 : decode cL_law 348 = .ok (.goto 217, 3) := by decide +kernel
theorem dL_law_351 : decode cL_law 351 = .ok (.aload_n 1, 1) := by decide +kernel
theorem dL_law_352 : decode cL_law 352 = .ok (.iload 10, 2) := by decide +kernel
theorem dL_law_354 : decode cL_law 354 = .ok (.iload 9, 2) := by decide +kernel
theorem dL_law_356 : decode cL_law 356 = .ok (.bipush 7, 2) := by decide +kernel
theorem dL_law_358 : decode cL_law 358 = .ok (.ishr, 1) := by decide +kernel
theorem dL_law_359 : decode cL_law 359 = .ok (.iconst 4, 1) := by decide +kernel
theorem dL_law_360 : decode cL_law 360 = .ok (.irem, 1) := by decide +kernel
theorem dL_law_361 : decode cL_law 361 = .ok (.iload 9, 2) := by decide +kernel
theorem dL_law_363 : decode cL_law 363 = .ok (.bipush 9, 2) := by decide +kernel
theorem dL_law_365 : decode cL_law 365 = .ok (.ishr, 1) := by decide +kernel
theorem dL_law_366 : decode cL_law 366 = .ok (.bipush 100, 2) := by decide +kernel
theorem dL_law_368 : decode cL_law 368 = .ok (.irem, 1) := by decide +kernel
theorem dL_law_369 : decode cL_law 369 = .ok (.invokevirtual 71, 3) := by decide +kernel
theorem dL_law_372 : decode cL_law 372 = .ok (.istore 11, 2) := by decide +kernel
theorem dL_law_374 : decode cL_law 374 = .ok (.iload 9, 2) := by decide +kernel
theorem dL_law_376 : decode cL_law 376 = .ok (.bipush 7, 2) := by decide +kernel
theorem dL_law_378 : decode cL_law 378 = .ok (.ishr, 1) := by decide +kernel
theorem dL_law_379 : decode cL_law 379 = .ok (.iconst 4, 1) := by decide +kernel
theorem dL_law_380 : decode cL_law 380 = .ok (.irem, 1) := by decide +kernel
theorem dL_law_381 : decode cL_law 381 = .ok (.aload_n 2, 1) := by decide +kernel
theorem dL_law_382 : decode cL_law 382 = .ok (.iconst 3, 1) := by decide +kernel
theorem dL_law_383 : decode cL_law 383 = .ok (.iload 10, 2) := by decide +kernel
theorem dL_law_385 : decode cL_law 385 = .ok (.imul, 1) := by decide +kernel
theorem dL_law_386 : decode cL_law 386 = .ok (.iaload, 1) := by decide +kernel
theorem dL_law_387 : decode cL_law 387 = .ok (.invokestatic 27, 3) := by decide +kernel
theorem dL_law_390 : decode cL_law 390 = .ok (.if_icmp .ge 24, 3) := by decide +kernel
theorem dL_law_393 : decode cL_law 393 = .ok (.iload 11, 2) := by decide +kernel
theorem dL_law_395 : decode cL_law 395 = .ok (.ifCond .ge 11, 3) := by decide +kernel
theorem dL_law_398 : decode cL_law 398 = .ok (.iload 11, 2) := by decide +kernel
theorem dL_law_400 : decode cL_law 400 = .ok (.sipush (-1002), 3) := by decide +kernel
theorem dL_law_403 : decode cL_law 403 = .ok (.if_icmp .ne 7, 3) := by decide +kernel
theorem dL_law_406 : decode cL_law 406 = .ok (.iconst 1, 1) := by decide +kernel
theorem dL_law_407 : decode cL_law 407 = .ok (.goto 20, 3) := by decide +kernel
theorem dL_law_410 : decode cL_law 410 = .ok (.iconst 0, 1) := by decide +kernel
theorem dL_law_411 : decode cL_law 411 = .ok (.goto 16, 3) := by decide +kernel
theorem dL_law_414 : decode cL_law 414 = .ok (.iload 11, 2) := by decide +kernel
theorem dL_law_416 : decode cL_law 416 = .ok (.sipush (-1001), 3) := by decide +kernel
theorem dL_law_419 : decode cL_law 419 = .ok (.if_icmp .ne 7, 3) := by decide +kernel
theorem dL_law_422 : decode cL_law 422 = .ok (.iconst 1, 1) := by decide +kernel
theorem dL_law_423 : decode cL_law 423 = .ok (.goto 4, 3) := by decide +kernel
theorem dL_law_426 : decode cL_law 426 = .ok (.iconst 0, 1) := by decide +kernel
theorem dL_law_427 : decode cL_law 427 = .ok (.istore 7, 2) := by decide +kernel
theorem dL_law_429 : decode cL_law 429 = .ok (.goto 136, 3) := by decide +kernel
theorem dL_law_432 : decode cL_law 432 = .ok (.aload_n 1, 1) := by decide +kernel
theorem dL_law_433 : decode cL_law 433 = .ok (.iload 10, 2) := by decide +kernel
theorem dL_law_435 : decode cL_law 435 = .ok (.iload 9, 2) := by decide +kernel
theorem dL_law_437 : decode cL_law 437 = .ok (.bipush 7, 2) := by decide +kernel
theorem dL_law_439 : decode cL_law 439 = .ok (.ishr, 1) := by decide +kernel
theorem dL_law_440 : decode cL_law 440 = .ok (.bipush 9, 2) := by decide +kernel
theorem dL_law_442 : decode cL_law 442 = .ok (.irem, 1) := by decide +kernel
theorem dL_law_443 : decode cL_law 443 = .ok (.iload 9, 2) := by decide +kernel
theorem dL_law_445 : decode cL_law 445 = .ok (.bipush 7, 2) := by decide +kernel
theorem dL_law_447 : decode cL_law 447 = .ok (.ishr, 1) := by decide +kernel
theorem dL_law_448 : decode cL_law 448 = .ok (.bipush 9, 2) := by decide +kernel
theorem dL_law_450 : decode cL_law 450 = .ok (.irem, 1) := by decide +kernel
theorem dL_law_451 : decode cL_law 451 = .ok (.iload 9, 2) := by decide +kernel
theorem dL_law_453 : decode cL_law 453 = .ok (.bipush 11, 2) := by decide +kernel
theorem dL_law_455 : decode cL_law 455 = .ok (.ishr, 1) := by decide +kernel
theorem dL_law_456 : decode cL_law 456 = .ok (.bipush 20, 2) := by decide +kernel
theorem dL_law_458 : decode cL_law 458 = .ok (.irem, 1) := by decide +kernel
theorem dL_law_459 : decode cL_law 459 = .ok (.iadd, 1) := by decide +kernel
theorem dL_law_460 : decode cL_law 460 = .ok (.invokevirtual 74, 3) := by decide +kernel
theorem dL_law_463 : decode cL_law 463 = .ok (.istore 11, 2) := by decide +kernel
theorem dL_law_465 : decode cL_law 465 = .ok (.iload 11, 2) := by decide +kernel
theorem dL_law_467 : decode cL_law 467 = .ok (.ifCond .lt 7, 3) := by decide +kernel
theorem dL_law_470 : decode cL_law 470 = .ok (.iconst 1, 1) := by decide +kernel
theorem dL_law_471 : decode cL_law 471 = .ok (.goto 4, 3) := by decide +kernel
theorem dL_law_474 : decode cL_law 474 = .ok (.iconst 0, 1) := by decide +kernel
theorem dL_law_475 : decode cL_law 475 = .ok (.istore 7, 2) := by decide +kernel
theorem dL_law_477 : decode cL_law 477 = .ok (.goto 88, 3) := by decide +kernel
theorem dL_law_480 : decode cL_law 480 = .ok (.aload_n 1, 1) := by decide +kernel
theorem dL_law_481 : decode cL_law 481 = .ok (.bipush 12, 2) := by decide +kernel
theorem dL_law_483 : decode cL_law 483 = .ok (.iload 9, 2) := by decide +kernel
theorem dL_law_485 : decode cL_law 485 = .ok (.bipush 7, 2) := by decide +kernel
theorem dL_law_487 : decode cL_law 487 = .ok (.ishr, 1) := by decide +kernel
theorem dL_law_488 : decode cL_law 488 = .ok (.bipush 37, 2) := by decide +kernel
theorem dL_law_490 : decode cL_law 490 = .ok (.irem, 1) := by decide +kernel
theorem dL_law_491 : decode cL_law 491 = .ok (.iadd, 1) := by decide +kernel
theorem dL_law_492 : decode cL_law 492 = .ok (.invokevirtual 80, 3) := by decide +kernel
theorem dL_law_495 : decode cL_law 495 = .ok (.istore 11, 2) := by decide +kernel
theorem dL_law_497 : decode cL_law 497 = .ok (.iload 11, 2) := by decide +kernel
theorem dL_law_499 : decode cL_law 499 = .ok (.bipush 12, 2) := by decide +kernel
theorem dL_law_501 : decode cL_law 501 = .ok (.if_icmp .lt 14, 3) := by decide +kernel
theorem dL_law_504 : decode cL_law 504 = .ok (.iload 11, 2) := by decide +kernel
theorem dL_law_506 : decode cL_law 506 = .ok (.bipush 48, 2) := by decide +kernel
theorem dL_law_508 : decode cL_law 508 = .ok (.if_icmp .gt 7, 3) := by decide +kernel
theorem dL_law_511 : decode cL_law 511 = .ok (.iconst 1, 1) := by decide +kernel
theorem dL_law_512 : decode cL_law 512 = .ok (.goto 4, 3) := by decide +kernel
theorem dL_law_515 : decode cL_law 515 = .ok (.iconst 0, 1) := by decide +kernel
theorem dL_law_516 : decode cL_law 516 = .ok (.istore 7, 2) := by decide +kernel
theorem dL_law_518 : decode cL_law 518 = .ok (.goto 47, 3) := by decide +kernel
theorem dL_law_521 : decode cL_law 521 = .ok (.aload_n 1, 1) := by decide +kernel
theorem dL_law_522 : decode cL_law 522 = .ok (.iload 10, 2) := by decide +kernel
theorem dL_law_524 : decode cL_law 524 = .ok (.iload 9, 2) := by decide +kernel
theorem dL_law_526 : decode cL_law 526 = .ok (.bipush 7, 2) := by decide +kernel
theorem dL_law_528 : decode cL_law 528 = .ok (.ishr, 1) := by decide +kernel
theorem dL_law_529 : decode cL_law 529 = .ok (.iload 6, 2) := by decide +kernel
theorem dL_law_531 : decode cL_law 531 = .ok (.irem, 1) := by decide +kernel
theorem dL_law_532 : decode cL_law 532 = .ok (.iload 9, 2) := by decide +kernel
theorem dL_law_534 : decode cL_law 534 = .ok (.bipush 11, 2) := by decide +kernel
theorem dL_law_536 : decode cL_law 536 = .ok (.ishr, 1) := by decide +kernel
theorem dL_law_537 : decode cL_law 537 = .ok (.bipush 14, 2) := by decide +kernel
theorem dL_law_539 : decode cL_law 539 = .ok (.irem, 1) := by decide +kernel
theorem dL_law_540 : decode cL_law 540 = .ok (.invokevirtual 53, 3) := by decide +kernel
theorem dL_law_543 : decode cL_law 543 = .ok (.istore 11, 2) := by decide +kernel
theorem dL_law_545 : decode cL_law 545 = .ok (.iload 11, 2) := by decide +kernel
theorem dL_law_547 : decode cL_law 547 = .ok (.ifCond .lt 15, 3) := by decide +kernel
theorem dL_law_550 : decode cL_law 550 = .ok (.iload 11, 2) := by decide +kernel
theorem dL_law_552 : decode cL_law 552 = .ok (.sipush 256, 3) := by decide +kernel
theorem dL_law_555 : decode cL_law 555 = .ok (.if_icmp .ge 7, 3) := by decide +kernel
theorem dL_law_558 : decode cL_law 558 = .ok (.iconst 1, 1) := by decide +kernel
theorem dL_law_559 : decode cL_law 559 = .ok (.goto 4, 3) := by decide +kernel
theorem dL_law_562 : decode cL_law 562 = .ok (.iconst 0, 1) := by decide +kernel
theorem dL_law_563 : decode cL_law 563 = .ok (.istore 7, 2) := by decide +kernel
theorem dL_law_565 : decode cL_law 565 = .ok (.iload 7, 2) := by decide +kernel
theorem dL_law_567 : decode cL_law 567 = .ok (.ifCond .eq 61, 3) := by decide +kernel
theorem dL_law_570 : decode cL_law 570 = .ok (.aload_n 1, 1) := by decide +kernel
theorem dL_law_571 : decode cL_law 571 = .ok (.iload 6, 2) := by decide +kernel
theorem dL_law_573 : decode cL_law 573 = .ok (.invokestatic 105, 3) := by decide +kernel
theorem dL_law_576 : decode cL_law 576 = .ok (.ifCond .eq 52, 3) := by decide +kernel
theorem dL_law_579 : decode cL_law 579 = .ok (.iload 8, 2) := by decide +kernel
theorem dL_law_581 : decode cL_law 581 = .ok (.iconst 4, 1) := by decide +kernel
theorem dL_law_582 : decode cL_law 582 = .ok (.irem, 1) := by decide +kernel
theorem dL_law_583 : decode cL_law 583 = .ok (.ifCond .gt 24, 3) := by decide +kernel
theorem dL_law_586 : decode cL_law 586 = .ok (.aload_n 1, 1) := by decide +kernel
theorem dL_law_587 : decode cL_law 587 = .ok (.iload 6, 2) := by decide +kernel
theorem dL_law_589 : decode cL_law 589 = .ok (.iload 9, 2) := by decide +kernel
theorem dL_law_591 : decode cL_law 591 = .ok (.bipush 13, 2) := by decide +kernel
theorem dL_law_593 : decode cL_law 593 = .ok (.ishr, 1) := by decide +kernel
theorem dL_law_594 : decode cL_law 594 = .ok (.bipush 14, 2) := by decide +kernel
theorem dL_law_596 : decode cL_law 596 = .ok (.irem, 1) := by decide +kernel
theorem dL_law_597 : decode cL_law 597 = .ok (.iload 9, 2) := by decide +kernel
theorem dL_law_599 : decode cL_law 599 = .ok (.iconst 5, 1) := by decide +kernel
theorem dL_law_600 : decode cL_law 600 = .ok (.ishr, 1) := by decide +kernel
theorem dL_law_601 : decode cL_law 601 = .ok (.invokestatic 109, 3) := by decide +kernel
theorem dL_law_604 : decode cL_law 604 = .ok (.ifCond .eq 24, 3) := by decide +kernel
theorem dL_law_607 : decode cL_law 607 = .ok (.iload 8, 2) := by decide +kernel
theorem dL_law_609 : decode cL_law 609 = .ok (.bipush 7, 2) := by decide +kernel
theorem dL_law_611 : decode cL_law 611 = .ok (.irem, 1) := by decide +kernel
theorem dL_law_612 : decode cL_law 612 = .ok (.ifCond .gt 12, 3) := by decide +kernel
theorem dL_law_615 : decode cL_law 615 = .ok (.aload_n 1, 1) := by decide +kernel
theorem dL_law_616 : decode cL_law 616 = .ok (.iload 6, 2) := by decide +kernel
theorem dL_law_618 : decode cL_law 618 = .ok (.invokestatic 113, 3) := by decide +kernel
theorem dL_law_621 : decode cL_law 621 = .ok (.ifCond .eq 7, 3) := by decide +kernel
theorem dL_law_624 : decode cL_law 624 = .ok (.iconst 1, 1) := by decide +kernel
theorem dL_law_625 : decode cL_law 625 = .ok (.goto 4, 3) := by decide +kernel
theorem dL_law_628 : decode cL_law 628 = .ok (.iconst 0, 1) := by decide +kernel
theorem dL_law_629 : decode cL_law 629 = .ok (.istore 7, 2) := by decide +kernel
theorem dL_law_631 : decode cL_law 631 = .ok (.iinc 8 1, 3) := by decide +kernel
theorem dL_law_634 : decode cL_law 634 = .ok (.goto (-495), 3) := by decide +kernel
theorem dL_law_637 : decode cL_law 637 = .ok (.iload 7, 2) := by decide +kernel
theorem dL_law_639 : decode cL_law 639 = .ok (.ifCond .eq 59, 3) := by decide +kernel
theorem dL_law_642 : decode cL_law 642 = .ok (.aload_n 1, 1) := by decide +kernel
theorem dL_law_643 : decode cL_law 643 = .ok (.iconst 0, 1) := by decide +kernel
theorem dL_law_644 : decode cL_law 644 = .ok (.invokevirtual 47, 3) := by decide +kernel
theorem dL_law_647 : decode cL_law 647 = .ok (.iload 6, 2) := by decide +kernel
theorem dL_law_649 : decode cL_law 649 = .ok (.if_icmp .ne 49, 3) := by decide +kernel
theorem dL_law_652 : decode cL_law 652 = .ok (.aload_n 1, 1) := by decide +kernel
theorem dL_law_653 : decode cL_law 653 = .ok (.invokevirtual 94, 3) := by decide +kernel
theorem dL_law_656 : decode cL_law 656 = .ok (.iload 6, 2) := by decide +kernel
theorem dL_law_658 : decode cL_law 658 = .ok (.if_icmp .ne 40, 3) := by decide +kernel
theorem dL_law_661 : decode cL_law 661 = .ok (.aload_n 1, 1) := by decide +kernel
theorem dL_law_662 : decode cL_law 662 = .ok (.invokevirtual 57, 3) := by decide +kernel
theorem dL_law_665 : decode cL_law 665 = .ok (.ifCond .ne 33, 3) := by decide +kernel
theorem dL_law_668 : decode cL_law 668 = .ok (.aload_n 1, 1) := by decide +kernel
theorem dL_law_669 : decode cL_law 669 = .ok (.iconst 0, 1) := by decide +kernel
theorem dL_law_670 : decode cL_law 670 = .ok (.invokevirtual 41, 3) := by decide +kernel
theorem dL_law_673 : decode cL_law 673 = .ok (.ifCond .ne 25, 3) := by decide +kernel
theorem dL_law_676 : decode cL_law 676 = .ok (.aload_n 1, 1) := by decide +kernel
theorem dL_law_677 : decode cL_law 677 = .ok (.iconst 0, 1) := by decide +kernel
theorem dL_law_678 : decode cL_law 678 = .ok (.invokevirtual 50, 3) := by decide +kernel
theorem dL_law_681 : decode cL_law 681 = .ok (.iload 6, 2) := by decide +kernel
theorem dL_law_683 : decode cL_law 683 = .ok (.if_icmp .ne 15, 3) := by decide +kernel
theorem dL_law_686 : decode cL_law 686 = .ok (.aload_n 1, 1) := by decide +kernel
theorem dL_law_687 : decode cL_law 687 = .ok (.iconst 0, 1) := by decide +kernel
theorem dL_law_688 : decode cL_law 688 = .ok (.invokevirtual 41, 3) := by decide +kernel
theorem dL_law_691 : decode cL_law 691 = .ok (.ifCond .ne 7, 3) := by decide +kernel
theorem dL_law_694 : decode cL_law 694 = .ok (.iconst 1, 1) := by decide +kernel
theorem dL_law_695 : decode cL_law 695 = .ok (.goto 4, 3) := by decide +kernel
theorem dL_law_698 : decode cL_law 698 = .ok (.iconst 0, 1) := by decide +kernel
theorem dL_law_699 : decode cL_law 699 = .ok (.istore 7, 2) := by decide +kernel
theorem dL_law_701 : decode cL_law 701 = .ok (.aload_n 1, 1) := by decide +kernel
theorem dL_law_702 : decode cL_law 702 = .ok (.invokevirtual 64, 3) := by decide +kernel
theorem dL_law_705 : decode cL_law 705 = .ok (.lstore 8, 2) := by decide +kernel
theorem dL_law_707 : decode cL_law 707 = .ok (.iload 7, 2) := by decide +kernel
theorem dL_law_709 : decode cL_law 709 = .ok (.ifCond .eq 46, 3) := by decide +kernel
theorem dL_law_712 : decode cL_law 712 = .ok (.aload_n 1, 1) := by decide +kernel
theorem dL_law_713 : decode cL_law 713 = .ok (.iconst 1, 1) := by decide +kernel
theorem dL_law_714 : decode cL_law 714 = .ok (.invokevirtual 47, 3) := by decide +kernel
theorem dL_law_717 : decode cL_law 717 = .ok (.iload 6, 2) := by decide +kernel
theorem dL_law_719 : decode cL_law 719 = .ok (.if_icmp .ne 36, 3) := by decide +kernel
theorem dL_law_722 : decode cL_law 722 = .ok (.aload_n 1, 1) := by decide +kernel
theorem dL_law_723 : decode cL_law 723 = .ok (.invokevirtual 94, 3) := by decide +kernel
theorem dL_law_726 : decode cL_law 726 = .ok (.iload 6, 2) := by decide +kernel
theorem dL_law_728 : decode cL_law 728 = .ok (.if_icmp .ne 27, 3) := by decide +kernel
theorem dL_law_731 : decode cL_law 731 = .ok (.aload_n 1, 1) := by decide +kernel
theorem dL_law_732 : decode cL_law 732 = .ok (.iconst 1, 1) := by decide +kernel
theorem dL_law_733 : decode cL_law 733 = .ok (.invokevirtual 50, 3) := by decide +kernel
theorem dL_law_736 : decode cL_law 736 = .ok (.iload 6, 2) := by decide +kernel
theorem dL_law_738 : decode cL_law 738 = .ok (.if_icmp .ne 17, 3) := by decide +kernel
theorem dL_law_741 : decode cL_law 741 = .ok (.aload_n 1, 1) := by decide +kernel
theorem dL_law_742 : decode cL_law 742 = .ok (.invokevirtual 64, 3) := by decide +kernel
theorem dL_law_745 : decode cL_law 745 = .ok (.lload 8, 2) := by decide +kernel
theorem dL_law_747 : decode cL_law 747 = .ok (.lcmp, 1) := by decide +kernel
theorem dL_law_748 : decode cL_law 748 = .ok (.ifCond .ne 7, 3) := by decide +kernel
theorem dL_law_751 : decode cL_law 751 = .ok (.iconst 1, 1) := by decide +kernel
theorem dL_law_752 : decode cL_law 752 = .ok (.goto 4, 3) := by decide +kernel
theorem dL_law_755 : decode cL_law 755 = .ok (.iconst 0, 1) := by decide +kernel
theorem dL_law_756 : decode cL_law 756 = .ok (.ireturn, 1) := by decide +kernel
theorem dL_parameters_0 : decode cL_parameters 0 = .ok (.iload_n 0, 1) := by decide +kernel
theorem dL_parameters_1 : decode cL_parameters 1 = .ok (.ifCond .eq 8, 3) := by decide +kernel
theorem dL_parameters_4 : decode cL_parameters 4 = .ok (.iload_n 0, 1) := by decide +kernel
theorem dL_parameters_5 : decode cL_parameters 5 = .ok (.iconst 4, 1) := by decide +kernel
theorem dL_parameters_6 : decode cL_parameters 6 = .ok (.if_icmp .ne 7, 3) := by decide +kernel
theorem dL_parameters_9 : decode cL_parameters 9 = .ok (.iconst 1, 1) := by decide +kernel
theorem dL_parameters_10 : decode cL_parameters 10 = .ok (.goto 22, 3) := by decide +kernel
theorem dL_parameters_13 : decode cL_parameters 13 = .ok (.iload_n 0, 1) := by decide +kernel
theorem dL_parameters_14 : decode cL_parameters 14 = .ok (.iconst 3, 1) := by decide +kernel
theorem dL_parameters_15 : decode cL_parameters 15 = .ok (.if_icmp .ge 7, 3) := by decide +kernel
theorem dL_parameters_18 : decode cL_parameters 18 = .ok (.iconst 3, 1) := by decide +kernel
theorem dL_parameters_19 : decode cL_parameters 19 = .ok (.goto 13, 3) := by decide +kernel
theorem dL_parameters_22 : decode cL_parameters 22 = .ok (.iload_n 0, 1) := by decide +kernel
theorem dL_parameters_23 : decode cL_parameters 23 = .ok (.iconst 5, 1) := by decide +kernel
theorem dL_parameters_24 : decode cL_parameters 24 = .ok (.if_icmp .ne 7, 3) := by decide +kernel
theorem dL_parameters_27 : decode cL_parameters 27 = .ok (.iconst 4, 1) := by decide +kernel
theorem dL_parameters_28 : decode cL_parameters 28 = .ok (.goto 4, 3) := by decide +kernel
theorem dL_parameters_31 : decode cL_parameters 31 = .ok (.iconst 0, 1) := by decide +kernel
theorem dL_parameters_32 : decode cL_parameters 32 = .ok (.ireturn, 1) := by decide +kernel
theorem dL_refuses_0 : decode cL_refuses 0 = .ok (.aload_n 0, 1) := by decide +kernel
theorem dL_refuses_1 : decode cL_refuses 1 = .ok (.invokevirtual 64, 3) := by decide +kernel
theorem dL_refuses_4 : decode cL_refuses 4 = .ok (.lstore_n 2, 1) := by decide +kernel
theorem dL_refuses_5 : decode cL_refuses 5 = .ok (.aload_n 0, 1) := by decide +kernel
theorem dL_refuses_6 : decode cL_refuses 6 = .ok (.iconst (-1), 1) := by decide +kernel
theorem dL_refuses_7 : decode cL_refuses 7 = .ok (.invokevirtual 9, 3) := by decide +kernel
theorem dL_refuses_10 : decode cL_refuses 10 = .ok (.sipush (-1002), 3) := by decide +kernel
theorem dL_refuses_13 : decode cL_refuses 13 = .ok (.if_icmp .ne 136, 3) := by decide +kernel
theorem dL_refuses_16 : decode cL_refuses 16 = .ok (.aload_n 0, 1) := by decide +kernel
theorem dL_refuses_17 : decode cL_refuses 17 = .ok (.iload_n 1, 1) := by decide +kernel
theorem dL_refuses_18 : decode cL_refuses 18 = .ok (.iconst 0, 1) := by decide +kernel
theorem dL_refuses_19 : decode cL_refuses 19 = .ok (.iconst 0, 1) := by decide +kernel
theorem dL_refuses_20 : decode cL_refuses 20 = .ok (.invokevirtual 68, 3) := by decide +kernel
theorem dL_refuses_23 : decode cL_refuses 23 = .ok (.sipush (-1001), 3) := by decide +kernel
theorem dL_refuses_26 : decode cL_refuses 26 = .ok (.if_icmp .ne 123, 3) := by decide +kernel
theorem dL_refuses_29 : decode cL_refuses 29 = .ok (.aload_n 0, 1) := by decide +kernel
theorem dL_refuses_30 : decode cL_refuses 30 = .ok (.iconst 0, 1) := by decide +kernel
theorem dL_refuses_31 : decode cL_refuses 31 = .ok (.iconst 3, 1) := by decide +kernel
theorem dL_refuses_32 : decode cL_refuses 32 = .ok (.iconst 0, 1) := by decide +kernel
theorem dL_refuses_33 : decode cL_refuses 33 = .ok (.invokevirtual 68, 3) := by decide +kernel
theorem dL_refuses_36 : decode cL_refuses 36 = .ok (.sipush (-1001), 3) := by decide +kernel
theorem dL_refuses_39 : decode cL_refuses 39 = .ok (.if_icmp .ne 110, 3) := by decide +kernel
theorem dL_refuses_42 : decode cL_refuses 42 = .ok (.aload_n 0, 1) := by decide +kernel
theorem dL_refuses_43 : decode cL_refuses 43 = .ok (.iconst 0, 1) := by decide +kernel
theorem dL_refuses_44 : decode cL_refuses 44 = .ok (.iconst (-1), 1) := by decide +kernel
theorem dL_refuses_45 : decode cL_refuses 45 = .ok (.sipush (-1005), 3) := by decide +kernel
theorem dL_refuses_48 : decode cL_refuses 48 = .ok (.invokevirtual 68, 3) := by decide +kernel
theorem dL_refuses_51 : decode cL_refuses 51 = .ok (.sipush (-1001), 3) := by decide +kernel
theorem dL_refuses_54 : decode cL_refuses 54 = .ok (.if_icmp .ne 95, 3) := by decide +kernel
theorem dL_refuses_57 : decode cL_refuses 57 = .ok (.aload_n 0, 1) := by decide +kernel
theorem dL_refuses_58 : decode cL_refuses 58 = .ok (.iload_n 1, 1) := by decide +kernel
theorem dL_refuses_59 : decode cL_refuses 59 = .ok (.iconst 0, 1) := by decide +kernel
theorem dL_refuses_60 : decode cL_refuses 60 = .ok (.iconst 0, 1) := by decide +kernel
theorem dL_refuses_61 : decode cL_refuses 61 = .ok (.invokevirtual 71, 3) := by decide +kernel
theorem dL_refuses_64 : decode cL_refuses 64 = .ok (.sipush (-1001), 3) := by decide +kernel
theorem dL_refuses_67 : decode cL_refuses 67 = .ok (.if_icmp .ne 82, 3) := by decide +kernel
theorem dL_refuses_70 : decode cL_refuses 70 = .ok (.aload_n 0, 1) := by decide +kernel
theorem dL_refuses_71 : decode cL_refuses 71 = .ok (.iconst 0, 1) := by decide +kernel
theorem dL_refuses_72 : decode cL_refuses 72 = .ok (.iconst 4, 1) := by decide +kernel
theorem dL_refuses_73 : decode cL_refuses 73 = .ok (.iconst 0, 1) := by decide +kernel
theorem dL_refuses_74 : decode cL_refuses 74 = .ok (.invokevirtual 71, 3) := by decide +kernel
theorem dL_refuses_77 : decode cL_refuses 77 = .ok (.sipush (-1001), 3) := by decide +kernel
theorem dL_refuses_80 : decode cL_refuses 80 = .ok (.if_icmp .ne 69, 3) := by decide +kernel
theorem dL_refuses_83 : decode cL_refuses 83 = .ok (.aload_n 0, 1) := by decide +kernel
theorem dL_refuses_84 : decode cL_refuses 84 = .ok (.iconst (-1), 1) := by decide +kernel
theorem dL_refuses_85 : decode cL_refuses 85 = .ok (.iconst 0, 1) := by decide +kernel
theorem dL_refuses_86 : decode cL_refuses 86 = .ok (.iconst 0, 1) := by decide +kernel
theorem dL_refuses_87 : decode cL_refuses 87 = .ok (.invokevirtual 74, 3) := by decide +kernel
theorem dL_refuses_90 : decode cL_refuses 90 = .ok (.sipush (-1001), 3) := by decide +kernel
theorem dL_refuses_93 : decode cL_refuses 93 = .ok (.if_icmp .ne 56, 3) := by decide +kernel
theorem dL_refuses_96 : decode cL_refuses 96 = .ok (.aload_n 0, 1) := by decide +kernel
theorem dL_refuses_97 : decode cL_refuses 97 = .ok (.iconst 0, 1) := by decide +kernel
theorem dL_refuses_98 : decode cL_refuses 98 = .ok (.iconst (-1), 1) := by decide +kernel
theorem dL_refuses_99 : decode cL_refuses 99 = .ok (.iconst 0, 1) := by decide +kernel
theorem dL_refuses_100 : decode cL_refuses 100 = .ok (.invokevirtual 74, 3) := by decide +kernel
theorem dL_refuses_103 : decode cL_refuses 103 = .ok (.sipush (-1002), 3) := by decide +kernel
theorem dL_refuses_106 : decode cL_refuses 106 = .ok (.if_icmp .ne 43, 3) := by decide +kernel
theorem dL_refuses_109 : decode cL_refuses 109 = .ok (.aload_n 0, 1) := by decide +kernel
theorem dL_refuses_110 : decode cL_refuses 110 = .ok (.iconst 0, 1) := by decide +kernel
theorem dL_refuses_111 : decode cL_refuses 111 = .ok (.iconst (-1), 1) := by decide +kernel
theorem dL_refuses_112 : decode cL_refuses 112 = .ok (.invokevirtual 15, 3) := by decide +kernel
theorem dL_refuses_115 : decode cL_refuses 115 = .ok (.sipush (-1002), 3) := by decide +kernel
theorem dL_refuses_118 : decode cL_refuses 118 = .ok (.if_icmp .ne 31, 3) := by decide +kernel
theorem dL_refuses_121 : decode cL_refuses 121 = .ok (.aload_n 0, 1) := by decide +kernel
theorem dL_refuses_122 : decode cL_refuses 122 = .ok (.iload_n 1, 1) := by decide +kernel
theorem dL_refuses_123 : decode cL_refuses 123 = .ok (.iconst 0, 1) := by decide +kernel
theorem dL_refuses_124 : decode cL_refuses 124 = .ok (.invokevirtual 24, 3) := by decide +kernel
theorem dL_refuses_127 : decode cL_refuses 127 = .ok (.sipush (-1001), 3) := by decide +kernel
theorem dL_refuses_130 : decode cL_refuses 130 = .ok (.if_icmp .ne 19, 3) := by decide +kernel
theorem dL_refuses_133 : decode cL_refuses 133 = .ok (.aload_n 0, 1) := by decide +kernel
theorem dL_refuses_134 : decode cL_refuses 134 = .ok (.iconst 0, 1) := by decide +kernel
theorem dL_refuses_135 : decode cL_refuses 135 = .ok (.iconst 4, 1) := by decide +kernel
theorem dL_refuses_136 : decode cL_refuses 136 = .ok (.invokevirtual 30, 3) := by decide +kernel
theorem dL_refuses_139 : decode cL_refuses 139 = .ok (.sipush (-1001), 3) := by decide +kernel
theorem dL_refuses_142 : decode cL_refuses 142 = .ok (.if_icmp .ne 7, 3) := by decide +kernel
theorem dL_refuses_145 : decode cL_refuses 145 = .ok (.iconst 1, 1) := by decide +kernel
theorem dL_refuses_146 : decode cL_refuses 146 = .ok (.goto 4, 3) := by decide +kernel
theorem dL_refuses_149 : decode cL_refuses 149 = .ok (.iconst 0, 1) := by decide +kernel
theorem dL_refuses_150 : decode cL_refuses 150 = .ok (.istore 4, 2) := by decide +kernel
theorem dL_refuses_152 : decode cL_refuses 152 = .ok (.iload 4, 2) := by decide +kernel
theorem dL_refuses_154 : decode cL_refuses 154 = .ok (.ifCond .eq 176, 3) := by decide +kernel
theorem dL_refuses_157 : decode cL_refuses 157 = .ok (.aload_n 0, 1) := by decide +kernel
theorem dL_refuses_158 : decode cL_refuses 158 = .ok (.iconst 0, 1) := by decide +kernel
theorem dL_refuses_159 : decode cL_refuses 159 = .ok (.iconst (-1), 1) := by decide +kernel
theorem dL_refuses_160 : decode cL_refuses 160 = .ok (.iconst 0, 1) := by decide +kernel
theorem dL_refuses_161 : decode cL_refuses 161 = .ok (.iconst 0, 1) := by decide +kernel
theorem dL_refuses_162 : decode cL_refuses 162 = .ok (.iconst 0, 1) := by decide +kernel
theorem dL_refuses_163 : decode cL_refuses 163 = .ok (.invokevirtual 33, 3) := by decide +kernel
theorem dL_refuses_166 : decode cL_refuses 166 = .ok (.sipush (-1001), 3) := by decide +kernel
theorem dL_refuses_169 : decode cL_refuses 169 = .ok (.if_icmp .ne 161, 3) := by decide +kernel
theorem dL_refuses_172 : decode cL_refuses 172 = .ok (.aload_n 0, 1) := by decide +kernel
theorem dL_refuses_173 : decode cL_refuses 173 = .ok (.iconst 0, 1) := by decide +kernel
theorem dL_refuses_174 : decode cL_refuses 174 = .ok (.iconst 0, 1) := by decide +kernel
theorem dL_refuses_175 : decode cL_refuses 175 = .ok (.bipush 8, 2) := by decide +kernel
theorem dL_refuses_177 : decode cL_refuses 177 = .ok (.iconst 0, 1) := by decide +kernel
theorem dL_refuses_178 : decode cL_refuses 178 = .ok (.iconst 0, 1) := by decide +kernel
theorem dL_refuses_179 : decode cL_refuses 179 = .ok (.invokevirtual 33, 3) := by decide +kernel
theorem dL_refuses_182 : decode cL_refuses 182 = .ok (.sipush (-1001), 3) := by decide +kernel
theorem dL_refuses_185 : decode cL_refuses 185 = .ok (.if_icmp .ne 145, 3) := by decide +kernel
theorem dL_refuses_188 : decode cL_refuses 188 = .ok (.aload_n 0, 1) := by decide +kernel
theorem dL_refuses_189 : decode cL_refuses 189 = .ok (.iconst 0, 1) := by decide +kernel
theorem dL_refuses_190 : decode cL_refuses 190 = .ok (.iconst 0, 1) := by decide +kernel
theorem dL_refuses_191 : decode cL_refuses 191 = .ok (.iconst 0, 1) := by decide +kernel
theorem dL_refuses_192 : decode cL_refuses 192 = .ok (.iconst 4, 1) := by decide +kernel
theorem dL_refuses_193 : decode cL_refuses 193 = .ok (.iconst 0, 1) := by decide +kernel
theorem dL_refuses_194 : decode cL_refuses 194 = .ok (.invokevirtual 33, 3) := by decide +kernel
theorem dL_refuses_197 : decode cL_refuses 197 = .ok (.sipush (-1001), 3) := by decide +kernel
theorem dL_refuses_200 : decode cL_refuses 200 = .ok (.if_icmp .ne 130, 3) := by decide +kernel
theorem dL_refuses_203 : decode cL_refuses 203 = .ok (.aload_n 0, 1) := by decide +kernel
theorem dL_refuses_204 : decode cL_refuses 204 = .ok (.iconst 0, 1) := by decide +kernel
theorem dL_refuses_205 : decode cL_refuses 205 = .ok (.iconst 0, 1) := by decide +kernel
theorem dL_refuses_206 : decode cL_refuses 206 = .ok (.iconst 0, 1) := by decide +kernel
theorem dL_refuses_207 : decode cL_refuses 207 = .ok (.iconst 0, 1) := by decide +kernel
theorem dL_refuses_208 : decode cL_refuses 208 = .ok (.iconst 3, 1) := by decide +kernel
theorem dL_refuses_209 : decode cL_refuses 209 = .ok (.invokevirtual 33, 3) := by decide +kernel
theorem dL_refuses_212 : decode cL_refuses 212 = .ok (.sipush (-1001), 3) := by decide +kernel
theorem dL_refuses_215 : decode cL_refuses 215 = .ok (.if_icmp .ne 115, 3) := by decide +kernel
theorem dL_refuses_218 : decode cL_refuses 218 = .ok (.aload_n 0, 1) := by decide +kernel
theorem dL_refuses_219 : decode cL_refuses 219 = .ok (.iload_n 1, 1) := by decide +kernel
theorem dL_refuses_220 : decode cL_refuses 220 = .ok (.iconst 0, 1) := by decide +kernel
theorem dL_refuses_221 : decode cL_refuses 221 = .ok (.iconst 0, 1) := by decide +kernel
theorem dL_refuses_222 : decode cL_refuses 222 = .ok (.iconst 0, 1) := by decide +kernel
theorem dL_refuses_223 : decode cL_refuses 223 = .ok (.invokevirtual 77, 3) := by decide +kernel
theorem dL_refuses_226 : decode cL_refuses 226 = .ok (.sipush (-1001), 3) := by decide +kernel
theorem dL_refuses_229 : decode cL_refuses 229 = .ok (.if_icmp .ne 101, 3) := by decide +kernel
theorem dL_refuses_232 : decode cL_refuses 232 = .ok (.aload_n 0, 1) := by decide +kernel
theorem dL_refuses_233 : decode cL_refuses 233 = .ok (.iconst 0, 1) := by decide +kernel
theorem dL_refuses_234 : decode cL_refuses 234 = .ok (.iconst 0, 1) := by decide +kernel
theorem dL_refuses_235 : decode cL_refuses 235 = .ok (.iconst 3, 1) := by decide +kernel
theorem dL_refuses_236 : decode cL_refuses 236 = .ok (.iconst 0, 1) := by decide +kernel
theorem dL_refuses_237 : decode cL_refuses 237 = .ok (.invokevirtual 37, 3) := by decide +kernel
theorem dL_refuses_240 : decode cL_refuses 240 = .ok (.sipush (-1001), 3) := by decide +kernel
theorem dL_refuses_243 : decode cL_refuses 243 = .ok (.if_icmp .ne 87, 3) := by decide +kernel
theorem dL_refuses_246 : decode cL_refuses 246 = .ok (.aload_n 0, 1) := by decide +kernel
theorem dL_refuses_247 : decode cL_refuses 247 = .ok (.iconst 0, 1) := by decide +kernel
theorem dL_refuses_248 : decode cL_refuses 248 = .ok (.iload_n 1, 1) := by decide +kernel
theorem dL_refuses_249 : decode cL_refuses 249 = .ok (.iconst 0, 1) := by decide +kernel
theorem dL_refuses_250 : decode cL_refuses 250 = .ok (.invokevirtual 53, 3) := by decide +kernel
theorem dL_refuses_253 : decode cL_refuses 253 = .ok (.sipush (-1001), 3) := by decide +kernel
theorem dL_refuses_256 : decode cL_refuses 256 = .ok (.if_icmp .ne 74, 3) := by decide +kernel
theorem dL_refuses_259 : decode cL_refuses 259 = .ok (.aload_n 0, 1) := by decide +kernel
theorem dL_refuses_260 : decode cL_refuses 260 = .ok (.iconst 0, 1) := by decide +kernel
theorem dL_refuses_261 : decode cL_refuses 261 = .ok (.invokevirtual 80, 3) := by decide +kernel
theorem dL_refuses_264 : decode cL_refuses 264 = .ok (.sipush (-1002), 3) := by decide +kernel
theorem dL_refuses_267 : decode cL_refuses 267 = .ok (.if_icmp .ne 63, 3) := by decide +kernel
theorem dL_refuses_270 : decode cL_refuses 270 = .ok (.aload_n 0, 1) := by decide +kernel
theorem dL_refuses_271 : decode cL_refuses 271 = .ok (.iconst (-1), 1) := by decide +kernel
theorem dL_refuses_272 : decode cL_refuses 272 = .ok (.iconst 0, 1) := by decide +kernel
theorem dL_refuses_273 : decode cL_refuses 273 = .ok (.invokevirtual 44, 3) := by decide +kernel
theorem dL_refuses_276 : decode cL_refuses 276 = .ok (.sipush (-1001), 3) := by decide +kernel
theorem dL_refuses_279 : decode cL_refuses 279 = .ok (.if_icmp .ne 51, 3) := by decide +kernel
theorem dL_refuses_282 : decode cL_refuses 282 = .ok (.aload_n 0, 1) := by decide +kernel
theorem dL_refuses_283 : decode cL_refuses 283 = .ok (.iconst (-1), 1) := by decide +kernel
theorem dL_refuses_284 : decode cL_refuses 284 = .ok (.invokevirtual 41, 3) := by decide +kernel
theorem dL_refuses_287 : decode cL_refuses 287 = .ok (.sipush (-1001), 3) := by decide +kernel
theorem dL_refuses_290 : decode cL_refuses 290 = .ok (.if_icmp .ne 40, 3) := by decide +kernel
theorem dL_refuses_293 : decode cL_refuses 293 = .ok (.aload_n 0, 1) := by decide +kernel
theorem dL_refuses_294 : decode cL_refuses 294 = .ok (.iconst (-1), 1) := by decide +kernel
theorem dL_refuses_295 : decode cL_refuses 295 = .ok (.invokevirtual 83, 3) := by decide +kernel
theorem dL_refuses_298 : decode cL_refuses 298 = .ok (.sipush (-1002), 3) := by decide +kernel
theorem dL_refuses_301 : decode cL_refuses 301 = .ok (.if_icmp .ne 29, 3) := by decide +kernel
theorem dL_refuses_304 : decode cL_refuses 304 = .ok (.aload_n 0, 1) := by decide +kernel
theorem dL_refuses_305 : decode cL_refuses 305 = .ok (.iconst 2, 1) := by decide +kernel
theorem dL_refuses_306 : decode cL_refuses 306 = .ok (.invokevirtual 47, 3) := by decide +kernel
theorem dL_refuses_309 : decode cL_refuses 309 = .ok (.sipush (-1001), 3) := by decide +kernel
theorem dL_refuses_312 : decode cL_refuses 312 = .ok (.if_icmp .ne 18, 3) := by decide +kernel
theorem dL_refuses_315 : decode cL_refuses 315 = .ok (.aload_n 0, 1) := by decide +kernel
theorem dL_refuses_316 : decode cL_refuses 316 = .ok (.iconst (-1), 1) := by decide +kernel
theorem dL_refuses_317 : decode cL_refuses 317 = .ok (.invokevirtual 50, 3) := by decide +kernel
theorem dL_refuses_320 : decode cL_refuses 320 = .ok (.sipush (-1001), 3) := by decide +kernel
theorem dL_refuses_323 : decode cL_refuses 323 = .ok (.if_icmp .ne 7, 3) := by decide +kernel
theorem dL_refuses_326 : decode cL_refuses 326 = .ok (.iconst 1, 1) := by decide +kernel
theorem dL_refuses_327 : decode cL_refuses 327 = .ok (.goto 4, 3) := by decide +kernel
theorem dL_refuses_330 : decode cL_refuses 330 = .ok (.iconst 0, 1) := by decide +kernel
theorem dL_refuses_331 : decode cL_refuses 331 = .ok (.istore 4, 2) := by decide +kernel
theorem dL_refuses_333 : decode cL_refuses 333 = .ok (.iload 4, 2) := by decide +kernel
theorem dL_refuses_335 : decode cL_refuses 335 = .ok (.ifCond .eq 16, 3) := by decide +kernel
theorem dL_refuses_338 : decode cL_refuses 338 = .ok (.aload_n 0, 1) := by decide +kernel
theorem dL_refuses_339 : decode cL_refuses 339 = .ok (.invokevirtual 64, 3) := by decide +kernel
theorem dL_refuses_342 : decode cL_refuses 342 = .ok (.lload_n 2, 1) := by decide +kernel
theorem dL_refuses_343 : decode cL_refuses 343 = .ok (.lcmp, 1) := by decide +kernel
theorem dL_refuses_344 : decode cL_refuses 344 = .ok (.ifCond .ne 7, 3) := by decide +kernel
theorem dL_refuses_347 : decode cL_refuses 347 = .ok (.iconst 1, 1) := by decide +kernel
theorem dL_refuses_348 : decode cL_refuses 348 = .ok (.goto 4, 3) := by decide +kernel
theorem dL_refuses_351 : decode cL_refuses 351 = .ok (.iconst 0, 1) := by decide +kernel
theorem dL_refuses_352 : decode cL_refuses 352 = .ok (.ireturn, 1) := by decide +kernel
theorem dL_same_0 : decode cL_same 0 = .ok (.iconst 1, 1) := by decide +kernel
theorem dL_same_1 : decode cL_same 1 = .ok (.istore 4, 2) := by decide +kernel
theorem dL_same_3 : decode cL_same 3 = .ok (.iconst 0, 1) := by decide +kernel
theorem dL_same_4 : decode cL_same 4 = .ok (.istore 5, 2) := by decide +kernel
theorem dL_same_6 : decode cL_same 6 = .ok (.iload 5, 2) := by decide +kernel
theorem dL_same_8 : decode cL_same 8 = .ok (.iload_n 1, 1) := by decide +kernel
theorem dL_same_9 : decode cL_same 9 = .ok (.if_icmp .ge 229, 3) := by decide +kernel
theorem dL_same_12 : decode cL_same 12 = .ok (.iload 4, 2) := by decide +kernel
theorem dL_same_14 : decode cL_same 14 = .ok (.ifCond .eq 224, 3) := by decide +kernel
theorem dL_same_17 : decode cL_same 17 = .ok (.iload_n 3, 1) := by decide +kernel
theorem dL_same_18 : decode cL_same 18 = .ok (.iload 5, 2) := by decide +kernel
theorem dL_same_20 : decode cL_same 20 = .ok (.ishr, 1) := by decide +kernel
theorem dL_same_21 : decode cL_same 21 = .ok (.bipush 8, 2) := by decide +kernel
theorem dL_same_23 : decode cL_same 23 = .ok (.irem, 1) := by decide +kernel
theorem dL_same_24 : decode cL_same 24 = .ok (.istore 6, 2) := by decide +kernel
theorem dL_same_26 : decode cL_same 26 = .ok (.iload_n 3, 1) := by decide +kernel
theorem dL_same_27 : decode cL_same 27 = .ok (.iload 5, 2) := by decide +kernel
theorem dL_same_29 : decode cL_same 29 = .ok (.iconst 3, 1) := by decide +kernel
theorem dL_same_30 : decode cL_same 30 = .ok (.iadd, 1) := by decide +kernel
theorem dL_same_31 : decode cL_same 31 = .ok (.ishr, 1) := by decide +kernel
theorem dL_same_32 : decode cL_same 32 = .ok (.iconst 4, 1) := by decide +kernel
theorem dL_same_33 : decode cL_same 33 = .ok (.irem, 1) := by decide +kernel
theorem dL_same_34 : decode cL_same 34 = .ok (.istore 7, 2) := by decide +kernel
theorem dL_same_36 : decode cL_same 36 = .ok (.iload_n 3, 1) := by decide +kernel
theorem dL_same_37 : decode cL_same 37 = .ok (.iload 5, 2) := by decide +kernel
theorem dL_same_39 : decode cL_same 39 = .ok (.iconst 5, 1) := by decide +kernel
theorem dL_same_40 : decode cL_same 40 = .ok (.iadd, 1) := by decide +kernel
theorem dL_same_41 : decode cL_same 41 = .ok (.ishr, 1) := by decide +kernel
theorem dL_same_42 : decode cL_same 42 = .ok (.iconst 3, 1) := by decide +kernel
theorem dL_same_43 : decode cL_same 43 = .ok (.irem, 1) := by decide +kernel
theorem dL_same_44 : decode cL_same 44 = .ok (.istore 8, 2) := by decide +kernel
theorem dL_same_46 : decode cL_same 46 = .ok (.aload_n 0, 1) := by decide +kernel
theorem dL_same_47 : decode cL_same 47 = .ok (.iload 5, 2) := by decide +kernel
theorem dL_same_49 : decode cL_same 49 = .ok (.iload_n 2, 1) := by decide +kernel
theorem dL_same_50 : decode cL_same 50 = .ok (.iload 6, 2) := by decide +kernel
theorem dL_same_52 : decode cL_same 52 = .ok (.iload 7, 2) := by decide +kernel
theorem dL_same_54 : decode cL_same 54 = .ok (.iload 8, 2) := by decide +kernel
theorem dL_same_56 : decode cL_same 56 = .ok (.invokevirtual 33, 3) := by decide +kernel
theorem dL_same_59 : decode cL_same 59 = .ok (.istore 9, 2) := by decide +kernel
theorem dL_same_61 : decode cL_same 61 = .ok (.aload_n 0, 1) := by decide +kernel
theorem dL_same_62 : decode cL_same 62 = .ok (.iload 5, 2) := by decide +kernel
theorem dL_same_64 : decode cL_same 64 = .ok (.iload_n 2, 1) := by decide +kernel
theorem dL_same_65 : decode cL_same 65 = .ok (.iload 8, 2) := by decide +kernel
theorem dL_same_67 : decode cL_same 67 = .ok (.iconst 2, 1) := by decide +kernel
theorem dL_same_68 : decode cL_same 68 = .ok (.invokevirtual 37, 3) := by decide +kernel
theorem dL_same_71 : decode cL_same 71 = .ok (.istore 10, 2) := by decide +kernel
theorem dL_same_73 : decode cL_same 73 = .ok (.aload_n 0, 1) := by decide +kernel
theorem dL_same_74 : decode cL_same 74 = .ok (.iconst 2, 1) := by decide +kernel
theorem dL_same_75 : decode cL_same 75 = .ok (.invokevirtual 41, 3) := by decide +kernel
theorem dL_same_78 : decode cL_same 78 = .ok (.istore 11, 2) := by decide +kernel
theorem dL_same_80 : decode cL_same 80 = .ok (.iload 9, 2) := by decide +kernel
theorem dL_same_82 : decode cL_same 82 = .ok (.ifCond .lt 54, 3) := by decide +kernel
theorem dL_same_85 : decode cL_same 85 = .ok (.iload 9, 2) := by decide +kernel
theorem dL_same_87 : decode cL_same 87 = .ok (.sipush 256, 3) := by decide +kernel
theorem dL_same_90 : decode cL_same 90 = .ok (.if_icmp .ge 46, 3) := by decide +kernel
theorem dL_same_93 : decode cL_same 93 = .ok (.aload_n 0, 1) := by decide +kernel
theorem dL_same_94 : decode cL_same 94 = .ok (.iload 5, 2) := by decide +kernel
theorem dL_same_96 : decode cL_same 96 = .ok (.iload_n 2, 1) := by decide +kernel
theorem dL_same_97 : decode cL_same 97 = .ok (.iload 6, 2) := by decide +kernel
theorem dL_same_99 : decode cL_same 99 = .ok (.iload 7, 2) := by decide +kernel
theorem dL_same_101 : decode cL_same 101 = .ok (.iload 8, 2) := by decide +kernel
theorem dL_same_103 : decode cL_same 103 = .ok (.invokevirtual 33, 3) := by decide +kernel
theorem dL_same_106 : decode cL_same 106 = .ok (.iload 9, 2) := by decide +kernel
theorem dL_same_108 : decode cL_same 108 = .ok (.if_icmp .ne 28, 3) := by decide +kernel
theorem dL_same_111 : decode cL_same 111 = .ok (.aload_n 0, 1) := by decide +kernel
theorem dL_same_112 : decode cL_same 112 = .ok (.iconst 2, 1) := by decide +kernel
theorem dL_same_113 : decode cL_same 113 = .ok (.invokevirtual 41, 3) := by decide +kernel
theorem dL_same_116 : decode cL_same 116 = .ok (.iload 11, 2) := by decide +kernel
theorem dL_same_118 : decode cL_same 118 = .ok (.if_icmp .ne 18, 3) := by decide +kernel
theorem dL_same_121 : decode cL_same 121 = .ok (.aload_n 0, 1) := by decide +kernel
theorem dL_same_122 : decode cL_same 122 = .ok (.iload 5, 2) := by decide +kernel
theorem dL_same_124 : decode cL_same 124 = .ok (.iload_n 2, 1) := by decide +kernel
theorem dL_same_125 : decode cL_same 125 = .ok (.invokevirtual 44, 3) := by decide +kernel
theorem dL_same_128 : decode cL_same 128 = .ok (.iconst 1, 1) := by decide +kernel
theorem dL_same_129 : decode cL_same 129 = .ok (.if_icmp .ne 7, 3) := by decide +kernel
theorem dL_same_132 : decode cL_same 132 = .ok (.iconst 1, 1) := by decide +kernel
theorem dL_same_133 : decode cL_same 133 = .ok (.goto 4, 3) := by decide +kernel
theorem dL_same_136 : decode cL_same 136 = .ok (.iconst 0, 1) := by decide +kernel
theorem dL_same_137 : decode cL_same 137 = .ok (.istore 4, 2) := by decide +kernel
theorem dL_same_139 : decode cL_same 139 = .ok (.iload 4, 2) := by decide +kernel
theorem dL_same_141 : decode cL_same 141 = .ok (.ifCond .eq 88, 3) := by decide +kernel
theorem dL_same_144 : decode cL_same 144 = .ok (.aload_n 0, 1) := by decide +kernel
theorem dL_same_145 : decode cL_same 145 = .ok (.iconst 1, 1) := by decide +kernel
theorem dL_same_146 : decode cL_same 146 = .ok (.invokevirtual 47, 3) := by decide +kernel
theorem dL_same_149 : decode cL_same 149 = .ok (.iload_n 1, 1) := by decide +kernel
theorem dL_same_150 : decode cL_same 150 = .ok (.if_icmp .ne 79, 3) := by decide +kernel
theorem dL_same_153 : decode cL_same 153 = .ok (.aload_n 0, 1) := by decide +kernel
theorem dL_same_154 : decode cL_same 154 = .ok (.iconst 1, 1) := by decide +kernel
theorem dL_same_155 : decode cL_same 155 = .ok (.invokevirtual 50, 3) := by decide +kernel
theorem dL_same_158 : decode cL_same 158 = .ok (.iload_n 1, 1) := by decide +kernel
theorem dL_same_159 : decode cL_same 159 = .ok (.if_icmp .ne 70, 3) := by decide +kernel
theorem dL_same_162 : decode cL_same 162 = .ok (.aload_n 0, 1) := by decide +kernel
theorem dL_same_163 : decode cL_same 163 = .ok (.iconst 0, 1) := by decide +kernel
theorem dL_same_164 : decode cL_same 164 = .ok (.invokevirtual 41, 3) := by decide +kernel
theorem dL_same_167 : decode cL_same 167 = .ok (.ifCond .ne 62, 3) := by decide +kernel
theorem dL_same_170 : decode cL_same 170 = .ok (.aload_n 0, 1) := by decide +kernel
theorem dL_same_171 : decode cL_same 171 = .ok (.iload 5, 2) := by decide +kernel
theorem dL_same_173 : decode cL_same 173 = .ok (.iload_n 2, 1) := by decide +kernel
theorem dL_same_174 : decode cL_same 174 = .ok (.invokevirtual 44, 3) := by decide +kernel
theorem dL_same_177 : decode cL_same 177 = .ok (.ifCond .ne 52, 3) := by decide +kernel
theorem dL_same_180 : decode cL_same 180 = .ok (.aload_n 0, 1) := by decide +kernel
theorem dL_same_181 : decode cL_same 181 = .ok (.iload 5, 2) := by decide +kernel
theorem dL_same_183 : decode cL_same 183 = .ok (.iload_n 2, 1) := by decide +kernel
theorem dL_same_184 : decode cL_same 184 = .ok (.iload 6, 2) := by decide +kernel
theorem dL_same_186 : decode cL_same 186 = .ok (.iload 7, 2) := by decide +kernel
theorem dL_same_188 : decode cL_same 188 = .ok (.iload 8, 2) := by decide +kernel
theorem dL_same_190 : decode cL_same 190 = .ok (.invokevirtual 33, 3) := by decide +kernel
theorem dL_same_193 : decode cL_same 193 = .ok (.iload 9, 2) := by decide +kernel
theorem dL_same_195 : decode cL_same 195 = .ok (.if_icmp .ne 34, 3) := by decide +kernel
theorem dL_same_198 : decode cL_same 198 = .ok (.aload_n 0, 1) := by decide +kernel
theorem dL_same_199 : decode cL_same 199 = .ok (.iload 5, 2) := by decide +kernel
theorem dL_same_201 : decode cL_same 201 = .ok (.iload_n 2, 1) := by decide +kernel
theorem dL_same_202 : decode cL_same 202 = .ok (.iload 8, 2) := by decide +kernel
theorem dL_same_204 : decode cL_same 204 = .ok (.iconst 2, 1) := by decide +kernel
theorem dL_same_205 : decode cL_same 205 = .ok (.invokevirtual 37, 3) := by decide +kernel
theorem dL_same_208 : decode cL_same 208 = .ok (.iload 10, 2) := by decide +kernel
theorem dL_same_210 : decode cL_same 210 = .ok (.if_icmp .ne 19, 3) := by decide +kernel
theorem dL_same_213 : decode cL_same 213 = .ok (.aload_n 0, 1) := by decide +kernel
theorem dL_same_214 : decode cL_same 214 = .ok (.iload 5, 2) := by decide +kernel
theorem dL_same_216 : decode cL_same 216 = .ok (.iload 5, 2) := by decide +kernel
theorem dL_same_218 : decode cL_same 218 = .ok (.iload_n 2, 1) := by decide +kernel
theorem dL_same_219 : decode cL_same 219 = .ok (.invokevirtual 53, 3) := by decide +kernel
theorem dL_same_222 : decode cL_same 222 = .ok (.ifCond .ne 7, 3) := by decide +kernel
theorem dL_same_225 : decode cL_same 225 = .ok (.iconst 1, 1) := by decide +kernel
theorem dL_same_226 : decode cL_same 226 = .ok (.goto 4, 3) := by decide +kernel
theorem dL_same_229 : decode cL_same 229 = .ok (.iconst 0, 1) := by decide +kernel
theorem dL_same_230 : decode cL_same 230 = .ok (.istore 4, 2) := by decide +kernel
theorem dL_same_232 : decode cL_same 232 = .ok (.iinc 5 1, 3) := by decide +kernel
theorem dL_same_235 : decode cL_same 235 = .ok (.goto (-229), 3) := by decide +kernel
theorem dL_same_238 : decode cL_same 238 = .ok (.iload 4, 2) := by decide +kernel
theorem dL_same_240 : decode cL_same 240 = .ok (.ireturn, 1) := by decide +kernel
theorem dL_sound_0 : decode cL_sound 0 = .ok (.iconst 0, 1) := by decide +kernel
theorem dL_sound_1 : decode cL_sound 1 = .ok (.istore_n 2, 1) := by decide +kernel
theorem dL_sound_2 : decode cL_sound 2 = .ok (.iconst 0, 1) := by decide +kernel
theorem dL_sound_3 : decode cL_sound 3 = .ok (.istore_n 3, 1) := by decide +kernel
theorem dL_sound_4 : decode cL_sound 4 = .ok (.aload_n 0, 1) := by decide +kernel
theorem dL_sound_5 : decode cL_sound 5 = .ok (.invokevirtual 57, 3) := by decide +kernel
theorem dL_sound_8 : decode cL_sound 8 = .ok (.iload_n 1, 1) := by decide +kernel
theorem dL_sound_9 : decode cL_sound 9 = .ok (.if_icmp .ne 49, 3) := by decide +kernel
theorem dL_sound_12 : decode cL_sound 12 = .ok (.aload_n 0, 1) := by decide +kernel
theorem dL_sound_13 : decode cL_sound 13 = .ok (.iconst 0, 1) := by decide +kernel
theorem dL_sound_14 : decode cL_sound 14 = .ok (.invokevirtual 41, 3) := by decide +kernel
theorem dL_sound_17 : decode cL_sound 17 = .ok (.bipush 48, 2) := by decide +kernel
theorem dL_sound_19 : decode cL_sound 19 = .ok (.if_icmp .gt 39, 3) := by decide +kernel
theorem dL_sound_22 : decode cL_sound 22 = .ok (.aload_n 0, 1) := by decide +kernel
theorem dL_sound_23 : decode cL_sound 23 = .ok (.iconst 0, 1) := by decide +kernel
theorem dL_sound_24 : decode cL_sound 24 = .ok (.invokevirtual 41, 3) := by decide +kernel
theorem dL_sound_27 : decode cL_sound 27 = .ok (.aload_n 0, 1) := by decide +kernel
theorem dL_sound_28 : decode cL_sound 28 = .ok (.iconst 2, 1) := by decide +kernel
theorem dL_sound_29 : decode cL_sound 29 = .ok (.invokevirtual 41, 3) := by decide +kernel
theorem dL_sound_32 : decode cL_sound 32 = .ok (.if_icmp .gt 26, 3) := by decide +kernel
theorem dL_sound_35 : decode cL_sound 35 = .ok (.aload_n 0, 1) := by decide +kernel
theorem dL_sound_36 : decode cL_sound 36 = .ok (.iconst 3, 1) := by decide +kernel
theorem dL_sound_37 : decode cL_sound 37 = .ok (.invokevirtual 41, 3) := by decide +kernel
theorem dL_sound_40 : decode cL_sound 40 = .ok (.aload_n 0, 1) := by decide +kernel
theorem dL_sound_41 : decode cL_sound 41 = .ok (.iconst 4, 1) := by decide +kernel
theorem dL_sound_42 : decode cL_sound 42 = .ok (.invokevirtual 41, 3) := by decide +kernel
theorem dL_sound_45 : decode cL_sound 45 = .ok (.iadd, 1) := by decide +kernel
theorem dL_sound_46 : decode cL_sound 46 = .ok (.aload_n 0, 1) := by decide +kernel
theorem dL_sound_47 : decode cL_sound 47 = .ok (.iconst 2, 1) := by decide +kernel
theorem dL_sound_48 : decode cL_sound 48 = .ok (.invokevirtual 41, 3) := by decide +kernel
theorem dL_sound_51 : decode cL_sound 51 = .ok (.if_icmp .gt 7, 3) := by decide +kernel
theorem dL_sound_54 : decode cL_sound 54 = .ok (.iconst 1, 1) := by decide +kernel
theorem dL_sound_55 : decode cL_sound 55 = .ok (.goto 4, 3) := by decide +kernel
theorem dL_sound_58 : decode cL_sound 58 = .ok (.iconst 0, 1) := by decide +kernel
theorem dL_sound_59 : decode cL_sound 59 = .ok (.istore 4, 2) := by decide +kernel
theorem dL_sound_61 : decode cL_sound 61 = .ok (.iconst 0, 1) := by decide +kernel
theorem dL_sound_62 : decode cL_sound 62 = .ok (.istore 5, 2) := by decide +kernel
theorem dL_sound_64 : decode cL_sound 64 = .ok (.iload 5, 2) := by decide +kernel
theorem dL_sound_66 : decode cL_sound 66 = .ok (.iload_n 1, 1) := by decide +kernel
theorem dL_sound_67 : decode cL_sound 67 = .ok (.if_icmp .ge 271, 3) := by decide +kernel
theorem dL_sound_70 : decode cL_sound 70 = .ok (.iload 4, 2) := by decide +kernel
theorem dL_sound_72 : decode cL_sound 72 = .ok (.ifCond .eq 266, 3) := by decide +kernel
theorem dL_sound_75 : decode cL_sound 75 = .ok (.aload_n 0, 1) := by decide +kernel
theorem dL_sound_76 : decode cL_sound 76 = .ok (.iload 5, 2) := by decide +kernel
theorem dL_sound_78 : decode cL_sound 78 = .ok (.iconst 0, 1) := by decide +kernel
theorem dL_sound_79 : decode cL_sound 79 = .ok (.invokevirtual 15, 3) := by decide +kernel
theorem dL_sound_82 : decode cL_sound 82 = .ok (.istore 6, 2) := by decide +kernel
theorem dL_sound_84 : decode cL_sound 84 = .ok (.iload_n 2, 1) := by decide +kernel
theorem dL_sound_85 : decode cL_sound 85 = .ok (.iconst 1, 1) := by decide +kernel
theorem dL_sound_86 : decode cL_sound 86 = .ok (.aload_n 0, 1) := by decide +kernel
theorem dL_sound_87 : decode cL_sound 87 = .ok (.iload 5, 2) := by decide +kernel
theorem dL_sound_89 : decode cL_sound 89 = .ok (.iconst 4, 1) := by decide +kernel
theorem dL_sound_90 : decode cL_sound 90 = .ok (.invokevirtual 15, 3) := by decide +kernel
theorem dL_sound_93 : decode cL_sound 93 = .ok (.ishl, 1) := by decide +kernel
theorem dL_sound_94 : decode cL_sound 94 = .ok (.ior, 1) := by decide +kernel
theorem dL_sound_95 : decode cL_sound 95 = .ok (.istore_n 2, 1) := by decide +kernel
theorem dL_sound_96 : decode cL_sound 96 = .ok (.aload_n 0, 1) := by decide +kernel
theorem dL_sound_97 : decode cL_sound 97 = .ok (.iload 5, 2) := by decide +kernel
theorem dL_sound_99 : decode cL_sound 99 = .ok (.iconst 3, 1) := by decide +kernel
theorem dL_sound_100 : decode cL_sound 100 = .ok (.invokevirtual 15, 3) := by decide +kernel
theorem dL_sound_103 : decode cL_sound 103 = .ok (.iconst 1, 1) := by decide +kernel
theorem dL_sound_104 : decode cL_sound 104 = .ok (.if_icmp .lt 35, 3) := by decide +kernel
theorem dL_sound_107 : decode cL_sound 107 = .ok (.aload_n 0, 1) := by decide +kernel
theorem dL_sound_108 : decode cL_sound 108 = .ok (.iload 5, 2) := by decide +kernel
theorem dL_sound_110 : decode cL_sound 110 = .ok (.iconst 3, 1) := by decide +kernel
theorem dL_sound_111 : decode cL_sound 111 = .ok (.invokevirtual 15, 3) := by decide +kernel
theorem dL_sound_114 : decode cL_sound 114 = .ok (.iload_n 1, 1) := by decide +kernel
theorem dL_sound_115 : decode cL_sound 115 = .ok (.if_icmp .gt 24, 3) := by decide +kernel
theorem dL_sound_118 : decode cL_sound 118 = .ok (.aload_n 0, 1) := by decide +kernel
theorem dL_sound_119 : decode cL_sound 119 = .ok (.iload 5, 2) := by decide +kernel
theorem dL_sound_121 : decode cL_sound 121 = .ok (.iconst 1, 1) := by decide +kernel
theorem dL_sound_122 : decode cL_sound 122 = .ok (.invokevirtual 15, 3) := by decide +kernel
theorem dL_sound_125 : decode cL_sound 125 = .ok (.aload_n 0, 1) := by decide +kernel
theorem dL_sound_126 : decode cL_sound 126 = .ok (.iload 5, 2) := by decide +kernel
theorem dL_sound_128 : decode cL_sound 128 = .ok (.iconst 2, 1) := by decide +kernel
theorem dL_sound_129 : decode cL_sound 129 = .ok (.invokevirtual 15, 3) := by decide +kernel
theorem dL_sound_132 : decode cL_sound 132 = .ok (.if_icmp .gt 7, 3) := by decide +kernel
theorem dL_sound_135 : decode cL_sound 135 = .ok (.iconst 1, 1) := by decide +kernel
theorem dL_sound_136 : decode cL_sound 136 = .ok (.goto 4, 3) := by decide +kernel
theorem dL_sound_139 : decode cL_sound 139 = .ok (.iconst 0, 1) := by decide +kernel
theorem dL_sound_140 : decode cL_sound 140 = .ok (.istore 4, 2) := by decide +kernel
theorem dL_sound_142 : decode cL_sound 142 = .ok (.iconst 0, 1) := by decide +kernel
theorem dL_sound_143 : decode cL_sound 143 = .ok (.istore 7, 2) := by decide +kernel
theorem dL_sound_145 : decode cL_sound 145 = .ok (.iload 7, 2) := by decide +kernel
theorem dL_sound_147 : decode cL_sound 147 = .ok (.iload 6, 2) := by decide +kernel
theorem dL_sound_149 : decode cL_sound 149 = .ok (.invokestatic 19, 3) := by decide +kernel
theorem dL_sound_152 : decode cL_sound 152 = .ok (.if_icmp .ge 90, 3) := by decide +kernel
theorem dL_sound_155 : decode cL_sound 155 = .ok (.iload 4, 2) := by decide +kernel
theorem dL_sound_157 : decode cL_sound 157 = .ok (.ifCond .eq 85, 3) := by decide +kernel
theorem dL_sound_160 : decode cL_sound 160 = .ok (.aload_n 0, 1) := by decide +kernel
theorem dL_sound_161 : decode cL_sound 161 = .ok (.iload 5, 2) := by decide +kernel
theorem dL_sound_163 : decode cL_sound 163 = .ok (.iload 7, 2) := by decide +kernel
theorem dL_sound_165 : decode cL_sound 165 = .ok (.invokevirtual 24, 3) := by decide +kernel
theorem dL_sound_168 : decode cL_sound 168 = .ok (.istore 8, 2) := by decide +kernel
theorem dL_sound_170 : decode cL_sound 170 = .ok (.iload 8, 2) := by decide +kernel
theorem dL_sound_172 : decode cL_sound 172 = .ok (.sipush (-1005), 3) := by decide +kernel
theorem dL_sound_175 : decode cL_sound 175 = .ok (.if_icmp .eq 54, 3) := by decide +kernel
theorem dL_sound_178 : decode cL_sound 178 = .ok (.aload_n 0, 1) := by decide +kernel
theorem dL_sound_179 : decode cL_sound 179 = .ok (.iload 8, 2) := by decide +kernel
theorem dL_sound_181 : decode cL_sound 181 = .ok (.iconst 4, 1) := by decide +kernel
theorem dL_sound_182 : decode cL_sound 182 = .ok (.invokevirtual 15, 3) := by decide +kernel
theorem dL_sound_185 : decode cL_sound 185 = .ok (.aload_n 0, 1) := by decide +kernel
theorem dL_sound_186 : decode cL_sound 186 = .ok (.iload 5, 2) := by decide +kernel
theorem dL_sound_188 : decode cL_sound 188 = .ok (.iconst 4, 1) := by decide +kernel
theorem dL_sound_189 : decode cL_sound 189 = .ok (.invokevirtual 15, 3) := by decide +kernel
theorem dL_sound_192 : decode cL_sound 192 = .ok (.if_icmp .ge 41, 3) := by decide +kernel
theorem dL_sound_195 : decode cL_sound 195 = .ok (.aload_n 0, 1) := by decide +kernel
theorem dL_sound_196 : decode cL_sound 196 = .ok (.iload 8, 2) := by decide +kernel
theorem dL_sound_198 : decode cL_sound 198 = .ok (.iconst 5, 1) := by decide +kernel
theorem dL_sound_199 : decode cL_sound 199 = .ok (.invokevirtual 15, 3) := by decide +kernel
theorem dL_sound_202 : decode cL_sound 202 = .ok (.aload_n 0, 1) := by decide +kernel
theorem dL_sound_203 : decode cL_sound 203 = .ok (.iload 5, 2) := by decide +kernel
theorem dL_sound_205 : decode cL_sound 205 = .ok (.iconst 5, 1) := by decide +kernel
theorem dL_sound_206 : decode cL_sound 206 = .ok (.invokevirtual 15, 3) := by decide +kernel
theorem dL_sound_209 : decode cL_sound 209 = .ok (.if_icmp .ge 24, 3) := by decide +kernel
theorem dL_sound_212 : decode cL_sound 212 = .ok (.aload_n 0, 1) := by decide +kernel
theorem dL_sound_213 : decode cL_sound 213 = .ok (.iload 8, 2) := by decide +kernel
theorem dL_sound_215 : decode cL_sound 215 = .ok (.iconst 3, 1) := by decide +kernel
theorem dL_sound_216 : decode cL_sound 216 = .ok (.invokevirtual 15, 3) := by decide +kernel
theorem dL_sound_219 : decode cL_sound 219 = .ok (.aload_n 0, 1) := by decide +kernel
theorem dL_sound_220 : decode cL_sound 220 = .ok (.iload 5, 2) := by decide +kernel
theorem dL_sound_222 : decode cL_sound 222 = .ok (.iconst 3, 1) := by decide +kernel
theorem dL_sound_223 : decode cL_sound 223 = .ok (.invokevirtual 15, 3) := by decide +kernel
theorem dL_sound_226 : decode cL_sound 226 = .ok (.if_icmp .le 7, 3) := by decide +kernel
theorem dL_sound_229 : decode cL_sound 229 = .ok (.iconst 1, 1) := by decide +kernel
theorem dL_sound_230 : decode cL_sound 230 = .ok (.goto 4, 3) := by decide +kernel
theorem dL_sound_233 : decode cL_sound 233 = .ok (.iconst 0, 1) := by decide +kernel
theorem dL_sound_234 : decode cL_sound 234 = .ok (.istore 4, 2) := by decide +kernel
theorem dL_sound_236 : decode cL_sound 236 = .ok (.iinc 7 1, 3) := by decide +kernel
theorem dL_sound_239 : decode cL_sound 239 = .ok (.goto (-94), 3) := by decide +kernel
theorem dL_sound_242 : decode cL_sound 242 = .ok (.iconst 0, 1) := by decide +kernel
theorem dL_sound_243 : decode cL_sound 243 = .ok (.istore 7, 2) := by decide +kernel
theorem dL_sound_245 : decode cL_sound 245 = .ok (.iload 7, 2) := by decide +kernel
theorem dL_sound_247 : decode cL_sound 247 = .ok (.iload 6, 2) := by decide +kernel
theorem dL_sound_249 : decode cL_sound 249 = .ok (.invokestatic 27, 3) := by decide +kernel
theorem dL_sound_252 : decode cL_sound 252 = .ok (.if_icmp .ge 53, 3) := by decide +kernel
theorem dL_sound_255 : decode cL_sound 255 = .ok (.iload 4, 2) := by decide +kernel
theorem dL_sound_257 : decode cL_sound 257 = .ok (.ifCond .eq 48, 3) := by decide +kernel
theorem dL_sound_260 : decode cL_sound 260 = .ok (.aload_n 0, 1) := by decide +kernel
theorem dL_sound_261 : decode cL_sound 261 = .ok (.iload 5, 2) := by decide +kernel
theorem dL_sound_263 : decode cL_sound 263 = .ok (.iload 7, 2) := by decide +kernel
theorem dL_sound_265 : decode cL_sound 265 = .ok (.invokevirtual 30, 3) := by decide +kernel
theorem dL_sound_268 : decode cL_sound 268 = .ok (.iload 6, 2) := by decide +kernel
theorem dL_sound_270 : decode cL_sound 270 = .ok (.iload 7, 2) := by decide +kernel
theorem dL_sound_272 : decode cL_sound 272 = .ok (.invokestatic 61, 3) := by decide +kernel
theorem dL_sound_275 : decode cL_sound 275 = .ok (.if_icmp .gt 21, 3) := by decide +kernel
theorem dL_sound_278 : decode cL_sound 278 = .ok (.aload_n 0, 1) := by decide +kernel
theorem dL_sound_279 : decode cL_sound 279 = .ok (.iload 5, 2) := by decide +kernel
theorem dL_sound_281 : decode cL_sound 281 = .ok (.iload 7, 2) := by decide +kernel
theorem dL_sound_283 : decode cL_sound 283 = .ok (.invokevirtual 30, 3) := by decide +kernel
theorem dL_sound_286 : decode cL_sound 286 = .ok (.sipush (-255), 3) := by decide +kernel
theorem dL_sound_289 : decode cL_sound 289 = .ok (.if_icmp .lt 7, 3) := by decide +kernel
theorem dL_sound_292 : decode cL_sound 292 = .ok (.iconst 1, 1) := by decide +kernel
theorem dL_sound_293 : decode cL_sound 293 = .ok (.goto 4, 3) := by decide +kernel
theorem dL_sound_296 : decode cL_sound 296 = .ok (.iconst 0, 1) := by decide +kernel
theorem dL_sound_297 : decode cL_sound 297 = .ok (.istore 4, 2) := by decide +kernel
theorem dL_sound_299 : decode cL_sound 299 = .ok (.iinc 7 1, 3) := by decide +kernel
theorem dL_sound_302 : decode cL_sound 302 = .ok (.goto (-57), 3) := by decide +kernel
theorem dL_sound_305 : decode cL_sound 305 = .ok (.iconst 0, 1) := by decide +kernel
theorem dL_sound_306 : decode cL_sound 306 = .ok (.istore 7, 2) := by decide +kernel
theorem dL_sound_308 : decode cL_sound 308 = .ok (.iload 7, 2) := by decide +kernel
theorem dL_sound_310 : decode cL_sound 310 = .ok (.bipush 100, 2) := by decide +kernel
theorem dL_sound_312 : decode cL_sound 312 = .ok (.if_icmp .ge 20, 3) := by decide +kernel
theorem dL_sound_315 : decode cL_sound 315 = .ok (.iload_n 3, 1) := by decide +kernel
theorem dL_sound_316 : decode cL_sound 316 = .ok (.aload_n 0, 1) := by decide +kernel
theorem dL_sound_317 : decode cL_sound 317 = .ok (.iload 5, 2) := by decide +kernel
theorem dL_sound_319 : decode cL_sound 319 = .ok (.iload 7, 2) := by decide +kernel
theorem dL_sound_321 : decode cL_sound 321 = .ok (.invokevirtual 44, 3) := by decide +kernel
theorem dL_sound_324 : decode cL_sound 324 = .ok (.iadd, 1) := by decide +kernel
theorem dL_sound_325 : decode cL_sound 325 = .ok (.istore_n 3, 1) := by decide +kernel
theorem dL_sound_326 : decode cL_sound 326 = .ok (.iinc 7 1, 3) := by decide +kernel
theorem dL_sound_329 : decode cL_sound 329 = .ok (.goto (-21), 3) := by decide +kernel
theorem dL_sound_332 : decode cL_sound 332 = .ok (.iinc 5 1, 3) := by decide +kernel
theorem dL_sound_335 : decode cL_sound 335 = .ok (.goto (-271), 3) := by decide +kernel
theorem dL_sound_338 : decode cL_sound 338 = .ok (.iload 4, 2) := by decide +kernel
theorem dL_sound_340 : decode cL_sound 340 = .ok (.ifCond .eq 25, 3) := by decide +kernel
theorem dL_sound_343 : decode cL_sound 343 = .ok (.iload_n 2, 1) := by decide +kernel
theorem dL_sound_344 : decode cL_sound 344 = .ok (.iconst 1, 1) := by decide +kernel
theorem dL_sound_345 : decode cL_sound 345 = .ok (.iload_n 1, 1) := by decide +kernel
theorem dL_sound_346 : decode cL_sound 346 = .ok (.ishl, 1) := by decide +kernel
theorem dL_sound_347 : decode cL_sound 347 = .ok (.iconst 1, 1) := by decide +kernel
theorem dL_sound_348 : decode cL_sound 348 = .ok (.isub, 1) := by decide +kernel
theorem dL_sound_349 : decode cL_sound 349 = .ok (.if_icmp .ne 16, 3) := by decide +kernel
theorem dL_sound_352 : decode cL_sound 352 = .ok (.iload_n 3, 1) := by decide +kernel
theorem dL_sound_353 : decode cL_sound 353 = .ok (.aload_n 0, 1) := by decide +kernel
theorem dL_sound_354 : decode cL_sound 354 = .ok (.iconst 0, 1) := by decide +kernel
theorem dL_sound_355 : decode cL_sound 355 = .ok (.invokevirtual 41, 3) := by decide +kernel
theorem dL_sound_358 : decode cL_sound 358 = .ok (.if_icmp .ne 7, 3) := by decide +kernel
theorem dL_sound_361 : decode cL_sound 361 = .ok (.iconst 1, 1) := by decide +kernel
theorem dL_sound_362 : decode cL_sound 362 = .ok (.goto 4, 3) := by decide +kernel
theorem dL_sound_365 : decode cL_sound 365 = .ok (.iconst 0, 1) := by decide +kernel
theorem dL_sound_366 : decode cL_sound 366 = .ok (.ireturn, 1) := by decide +kernel
