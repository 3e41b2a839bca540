theorem dX7_messagePart_39 : decode cX7_messagePart 39 = .ok (.iload_n 2, 1) := by decide +kernel
theorem dX7_messagePart_40 : decode cX7_messagePart 40 = .ok (.iadd, 1) := by decide +kernel
theorem dX7_messagePart_41 : decode cX7_messagePart 41 = .ok (.if_icmp .ne 7, 3) := by decide +kernel
theorem dX7_messagePart_44 : decode cX7_messagePart 44 = .ok (.iconst 1, 1) := by decide +kernel
theorem dX7_messagePart_45 : decode cX7_messagePart 45 = .ok (.goto 4, 3) := by decide +kernel
theorem dX7_messagePart_48 : decode cX7_messagePart 48 = .ok (.iconst 0, 1) := by decide +kernel
theorem dX7_messagePart_49 : decode cX7_messagePart 49 = .ok (.istore 5, 2) := by decide +kernel
theorem dX7_messagePart_51 : decode cX7_messagePart 51 = .ok (.iconst (-1), 1) := by decide +kernel
theorem dX7_messagePart_52 : decode cX7_messagePart 52 = .ok (.istore 6, 2) := by decide +kernel
theorem dX7_messagePart_54 : decode cX7_messagePart 54 = .ok (.iconst 1, 1) := by decide +kernel
theorem dX7_messagePart_55 : decode cX7_messagePart 55 = .ok (.istore 7, 2) := by decide +kernel
theorem dX7_messagePart_57 : decode cX7_messagePart 57 = .ok (.iload 5, 2) := by decide +kernel
theorem dX7_messagePart_59 : decode cX7_messagePart 59 = .ok (.ifCond .eq 45, 3) := by decide +kernel
theorem dX7_messagePart_62 : decode cX7_messagePart 62 = .ok (.aload_n 0, 1) := by decide +kernel
theorem dX7_messagePart_63 : decode cX7_messagePart 63 = .ok (.iload_n 3, 1) := by decide +kernel
theorem dX7_messagePart_64 : decode cX7_messagePart 64 = .ok (.iload 4, 2) := by decide +kernel
theorem dX7_messagePart_66 : decode cX7_messagePart 66 = .ok (.ifCond .eq 12, 3) := by decide +kernel
theorem dX7_messagePart_69 : decode cX7_messagePart 69 = .ok (.aload_n 0, 1) := by decide +kernel
theorem dX7_messagePart_70 : decode cX7_messagePart 70 = .ok (.getfield 20, 3) := by decide +kernel
theorem dX7_messagePart_73 : decode cX7_messagePart 73 = .ok (.iload_n 1, 1) := by decide +kernel
theorem dX7_messagePart_74 : decode cX7_messagePart 74 = .ok (.iaload, 1) := by decide +kernel
theorem dX7_messagePart_75 : decode cX7_messagePart 75 = .ok (.goto 9, 3) := by decide +kernel
theorem dX7_messagePart_78 : decode cX7_messagePart 78 = .ok (.aload_n 0, 1) := by decide +kernel
theorem dX7_messagePart_79 : decode cX7_messagePart 79 = .ok (.getfield 17, 3) := by decide +kernel
theorem dX7_messagePart_82 : decode cX7_messagePart 82 = .ok (.iload_n 1, 1) := by decide +kernel
theorem dX7_messagePart_83 : decode cX7_messagePart 83 = .ok (.iaload, 1) := by decide +kernel
theorem dX7_messagePart_84 : decode cX7_messagePart 84 = .ok (.invokevirtual 87, 3) := by decide +kernel
theorem dX7_messagePart_87 : decode cX7_messagePart 87 = .ok (.aload_n 0, 1) := by decide +kernel
theorem dX7_messagePart_88 : decode cX7_messagePart 88 = .ok (.iload_n 3, 1) := by decide +kernel
theorem dX7_messagePart_89 : decode cX7_messagePart 89 = .ok (.iload 4, 2) := by decide +kernel
theorem dX7_messagePart_91 : decode cX7_messagePart 91 = .ok (.ifCond .eq 8, 3) := by decide +kernel
theorem dX7_messagePart_94 : decode cX7_messagePart 94 = .ok (.bipush 33, 2) := by decide +kernel
theorem dX7_messagePart_96 : decode cX7_messagePart 96 = .ok (.goto 5, 3) := by decide +kernel
theorem dX7_messagePart_99 : decode cX7_messagePart 99 = .ok (.bipush 63, 2) := by decide +kernel
theorem dX7_messagePart_101 : decode cX7_messagePart 101 = .ok (.invokevirtual 87, 3) := by decide +kernel
theorem dX7_messagePart_104 : decode cX7_messagePart 104 = .ok (.iload_n 1, 1) := by decide +kernel
theorem dX7_messagePart_105 : decode cX7_messagePart 105 = .ok (.iconst 1, 1) := by decide +kernel
theorem dX7_messagePart_106 : decode cX7_messagePart 106 = .ok (.iadd, 1) := by decide +kernel
theorem dX7_messagePart_107 : decode cX7_messagePart 107 = .ok (.istore 8, 2) := by decide +kernel
theorem dX7_messagePart_109 : decode cX7_messagePart 109 = .ok (.iload 8, 2) := by decide +kernel
theorem dX7_messagePart_111 : decode cX7_messagePart 111 = .ok (.aload_n 0, 1) := by decide +kernel
theorem dX7_messagePart_112 : decode cX7_messagePart 112 = .ok (.getfield 54, 3) := by decide +kernel
theorem dX7_messagePart_115 : decode cX7_messagePart 115 = .ok (.if_icmp .ge 131, 3) := by decide +kernel
theorem dX7_messagePart_118 : decode cX7_messagePart 118 = .ok (.iload 7, 2) := by decide +kernel
theorem dX7_messagePart_120 : decode cX7_messagePart 120 = .ok (.ifCond .eq 126, 3) := by decide +kernel
theorem dX7_messagePart_123 : decode cX7_messagePart 123 = .ok (.aload_n 0, 1) := by decide +kernel
theorem dX7_messagePart_124 : decode cX7_messagePart 124 = .ok (.getfield 23, 3) := by decide +kernel
theorem dX7_messagePart_127 : decode cX7_messagePart 127 = .ok (.iload 8, 2) := by decide +kernel
theorem dX7_messagePart_129 : decode cX7_messagePart 129 = .ok (.iaload, 1) := by decide +kernel
theorem dX7_messagePart_130 : decode cX7_messagePart 130 = .ok (.iload_n 1, 1) := by decide +kernel
theorem dX7_messagePart_131 : decode cX7_messagePart 131 = .ok (.if_icmp .eq 6, 3) := by decide +kernel
theorem dX7_messagePart_134 : decode cX7_messagePart 134 = .ok (.goto 106, 3) := by decide +kernel
theorem dX7_messagePart_137 : decode cX7_messagePart 137 = .ok (.iconst 4, 1) := by decide +kernel
theorem dX7_messagePart_138 : decode cX7_messagePart 138 = .ok (.iload 8, 2) := by decide +kernel
theorem dX7_messagePart_140 : decode cX7_messagePart 140 = .ok (.imul, 1) := by decide +kernel
theorem dX7_messagePart_141 : decode cX7_messagePart 141 = .ok (.iload_n 2, 1) := by decide +kernel
theorem dX7_messagePart_142 : decode cX7_messagePart 142 = .ok (.iadd, 1) := by decide +kernel
theorem dX7_messagePart_143 : decode cX7_messagePart 143 = .ok (.istore 9, 2) := by decide +kernel
theorem dX7_messagePart_145 : decode cX7_messagePart 145 = .ok (.aload_n 0, 1) := by decide +kernel
theorem dX7_messagePart_146 : decode cX7_messagePart 146 = .ok (.getfield 32, 3) := by decide +kernel
theorem dX7_messagePart_149 : decode cX7_messagePart 149 = .ok (.iload 9, 2) := by decide +kernel
theorem dX7_messagePart_151 : decode cX7_messagePart 151 = .ok (.iaload, 1) := by decide +kernel
theorem dX7_messagePart_152 : decode cX7_messagePart 152 = .ok (.ifCond .lt 28, 3) := by decide +kernel
theorem dX7_messagePart_155 : decode cX7_messagePart 155 = .ok (.iload 5, 2) := by decide +kernel
theorem dX7_messagePart_157 : decode cX7_messagePart 157 = .ok (.ifCond .ne 19, 3) := by decide +kernel
theorem dX7_messagePart_160 : decode cX7_messagePart 160 = .ok (.iload 6, 2) := by decide +kernel
theorem dX7_messagePart_162 : decode cX7_messagePart 162 = .ok (.ifCond .lt 14, 3) := by decide +kernel
theorem dX7_messagePart_165 : decode cX7_messagePart 165 = .ok (.aload_n 0, 1) := by decide +kernel
theorem dX7_messagePart_166 : decode cX7_messagePart 166 = .ok (.iload 6, 2) := by decide +kernel
theorem dX7_messagePart_168 : decode cX7_messagePart 168 = .ok (.iload 9, 2) := by decide +kernel
theorem dX7_messagePart_170 : decode cX7_messagePart 170 = .ok (.invokevirtual 94, 3) := by decide +kernel
theorem dX7_messagePart_173 : decode cX7_messagePart 173 = .ok (.ifCond .eq 7, 3) := by decide +kernel
theorem dX7_messagePart_176 : decode cX7_messagePart 176 = .ok (.iconst 1, 1) := by decide +kernel
theorem dX7_messagePart_177 : decode cX7_messagePart 177 = .ok (.goto 4, 3) := by decide +kernel
theorem dX7_messagePart_180 : decode cX7_messagePart 180 = .ok (.iconst 0, 1) := by decide +kernel
theorem dX7_messagePart_181 : decode cX7_messagePart 181 = .ok (.istore 7, 2) := by decide +kernel
theorem dX7_messagePart_183 : decode cX7_messagePart 183 = .ok (.iload 5, 2) := by decide +kernel
theorem dX7_messagePart_185 : decode cX7_messagePart 185 = .ok (.ifCond .eq 51, 3) := by decide +kernel
theorem dX7_messagePart_188 : decode cX7_messagePart 188 = .ok (.iload 7, 2) := by decide +kernel
theorem dX7_messagePart_190 : decode cX7_messagePart 190 = .ok (.ifCond .eq 46, 3) := by decide +kernel
theorem dX7_messagePart_193 : decode cX7_messagePart 193 = .ok (.aload_n 0, 1) := by decide +kernel
theorem dX7_messagePart_194 : decode cX7_messagePart 194 = .ok (.iload_n 3, 1) := by decide +kernel
theorem dX7_messagePart_195 : decode cX7_messagePart 195 = .ok (.iload 6, 2) := by decide +kernel
theorem dX7_messagePart_197 : decode cX7_messagePart 197 = .ok (.ifCond .ge 8, 3) := by decide +kernel
theorem dX7_messagePart_200 : decode cX7_messagePart 200 = .ok (.bipush 123, 2) := by decide +kernel
theorem dX7_messagePart_202 : decode cX7_messagePart 202 = .ok (.goto 5, 3) := by decide +kernel
theorem dX7_messagePart_205 : decode cX7_messagePart 205 = .ok (.bipush 44, 2) := by decide +kernel
theorem dX7_messagePart_207 : decode cX7_messagePart 207 = .ok (.invokevirtual 87, 3) := by decide +kernel
theorem dX7_messagePart_210 : decode cX7_messagePart 210 = .ok (.aload_n 0, 1) := by decide +kernel
theorem dX7_messagePart_211 : decode cX7_messagePart 211 = .ok (.iload_n 3, 1) := by decide +kernel
theorem dX7_messagePart_212 : decode cX7_messagePart 212 = .ok (.aload_n 0, 1) := by decide +kernel
theorem dX7_messagePart_213 : decode cX7_messagePart 213 = .ok (.getfield 26, 3) := by decide +kernel
theorem dX7_messagePart_216 : decode cX7_messagePart 216 = .ok (.iload 8, 2) := by decide +kernel
theorem dX7_messagePart_218 : decode cX7_messagePart 218 = .ok (.iaload, 1) := by decide +kernel
theorem dX7_messagePart_219 : decode cX7_messagePart 219 = .ok (.invokevirtual 87, 3) := by decide +kernel
theorem dX7_messagePart_222 : decode cX7_messagePart 222 = .ok (.aload_n 0, 1) := by decide +kernel
theorem dX7_messagePart_223 : decode cX7_messagePart 223 = .ok (.iload_n 3, 1) := by decide +kernel
theorem dX7_messagePart_224 : decode cX7_messagePart 224 = .ok (.bipush 46, 2) := by decide +kernel
theorem dX7_messagePart_226 : decode cX7_messagePart 226 = .ok (.invokevirtual 87, 3) := by decide +kernel
theorem dX7_messagePart_229 : decode cX7_messagePart 229 = .ok (.aload_n 0, 1) := by decide +kernel
theorem dX7_messagePart_230 : decode cX7_messagePart 230 = .ok (.iload 9, 2) := by decide +kernel
theorem dX7_messagePart_232 : decode cX7_messagePart 232 = .ok (.iload_n 3, 1) := by decide +kernel
theorem dX7_messagePart_233 : decode cX7_messagePart 233 = .ok (.invokevirtual 91, 3) := by decide +kernel
theorem dX7_messagePart_236 : decode cX7_messagePart 236 = .ok (.iload 9, 2) := by decide +kernel
theorem dX7_messagePart_238 : decode cX7_messagePart 238 = .ok (.istore 6, 2) := by decide +kernel
theorem dX7_messagePart_240 : decode cX7_messagePart 240 = .ok (.iinc 8 1, 3) := by decide +kernel
theorem dX7_messagePart_243 : decode cX7_messagePart 243 = .ok (.goto (-134), 3) := by decide +kernel
theorem dX7_messagePart_246 : decode cX7_messagePart 246 = .ok (.iload 7, 2) := by decide +kernel
theorem dX7_messagePart_248 : decode cX7_messagePart 248 = .ok (.ifCond .ne 13, 3) := by decide +kernel
theorem dX7_messagePart_251 : decode cX7_messagePart 251 = .ok (.aload_n 0, 1) := by decide +kernel
theorem dX7_messagePart_252 : decode cX7_messagePart 252 = .ok (.getfield 32, 3) := by decide +kernel
theorem dX7_messagePart_255 : decode cX7_messagePart 255 = .ok (.iload_n 3, 1) := by decide +kernel
theorem dX7_messagePart_256 : decode cX7_messagePart 256 = .ok (.iconst (-1), 1) := by decide +kernel
theorem dX7_messagePart_257 : decode cX7_messagePart 257 = .ok (.iastore, 1) := by decide +kernel
theorem dX7_messagePart_258 : decode cX7_messagePart 258 = .ok (.goto 25, 3) := by decide +kernel
theorem dX7_messagePart_261 : decode cX7_messagePart 261 = .ok (.iload 5, 2) := by decide +kernel
theorem dX7_messagePart_263 : decode cX7_messagePart 263 = .ok (.ifCond .eq 13, 3) := by decide +kernel
theorem dX7_messagePart_266 : decode cX7_messagePart 266 = .ok (.aload_n 0, 1) := by decide +kernel
theorem dX7_messagePart_267 : decode cX7_messagePart 267 = .ok (.iload_n 3, 1) := by decide +kernel
theorem dX7_messagePart_268 : decode cX7_messagePart 268 = .ok (.bipush 125, 2) := by decide +kernel
theorem dX7_messagePart_270 : decode cX7_messagePart 270 = .ok (.invokevirtual 87, 3) := by decide +kernel
theorem dX7_messagePart_273 : decode cX7_messagePart 273 = .ok (.goto 10, 3) := by decide +kernel
theorem dX7_messagePart_276 : decode cX7_messagePart 276 = .ok (.aload_n 0, 1) := by decide +kernel
theorem dX7_messagePart_277 : decode cX7_messagePart 277 = .ok (.iload 6, 2) := by decide +kernel
theorem dX7_messagePart_279 : decode cX7_messagePart 279 = .ok (.iload_n 3, 1) := by decide +kernel
theorem dX7_messagePart_280 : decode cX7_messagePart 280 = .ok (.invokevirtual 91, 3) := by decide +kernel
theorem dX7_messagePart_283 : decode cX7_messagePart 283 = .ok (.return_, 1) := by decide +kernel
theorem dX7_project_0 : decode cX7_project 0 = .ok (.aload_n 0, 1) := by decide +kernel
theorem dX7_project_1 : decode cX7_project 1 = .ok (.getfield 54, 3) := by decide +kernel
theorem dX7_project_4 : decode cX7_project 4 = .ok (.iconst 1, 1) := by decide +kernel
theorem dX7_project_5 : decode cX7_project 5 = .ok (.isub, 1) := by decide +kernel
theorem dX7_project_6 : decode cX7_project 6 = .ok (.istore_n 1, 1) := by decide +kernel
theorem dX7_project_7 : decode cX7_project 7 = .ok (.iload_n 1, 1) := by decide +kernel
theorem dX7_project_8 : decode cX7_project 8 = .ok (.ifCond .lt 86, 3) := by decide +kernel
theorem dX7_project_11 : decode cX7_project 11 = .ok (.iconst 0, 1) := by decide +kernel
theorem dX7_project_12 : decode cX7_project 12 = .ok (.istore_n 2, 1) := by decide +kernel
theorem dX7_project_13 : decode cX7_project 13 = .ok (.iload_n 2, 1) := by decide +kernel
theorem dX7_project_14 : decode cX7_project 14 = .ok (.iconst 4, 1) := by decide +kernel
theorem dX7_project_15 : decode cX7_project 15 = .ok (.if_icmp .ge 73, 3) := by decide +kernel
theorem dX7_project_18 : decode cX7_project 18 = .ok (.aload_n 0, 1) := by decide +kernel
theorem dX7_project_19 : decode cX7_project 19 = .ok (.getfield 32, 3) := by decide +kernel
theorem dX7_project_22 : decode cX7_project 22 = .ok (.iconst 4, 1) := by decide +kernel
theorem dX7_project_23 : decode cX7_project 23 = .ok (.iload_n 1, 1) := by decide +kernel
theorem dX7_project_24 : decode cX7_project 24 = .ok (.imul, 1) := by decide +kernel
theorem dX7_project_25 : decode cX7_project 25 = .ok (.iload_n 2, 1) := by decide +kernel
theorem dX7_project_26 : decode cX7_project 26 = .ok (.iadd, 1) := by decide +kernel
theorem dX7_project_27 : decode cX7_project 27 = .ok (.iconst 0, 1) := by decide +kernel
theorem dX7_project_28 : decode cX7_project 28 = .ok (.iastore, 1) := by decide +kernel
theorem dX7_project_29 : decode cX7_project 29 = .ok (.aload_n 0, 1) := by decide +kernel
theorem dX7_project_30 : decode cX7_project 30 = .ok (.getfield 13, 3) := by decide +kernel
theorem dX7_project_33 : decode cX7_project 33 = .ok (.iload_n 1, 1) := by decide +kernel
theorem dX7_project_34 : decode cX7_project 34 = .ok (.iaload, 1) := by decide +kernel
theorem dX7_project_35 : decode cX7_project 35 = .ok (.iconst 2, 1) := by decide +kernel
theorem dX7_project_36 : decode cX7_project 36 = .ok (.if_icmp .ne 12, 3) := by decide +kernel
theorem dX7_project_39 : decode cX7_project 39 = .ok (.aload_n 0, 1) := by decide +kernel
theorem dX7_project_40 : decode cX7_project 40 = .ok (.iload_n 1, 1) := by decide +kernel
theorem dX7_project_41 : decode cX7_project 41 = .ok (.iload_n 2, 1) := by decide +kernel
theorem dX7_project_42 : decode cX7_project 42 = .ok (.invokevirtual 98, 3) := by decide +kernel
theorem dX7_project_45 : decode cX7_project 45 = .ok (.goto 37, 3) := by decide +kernel
theorem dX7_project_48 : decode cX7_project 48 = .ok (.aload_n 0, 1) := by decide +kernel
theorem dX7_project_49 : decode cX7_project 49 = .ok (.getfield 13, 3) := by decide +kernel
theorem dX7_project_52 : decode cX7_project 52 = .ok (.iload_n 1, 1) := by decide +kernel
theorem dX7_project_53 : decode cX7_project 53 = .ok (.iaload, 1) := by decide +kernel
theorem dX7_project_54 : decode cX7_project 54 = .ok (.iconst 3, 1) := by decide +kernel
theorem dX7_project_55 : decode cX7_project 55 = .ok (.if_icmp .ne 12, 3) := by decide +kernel
theorem dX7_project_58 : decode cX7_project 58 = .ok (.aload_n 0, 1) := by decide +kernel
theorem dX7_project_59 : decode cX7_project 59 = .ok (.iload_n 1, 1) := by decide +kernel
theorem dX7_project_60 : decode cX7_project 60 = .ok (.iload_n 2, 1) := by decide +kernel
theorem dX7_project_61 : decode cX7_project 61 = .ok (.invokevirtual 101, 3) := by decide +kernel
theorem dX7_project_64 : decode cX7_project 64 = .ok (.goto 18, 3) := by decide +kernel
theorem dX7_project_67 : decode cX7_project 67 = .ok (.aload_n 0, 1) := by decide +kernel
theorem dX7_project_68 : decode cX7_project 68 = .ok (.iconst 4, 1) := by decide +kernel
theorem dX7_project_69 : decode cX7_project 69 = .ok (.iload_n 1, 1) := by decide +kernel
theorem dX7_project_70 : decode cX7_project 70 = .ok (.imul, 1) := by decide +kernel
theorem dX7_project_71 : decode cX7_project 71 = .ok (.iload_n 2, 1) := by decide +kernel
theorem dX7_project_72 : decode cX7_project 72 = .ok (.iadd, 1) := by decide +kernel
theorem dX7_project_73 : decode cX7_project 73 = .ok (.aload_n 0, 1) := by decide +kernel
theorem dX7_project_74 : decode cX7_project 74 = .ok (.getfield 17, 3) := by decide +kernel
theorem dX7_project_77 : decode cX7_project 77 = .ok (.iload_n 1, 1) := by decide +kernel
theorem dX7_project_78 : decode cX7_project 78 = .ok (.iaload, 1) := by decide +kernel
theorem dX7_project_79 : decode cX7_project 79 = .ok (.invokevirtual 87, 3) := by decide +kernel
theorem dX7_project_82 : decode cX7_project 82 = .ok (.iinc 2 1, 3) := by decide +kernel
theorem dX7_project_85 : decode cX7_project 85 = .ok (.goto (-72), 3) := by decide +kernel
theorem dX7_project_88 : decode cX7_project 88 = .ok (.iinc 1 (-1), 3) := by decide +kernel
theorem dX7_project_91 : decode cX7_project 91 = .ok (.goto (-84), 3) := by decide +kernel
theorem dX7_project_94 : decode cX7_project 94 = .ok (.return_, 1) := by decide +kernel
theorem dX7_define_0 : decode cX7_define 0 = .ok (.aload_n 0, 1) := by decide +kernel
theorem dX7_define_1 : decode cX7_define 1 = .ok (.invokevirtual 104, 3) := by decide +kernel
theorem dX7_define_4 : decode cX7_define 4 = .ok (.istore_n 1, 1) := by decide +kernel
theorem dX7_define_5 : decode cX7_define 5 = .ok (.aload_n 0, 1) := by decide +kernel
theorem dX7_define_6 : decode cX7_define 6 = .ok (.iconst 0, 1) := by decide +kernel
theorem dX7_define_7 : decode cX7_define 7 = .ok (.putfield 50, 3) := by decide +kernel
theorem dX7_define_10 : decode cX7_define 10 = .ok (.iload_n 1, 1) := by decide +kernel
theorem dX7_define_11 : decode cX7_define 11 = .ok (.ifCond .lt 5, 3) := by decide +kernel
theorem dX7_define_14 : decode cX7_define 14 = .ok (.iload_n 1, 1) := by decide +kernel
theorem dX7_define_15 : decode cX7_define 15 = .ok (.ireturn, 1) := by decide +kernel
theorem dX7_define_16 : decode cX7_define 16 = .ok (.aload_n 0, 1) := by decide +kernel
theorem dX7_define_17 : decode cX7_define 17 = .ok (.invokevirtual 108, 3) := by decide +kernel
theorem dX7_define_20 : decode cX7_define 20 = .ok (.ifCond .ne 6, 3) := by decide +kernel
theorem dX7_define_23 : decode cX7_define 23 = .ok (.bipush (-2), 2) := by decide +kernel
theorem dX7_define_25 : decode cX7_define 25 = .ok (.ireturn, 1) := by decide +kernel
theorem dX7_define_26 : decode cX7_define 26 = .ok (.aload_n 0, 1) := by decide +kernel
theorem dX7_define_27 : decode cX7_define 27 = .ok (.invokevirtual 112, 3) := by decide +kernel
theorem dX7_define_30 : decode cX7_define 30 = .ok (.aload_n 0, 1) := by decide +kernel
theorem dX7_define_31 : decode cX7_define 31 = .ok (.iconst 0, 1) := by decide +kernel
theorem dX7_define_32 : decode cX7_define 32 = .ok (.putfield 115, 3) := by decide +kernel
theorem dX7_define_35 : decode cX7_define 35 = .ok (.iconst 0, 1) := by decide +kernel
theorem dX7_define_36 : decode cX7_define 36 = .ok (.istore_n 2, 1) := by decide +kernel
theorem dX7_define_37 : decode cX7_define 37 = .ok (.iload_n 2, 1) := by decide +kernel
theorem dX7_define_38 : decode cX7_define 38 = .ok (.aload_n 0, 1) := by decide +kernel
theorem dX7_define_39 : decode cX7_define 39 = .ok (.getfield 54, 3) := by decide +kernel
theorem dX7_define_42 : decode cX7_define 42 = .ok (.if_icmp .ge 33, 3) := by decide +kernel
theorem dX7_define_45 : decode cX7_define 45 = .ok (.aload_n 0, 1) := by decide +kernel
theorem dX7_define_46 : decode cX7_define 46 = .ok (.dup, 1) := by decide +kernel
theorem dX7_define_47 : decode cX7_define 47 = .ok (.getfield 115, 3) := by decide +kernel
theorem dX7_define_50 : decode cX7_define 50 = .ok (.aload_n 0, 1) := by decide +kernel
theorem dX7_define_51 : decode cX7_define 51 = .ok (.getfield 13, 3) := by decide +kernel
theorem dX7_define_54 : decode cX7_define 54 = .ok (.iload_n 2, 1) := by decide +kernel
theorem dX7_define_55 : decode cX7_define 55 = .ok (.iaload, 1) := by decide +kernel
theorem dX7_define_56 : decode cX7_define 56 = .ok (.iconst 3, 1) := by decide +kernel
theorem dX7_define_57 : decode cX7_define 57 = .ok (.if_icmp .ne 7, 3) := by decide +kernel
theorem dX7_define_60 : decode cX7_define 60 = .ok (.iconst 1, 1) := by decide +kernel
theorem dX7_define_61 : decode cX7_define 61 = .ok (.goto 4, 3) := by decide +kernel
theorem dX7_define_64 : decode cX7_define 64 = .ok (.iconst 0, 1) := by decide +kernel
theorem dX7_define_65 : decode cX7_define 65 = .ok (.iadd, 1) := by decide +kernel
theorem dX7_define_66 : decode cX7_define 66 = .ok (.putfield 115, 3) := by decide +kernel
theorem dX7_define_69 : decode cX7_define 69 = .ok (.iinc 2 1, 3) := by decide +kernel
theorem dX7_define_72 : decode cX7_define 72 = .ok (.goto (-35), 3) := by decide +kernel
theorem dX7_define_75 : decode cX7_define 75 = .ok (.iconst 0, 1) := by decide +kernel
theorem dX7_define_76 : decode cX7_define 76 = .ok (.istore_n 2, 1) := by decide +kernel
theorem dX7_define_77 : decode cX7_define 77 = .ok (.iload_n 2, 1) := by decide +kernel
theorem dX7_define_78 : decode cX7_define 78 = .ok (.iconst 4, 1) := by decide +kernel
theorem dX7_define_79 : decode cX7_define 79 = .ok (.if_icmp .ge 61, 3) := by decide +kernel
theorem dX7_define_82 : decode cX7_define 82 = .ok (.aload_n 0, 1) := by decide +kernel
theorem dX7_define_83 : decode cX7_define 83 = .ok (.getfield 38, 3) := by decide +kernel
theorem dX7_define_86 : decode cX7_define 86 = .ok (.iload_n 2, 1) := by decide +kernel
theorem dX7_define_87 : decode cX7_define 87 = .ok (.aload_n 0, 1) := by decide +kernel
theorem dX7_define_88 : decode cX7_define 88 = .ok (.getfield 32, 3) := by decide +kernel
theorem dX7_define_91 : decode cX7_define 91 = .ok (.iload_n 2, 1) := by decide +kernel
theorem dX7_define_92 : decode cX7_define 92 = .ok (.iaload, 1) := by decide +kernel
theorem dX7_define_93 : decode cX7_define 93 = .ok (.iastore, 1) := by decide +kernel
theorem dX7_define_94 : decode cX7_define 94 = .ok (.iconst 0, 1) := by decide +kernel
theorem dX7_define_95 : decode cX7_define 95 = .ok (.istore_n 3, 1) := by decide +kernel
theorem dX7_define_96 : decode cX7_define 96 = .ok (.iload_n 3, 1) := by decide +kernel
theorem dX7_define_97 : decode cX7_define 97 = .ok (.aload_n 0, 1) := by decide +kernel
theorem dX7_define_98 : decode cX7_define 98 = .ok (.getfield 32, 3) := by decide +kernel
theorem dX7_define_101 : decode cX7_define 101 = .ok (.iload_n 2, 1) := by decide +kernel
theorem dX7_define_102 : decode cX7_define 102 = .ok (.iaload, 1) := by decide +kernel
theorem dX7_define_103 : decode cX7_define 103 = .ok (.if_icmp .ge 31, 3) := by decide +kernel
theorem dX7_define_106 : decode cX7_define 106 = .ok (.aload_n 0, 1) := by decide +kernel
theorem dX7_define_107 : decode cX7_define 107 = .ok (.getfield 35, 3) := by decide +kernel
theorem dX7_define_110 : decode cX7_define 110 = .ok (.bipush 60, 2) := by decide +kernel
theorem dX7_define_112 : decode cX7_define 112 = .ok (.iload_n 2, 1) := by decide +kernel
theorem dX7_define_113 : decode cX7_define 113 = .ok (.imul, 1) := by decide +kernel
theorem dX7_define_114 : decode cX7_define 114 = .ok (.iload_n 3, 1) := by decide +kernel
theorem dX7_define_115 : decode cX7_define 115 = .ok (.iadd, 1) := by decide +kernel
theorem dX7_define_116 : decode cX7_define 116 = .ok (.aload_n 0, 1) := by decide +kernel
theorem dX7_define_117 : decode cX7_define 117 = .ok (.getfield 29, 3) := by decide +kernel
theorem dX7_define_120 : decode cX7_define 120 = .ok (.bipush 60, 2) := by decide +kernel
theorem dX7_define_122 : decode cX7_define 122 = .ok (.iload_n 2, 1) := by decide +kernel
theorem dX7_define_123 : decode cX7_define 123 = .ok (.imul, 1) := by decide +kernel
theorem dX7_define_124 : decode cX7_define 124 = .ok (.iload_n 3, 1) := by decide +kernel
theorem dX7_define_125 : decode cX7_define 125 = .ok (.iadd, 1) := by decide +kernel
theorem dX7_define_126 : decode cX7_define 126 = .ok (.caload, 1) := by decide +kernel
theorem dX7_define_127 : decode cX7_define 127 = .ok (.castore, 1) := by decide +kernel
theorem dX7_define_128 : decode cX7_define 128 = .ok (.iinc 3 1, 3) := by decide +kernel
theorem dX7_define_131 : decode cX7_define 131 = .ok (.goto (-35), 3) := by decide +kernel
theorem dX7_define_134 : decode cX7_define 134 = .ok (.iinc 2 1, 3) := by decide +kernel
theorem dX7_define_137 : decode cX7_define 137 = .ok (.goto (-60), 3) := by decide +kernel
theorem dX7_define_140 : decode cX7_define 140 = .ok (.aload_n 0, 1) := by decide +kernel
theorem dX7_define_141 : decode cX7_define 141 = .ok (.iconst 1, 1) := by decide +kernel
theorem dX7_define_142 : decode cX7_define 142 = .ok (.putfield 118, 3) := by decide +kernel
theorem dX7_define_145 : decode cX7_define 145 = .ok (.aload_n 0, 1) := by decide +kernel
theorem dX7_define_146 : decode cX7_define 146 = .ok (.iconst 0, 1) := by decide +kernel
theorem dX7_define_147 : decode cX7_define 147 = .ok (.putfield 122, 3) := by decide +kernel
theorem dX7_define_150 : decode cX7_define 150 = .ok (.iconst (-1), 1) := by decide +kernel
theorem dX7_define_151 : decode cX7_define 151 = .ok (.ireturn, 1) := by decide +kernel
theorem dX7_isNumber_0 : decode cX7_isNumber 0 = .ok (.iload_n 0, 1) := by decide +kernel
theorem dX7_isNumber_1 : decode cX7_isNumber 1 = .ok (.ifCond .lt 12, 3) := by decide +kernel
theorem dX7_isNumber_4 : decode cX7_isNumber 4 = .ok (.iload_n 0, 1) := by decide +kernel
theorem dX7_isNumber_5 : decode cX7_isNumber 5 = .ok (.iconst 3, 1) := by decide +kernel
theorem dX7_isNumber_6 : decode cX7_isNumber 6 = .ok (.if_icmp .gt 7, 3) := by decide +kernel
theorem dX7_isNumber_9 : decode cX7_isNumber 9 = .ok (.iconst 1, 1) := by decide +kernel
theorem dX7_isNumber_10 : decode cX7_isNumber 10 = .ok (.goto 4, 3) := by decide +kernel
theorem dX7_isNumber_13 : decode cX7_isNumber 13 = .ok (.iconst 0, 1) := by decide +kernel
theorem dX7_isNumber_14 : decode cX7_isNumber 14 = .ok (.ireturn, 1) := by decide +kernel
theorem dX7_messages_0 : decode cX7_messages 0 = .ok (.aload_n 0, 1) := by decide +kernel
theorem dX7_messages_1 : decode cX7_messages 1 = .ok (.getfield 118, 3) := by decide +kernel
theorem dX7_messages_4 : decode cX7_messages 4 = .ok (.ifCond .eq 10, 3) := by decide +kernel
theorem dX7_messages_7 : decode cX7_messages 7 = .ok (.aload_n 0, 1) := by decide +kernel
theorem dX7_messages_8 : decode cX7_messages 8 = .ok (.getfield 115, 3) := by decide +kernel
theorem dX7_messages_11 : decode cX7_messages 11 = .ok (.goto 4, 3) := by decide +kernel
theorem dX7_messages_14 : decode cX7_messages 14 = .ok (.iconst (-1), 1) := by decide +kernel
theorem dX7_messages_15 : decode cX7_messages 15 = .ok (.ireturn, 1) := by decide +kernel
theorem dX7_length_0 : decode cX7_length 0 = .ok (.aload_n 0, 1) := by decide +kernel
theorem dX7_length_1 : decode cX7_length 1 = .ok (.getfield 118, 3) := by decide +kernel
theorem dX7_length_4 : decode cX7_length 4 = .ok (.ifCond .eq 19, 3) := by decide +kernel
theorem dX7_length_7 : decode cX7_length 7 = .ok (.iload_n 1, 1) := by decide +kernel
theorem dX7_length_8 : decode cX7_length 8 = .ok (.invokestatic 125, 3) := by decide +kernel
theorem dX7_length_11 : decode cX7_length 11 = .ok (.ifCond .eq 12, 3) := by decide +kernel
theorem dX7_length_14 : decode cX7_length 14 = .ok (.aload_n 0, 1) := by decide +kernel
theorem dX7_length_15 : decode cX7_length 15 = .ok (.getfield 38, 3) := by decide +kernel
theorem dX7_length_18 : decode cX7_length 18 = .ok (.iload_n 1, 1) := by decide +kernel
theorem dX7_length_19 : decode cX7_length 19 = .ok (.iaload, 1) := by decide +kernel
theorem dX7_length_20 : decode cX7_length 20 = .ok (.goto 4, 3) := by decide +kernel
theorem dX7_length_23 : decode cX7_length 23 = .ok (.iconst (-1), 1) := by decide +kernel
theorem dX7_length_24 : decode cX7_length 24 = .ok (.ireturn, 1) := by decide +kernel
theorem dX7_charAt_0 : decode cX7_charAt 0 = .ok (.aload_n 0, 1) := by decide +kernel
theorem dX7_charAt_1 : decode cX7_charAt 1 = .ok (.getfield 118, 3) := by decide +kernel
theorem dX7_charAt_4 : decode cX7_charAt 4 = .ok (.ifCond .eq 38, 3) := by decide +kernel
theorem dX7_charAt_7 : decode cX7_charAt 7 = .ok (.iload_n 1, 1) := by decide +kernel
theorem dX7_charAt_8 : decode cX7_charAt 8 = .ok (.invokestatic 125, 3) := by decide +kernel
theorem dX7_charAt_11 : decode cX7_charAt 11 = .ok (.ifCond .eq 31, 3) := by decide +kernel
theorem dX7_charAt_14 : decode cX7_charAt 14 = .ok (.iload_n 2, 1) := by decide +kernel
theorem dX7_charAt_15 : decode cX7_charAt 15 = .ok (.ifCond .lt 27, 3) := by decide +kernel
theorem dX7_charAt_18 : decode cX7_charAt 18 = .ok (.iload_n 2, 1) := by decide +kernel
theorem dX7_charAt_19 : decode cX7_charAt 19 = .ok (.aload_n 0, 1) := by decide +kernel
theorem dX7_charAt_20 : decode cX7_charAt 20 = .ok (.getfield 38, 3) := by decide +kernel
theorem dX7_charAt_23 : decode cX7_charAt 23 = .ok (.iload_n 1, 1) := by decide +kernel
theorem dX7_charAt_24 : decode cX7_charAt 24 = .ok (.iaload, 1) := by decide +kernel
theorem dX7_charAt_25 : decode cX7_charAt 25 = .ok (.if_icmp .ge 17, 3) := by decide +kernel
theorem dX7_charAt_28 : decode cX7_charAt 28 = .ok (.aload_n 0, 1) := by decide +kernel
theorem dX7_charAt_29 : decode cX7_charAt 29 = .ok (.getfield 35, 3) := by decide +kernel
theorem dX7_charAt_32 : decode cX7_charAt 32 = .ok (.bipush 60, 2) := by decide +kernel
theorem dX7_charAt_34 : decode cX7_charAt 34 = .ok (.iload_n 1, 1) := by decide +kernel
theorem dX7_charAt_35 : decode cX7_charAt 35 = .ok (.imul, 1) := by decide +kernel
theorem dX7_charAt_36 : decode cX7_charAt 36 = .ok (.iload_n 2, 1) := by decide +kernel
theorem dX7_charAt_37 : decode cX7_charAt 37 = .ok (.iadd, 1) := by decide +kernel
theorem dX7_charAt_38 : decode cX7_charAt 38 = .ok (.caload, 1) := by decide +kernel
theorem dX7_charAt_39 : decode cX7_charAt 39 = .ok (.goto 4, 3) := by decide +kernel
theorem dX7_charAt_42 : decode cX7_charAt 42 = .ok (.iconst (-1), 1) := by decide +kernel
theorem dX7_charAt_43 : decode cX7_charAt 43 = .ok (.ireturn, 1) := by decide +kernel
theorem dX7_sign_0 : decode cX7_sign 0 = .ok (.iload_n 2, 1) := by decide +kernel
theorem dX7_sign_1 : decode cX7_sign 1 = .ok (.aload_n 0, 1) := by decide +kernel
theorem dX7_sign_2 : decode cX7_sign 2 = .ok (.getfield 38, 3) := by decide +kernel
theorem dX7_sign_5 : decode cX7_sign 5 = .ok (.iload_n 1, 1) := by decide +kernel
theorem dX7_sign_6 : decode cX7_sign 6 = .ok (.iaload, 1) := by decide +kernel
theorem dX7_sign_7 : decode cX7_sign 7 = .ok (.if_icmp .ge 17, 3) := by decide +kernel
theorem dX7_sign_10 : decode cX7_sign 10 = .ok (.aload_n 0, 1) := by decide +kernel
theorem dX7_sign_11 : decode cX7_sign 11 = .ok (.getfield 35, 3) := by decide +kernel
theorem dX7_sign_14 : decode cX7_sign 14 = .ok (.bipush 60, 2) := by decide +kernel
theorem dX7_sign_16 : decode cX7_sign 16 = .ok (.iload_n 1, 1) := by decide +kernel
theorem dX7_sign_17 : decode cX7_sign 17 = .ok (.imul, 1) := by decide +kernel
theorem dX7_sign_18 : decode cX7_sign 18 = .ok (.iload_n 2, 1) := by decide +kernel
theorem dX7_sign_19 : decode cX7_sign 19 = .ok (.iadd, 1) := by decide +kernel
theorem dX7_sign_20 : decode cX7_sign 20 = .ok (.caload, 1) := by decide +kernel
theorem dX7_sign_21 : decode cX7_sign 21 = .ok (.goto 4, 3) := by decide +kernel
theorem dX7_sign_24 : decode cX7_sign 24 = .ok (.iconst 0, 1) := by decide +kernel
theorem dX7_sign_25 : decode cX7_sign 25 = .ok (.ireturn, 1) := by decide +kernel
theorem dX7_loopOf_0 : decode cX7_loopOf 0 = .ok (.iconst 0, 1) := by decide +kernel
theorem dX7_loopOf_1 : decode cX7_loopOf 1 = .ok (.istore 4, 2) := by decide +kernel
theorem dX7_loopOf_3 : decode cX7_loopOf 3 = .ok (.iconst 0, 1) := by decide +kernel
theorem dX7_loopOf_4 : decode cX7_loopOf 4 = .ok (.istore 5, 2) := by decide +kernel
theorem dX7_loopOf_6 : decode cX7_loopOf 6 = .ok (.iload_n 2, 1) := by decide +kernel
theorem dX7_loopOf_7 : decode cX7_loopOf 7 = .ok (.iconst 1, 1) := by decide +kernel
theorem dX7_loopOf_8 : decode cX7_loopOf 8 = .ok (.isub, 1) := by decide +kernel
theorem dX7_loopOf_9 : decode cX7_loopOf 9 = .ok (.istore 6, 2) := by decide +kernel
theorem dX7_loopOf_11 : decode cX7_loopOf 11 = .ok (.iload 6, 2) := by decide +kernel
theorem dX7_loopOf_13 : decode cX7_loopOf 13 = .ok (.ifCond .lt 113, 3) := by decide +kernel
theorem dX7_loopOf_16 : decode cX7_loopOf 16 = .ok (.aload_n 0, 1) := by decide +kernel
theorem dX7_loopOf_17 : decode cX7_loopOf 17 = .ok (.iload_n 1, 1) := by decide +kernel
theorem dX7_loopOf_18 : decode cX7_loopOf 18 = .ok (.iload 6, 2) := by decide +kernel
theorem dX7_loopOf_20 : decode cX7_loopOf 20 = .ok (.invokevirtual 128, 3) := by decide +kernel
theorem dX7_loopOf_23 : decode cX7_loopOf 23 = .ok (.istore 7, 2) := by decide +kernel
theorem dX7_loopOf_25 : decode cX7_loopOf 25 = .ok (.iload 7, 2) := by decide +kernel
theorem dX7_loopOf_27 : decode cX7_loopOf 27 = .ok (.bipush 125, 2) := by decide +kernel
theorem dX7_loopOf_29 : decode cX7_loopOf 29 = .ok (.if_icmp .ne 9, 3) := by decide +kernel
theorem dX7_loopOf_32 : decode cX7_loopOf 32 = .ok (.iinc 4 1, 3) := by decide +kernel
theorem dX7_loopOf_35 : decode cX7_loopOf 35 = .ok (.goto 85, 3) := by decide +kernel
theorem dX7_loopOf_38 : decode cX7_loopOf 38 = .ok (.iload 7, 2) := by decide +kernel
theorem dX7_loopOf_40 : decode cX7_loopOf 40 = .ok (.bipush 123, 2) := by decide +kernel
theorem dX7_loopOf_42 : decode cX7_loopOf 42 = .ok (.if_icmp .ne 14, 3) := by decide +kernel
theorem dX7_loopOf_45 : decode cX7_loopOf 45 = .ok (.iload 4, 2) := by decide +kernel
theorem dX7_loopOf_47 : decode cX7_loopOf 47 = .ok (.ifCond .le 9, 3) := by decide +kernel
theorem dX7_loopOf_50 : decode cX7_loopOf 50 = .ok (.iinc 4 (-1), 3) := by decide +kernel
theorem dX7_loopOf_53 : decode cX7_loopOf 53 = .ok (.goto 67, 3) := by decide +kernel
theorem dX7_loopOf_56 : decode cX7_loopOf 56 = .ok (.iload 7, 2) := by decide +kernel
theorem dX7_loopOf_58 : decode cX7_loopOf 58 = .ok (.bipush 123, 2) := by decide +kernel
theorem dX7_loopOf_60 : decode cX7_loopOf 60 = .ok (.if_icmp .ne 9, 3) := by decide +kernel
theorem dX7_loopOf_63 : decode cX7_loopOf 63 = .ok (.iconst 0, 1) := by decide +kernel
theorem dX7_loopOf_64 : decode cX7_loopOf 64 = .ok (.istore 5, 2) := by decide +kernel
theorem dX7_loopOf_66 : decode cX7_loopOf 66 = .ok (.goto 54, 3) := by decide +kernel
theorem dX7_loopOf_69 : decode cX7_loopOf 69 = .ok (.iload 7, 2) := by decide +kernel
theorem dX7_loopOf_71 : decode cX7_loopOf 71 = .ok (.bipush 44, 2) := by decide +kernel
theorem dX7_loopOf_73 : decode cX7_loopOf 73 = .ok (.if_icmp .ne 14, 3) := by decide +kernel
theorem dX7_loopOf_76 : decode cX7_loopOf 76 = .ok (.iload 4, 2) := by decide +kernel
theorem dX7_loopOf_78 : decode cX7_loopOf 78 = .ok (.ifCond .ne 9, 3) := by decide +kernel
theorem dX7_loopOf_81 : decode cX7_loopOf 81 = .ok (.iconst 1, 1) := by decide +kernel
theorem dX7_loopOf_82 : decode cX7_loopOf 82 = .ok (.istore 5, 2) := by decide +kernel
theorem dX7_loopOf_84 : decode cX7_loopOf 84 = .ok (.goto 36, 3) := by decide +kernel
theorem dX7_loopOf_87 : decode cX7_loopOf 87 = .ok (.iload 7, 2) := by decide +kernel
theorem dX7_loopOf_89 : decode cX7_loopOf 89 = .ok (.bipush 109, 2) := by decide +kernel
theorem dX7_loopOf_91 : decode cX7_loopOf 91 = .ok (.if_icmp .ne 29, 3) := by decide +kernel
theorem dX7_loopOf_94 : decode cX7_loopOf 94 = .ok (.iload 4, 2) := by decide +kernel
theorem dX7_loopOf_96 : decode cX7_loopOf 96 = .ok (.ifCond .ne 24, 3) := by decide +kernel
theorem dX7_loopOf_99 : decode cX7_loopOf 99 = .ok (.iload 5, 2) := by decide +kernel
theorem dX7_loopOf_101 : decode cX7_loopOf 101 = .ok (.ifCond .ne 19, 3) := by decide +kernel
theorem dX7_loopOf_104 : decode cX7_loopOf 104 = .ok (.aload_n 0, 1) := by decide +kernel
theorem dX7_loopOf_105 : decode cX7_loopOf 105 = .ok (.iload_n 1, 1) := by decide +kernel
theorem dX7_loopOf_106 : decode cX7_loopOf 106 = .ok (.iload 6, 2) := by decide +kernel
theorem dX7_loopOf_108 : decode cX7_loopOf 108 = .ok (.iconst 1, 1) := by decide +kernel
theorem dX7_loopOf_109 : decode cX7_loopOf 109 = .ok (.iadd, 1) := by decide +kernel
theorem dX7_loopOf_110 : decode cX7_loopOf 110 = .ok (.invokevirtual 128, 3) := by decide +kernel
theorem dX7_loopOf_113 : decode cX7_loopOf 113 = .ok (.iload_n 3, 1) := by decide +kernel
theorem dX7_loopOf_114 : decode cX7_loopOf 114 = .ok (.if_icmp .ne 6, 3) := by decide +kernel
theorem dX7_loopOf_117 : decode cX7_loopOf 117 = .ok (.iload 6, 2) := by decide +kernel
theorem dX7_loopOf_119 : decode cX7_loopOf 119 = .ok (.ireturn, 1) := by decide +kernel
theorem dX7_loopOf_120 : decode cX7_loopOf 120 = .ok (.iinc 6 (-1), 3) := by decide +kernel
theorem dX7_loopOf_123 : decode cX7_loopOf 123 = .ok (.goto (-112), 3) := by decide +kernel
theorem dX7_loopOf_126 : decode cX7_loopOf 126 = .ok (.iconst 0, 1) := by decide +kernel
theorem dX7_loopOf_127 : decode cX7_loopOf 127 = .ok (.ireturn, 1) := by decide +kernel
theorem dX7_settle_0 : decode cX7_settle 0 = .ok (.iload_n 2, 1) := by decide +kernel
theorem dX7_settle_1 : decode cX7_settle 1 = .ok (.istore_n 3, 1) := by decide +kernel
theorem dX7_settle_2 : decode cX7_settle 2 = .ok (.iconst 0, 1) := by decide +kernel
theorem dX7_settle_3 : decode cX7_settle 3 = .ok (.istore 4, 2) := by decide +kernel
theorem dX7_settle_5 : decode cX7_settle 5 = .ok (.iload 4, 2) := by decide +kernel
theorem dX7_settle_7 : decode cX7_settle 7 = .ok (.bipush 100, 2) := by decide +kernel
theorem dX7_settle_9 : decode cX7_settle 9 = .ok (.if_icmp .ge 47, 3) := by decide +kernel
theorem dX7_settle_12 : decode cX7_settle 12 = .ok (.aload_n 0, 1) := by decide +kernel
theorem dX7_settle_13 : decode cX7_settle 13 = .ok (.iload_n 1, 1) := by decide +kernel
theorem dX7_settle_14 : decode cX7_settle 14 = .ok (.iload_n 3, 1) := by decide +kernel
theorem dX7_settle_15 : decode cX7_settle 15 = .ok (.invokevirtual 128, 3) := by decide +kernel
theorem dX7_settle_18 : decode cX7_settle 18 = .ok (.istore 5, 2) := by decide +kernel
theorem dX7_settle_20 : decode cX7_settle 20 = .ok (.iload 5, 2) := by decide +kernel
theorem dX7_settle_22 : decode cX7_settle 22 = .ok (.bipush 109, 2) := by decide +kernel
theorem dX7_settle_24 : decode cX7_settle 24 = .ok (.if_icmp .ne 9, 3) := by decide +kernel
theorem dX7_settle_27 : decode cX7_settle 27 = .ok (.iinc 3 3, 3) := by decide +kernel
theorem dX7_settle_30 : decode cX7_settle 30 = .ok (.goto 20, 3) := by decide +kernel
theorem dX7_settle_33 : decode cX7_settle 33 = .ok (.iload 5, 2) := by decide +kernel
theorem dX7_settle_35 : decode cX7_settle 35 = .ok (.invokestatic 57, 3) := by decide +kernel
theorem dX7_settle_38 : decode cX7_settle 38 = .ok (.ifCond .eq 12, 3) := by decide +kernel
theorem dX7_settle_41 : decode cX7_settle 41 = .ok (.aload_n 0, 1) := by decide +kernel
theorem dX7_settle_42 : decode cX7_settle 42 = .ok (.iload_n 1, 1) := by decide +kernel
theorem dX7_settle_43 : decode cX7_settle 43 = .ok (.iload_n 3, 1) := by decide +kernel
theorem dX7_settle_44 : decode cX7_settle 44 = .ok (.iload 5, 2) := by decide +kernel
theorem dX7_settle_46 : decode cX7_settle 46 = .ok (.invokevirtual 132, 3) := by decide +kernel
theorem dX7_settle_49 : decode cX7_settle 49 = .ok (.istore_n 3, 1) := by decide +kernel
theorem dX7_settle_50 : decode cX7_settle 50 = .ok (.iinc 4 1, 3) := by decide +kernel
theorem dX7_settle_53 : decode cX7_settle 53 = .ok (.goto (-48), 3) := by decide +kernel
theorem dX7_settle_56 : decode cX7_settle 56 = .ok (.aload_n 0, 1) := by decide +kernel
theorem dX7_settle_57 : decode cX7_settle 57 = .ok (.getfield 41, 3) := by decide +kernel
theorem dX7_settle_60 : decode cX7_settle 60 = .ok (.iload_n 1, 1) := by decide +kernel
theorem dX7_settle_61 : decode cX7_settle 61 = .ok (.iload_n 3, 1) := by decide +kernel
theorem dX7_settle_62 : decode cX7_settle 62 = .ok (.iastore, 1) := by decide +kernel
theorem dX7_settle_63 : decode cX7_settle 63 = .ok (.return_, 1) := by decide +kernel
theorem dX7_begin_0 : decode cX7_begin 0 = .ok (.aload_n 0, 1) := by decide +kernel
theorem dX7_begin_1 : decode cX7_begin 1 = .ok (.getfield 118, 3) := by decide +kernel
theorem dX7_begin_4 : decode cX7_begin 4 = .ok (.istore_n 1, 1) := by decide +kernel
theorem dX7_begin_5 : decode cX7_begin 5 = .ok (.iconst 0, 1) := by decide +kernel
theorem dX7_begin_6 : decode cX7_begin 6 = .ok (.istore_n 2, 1) := by decide +kernel
theorem dX7_begin_7 : decode cX7_begin 7 = .ok (.iload_n 2, 1) := by decide +kernel
theorem dX7_begin_8 : decode cX7_begin 8 = .ok (.iconst 4, 1) := by decide +kernel
theorem dX7_begin_9 : decode cX7_begin 9 = .ok (.if_icmp .ge 28, 3) := by decide +kernel
theorem dX7_begin_12 : decode cX7_begin 12 = .ok (.iload_n 1, 1) := by decide +kernel
theorem dX7_begin_13 : decode cX7_begin 13 = .ok (.ifCond .eq 16, 3) := by decide +kernel
theorem dX7_begin_16 : decode cX7_begin 16 = .ok (.aload_n 0, 1) := by decide +kernel
theorem dX7_begin_17 : decode cX7_begin 17 = .ok (.getfield 38, 3) := by decide +kernel
theorem dX7_begin_20 : decode cX7_begin 20 = .ok (.iload_n 2, 1) := by decide +kernel
theorem dX7_begin_21 : decode cX7_begin 21 = .ok (.iaload, 1) := by decide +kernel
theorem dX7_begin_22 : decode cX7_begin 22 = .ok (.ifCond .lt 7, 3) := by decide +kernel
theorem dX7_begin_25 : decode cX7_begin 25 = .ok (.iconst 1, 1) := by decide +kernel
theorem dX7_begin_26 : decode cX7_begin 26 = .ok (.goto 4, 3) := by decide +kernel
theorem dX7_begin_29 : decode cX7_begin 29 = .ok (.iconst 0, 1) := by decide +kernel
theorem dX7_begin_30 : decode cX7_begin 30 = .ok (.istore_n 1, 1) := by decide +kernel
theorem dX7_begin_31 : decode cX7_begin 31 = .ok (.iinc 2 1, 3) := by decide +kernel
theorem dX7_begin_34 : decode cX7_begin 34 = .ok (.goto (-27), 3) := by decide +kernel
theorem dX7_begin_37 : decode cX7_begin 37 = .ok (.iload_n 1, 1) := by decide +kernel
theorem dX7_begin_38 : decode cX7_begin 38 = .ok (.ifCond .ne 5, 3) := by decide +kernel
theorem dX7_begin_41 : decode cX7_begin 41 = .ok (.iconst 0, 1) := by decide +kernel
theorem dX7_begin_42 : decode cX7_begin 42 = .ok (.ireturn, 1) := by decide +kernel
theorem dX7_begin_43 : decode cX7_begin 43 = .ok (.aload_n 0, 1) := by decide +kernel
theorem dX7_begin_44 : decode cX7_begin 44 = .ok (.iconst 1, 1) := by decide +kernel
theorem dX7_begin_45 : decode cX7_begin 45 = .ok (.putfield 122, 3) := by decide +kernel
theorem dX7_begin_48 : decode cX7_begin 48 = .ok (.aload_n 0, 1) := by decide +kernel
theorem dX7_begin_49 : decode cX7_begin 49 = .ok (.iconst 0, 1) := by decide +kernel
theorem dX7_begin_50 : decode cX7_begin 50 = .ok (.putfield 136, 3) := by decide +kernel
theorem dX7_begin_53 : decode cX7_begin 53 = .ok (.iconst 0, 1) := by decide +kernel
theorem dX7_begin_54 : decode cX7_begin 54 = .ok (.istore_n 2, 1) := by decide +kernel
theorem dX7_begin_55 : decode cX7_begin 55 = .ok (.iload_n 2, 1) := by decide +kernel
theorem dX7_begin_56 : decode cX7_begin 56 = .ok (.iconst 4, 1) := by decide +kernel
theorem dX7_begin_57 : decode cX7_begin 57 = .ok (.if_icmp .ge 15, 3) := by decide +kernel
theorem dX7_begin_60 : decode cX7_begin 60 = .ok (.aload_n 0, 1) := by decide +kernel
theorem dX7_begin_61 : decode cX7_begin 61 = .ok (.iload_n 2, 1) := by decide +kernel
theorem dX7_begin_62 : decode cX7_begin 62 = .ok (.iconst 0, 1) := by decide +kernel
theorem dX7_begin_63 : decode cX7_begin 63 = .ok (.invokevirtual 139, 3) := by decide +kernel
theorem dX7_begin_66 : decode cX7_begin 66 = .ok (.iinc 2 1, 3) := by decide +kernel
theorem dX7_begin_69 : decode cX7_begin 69 = .ok (.goto (-14), 3) := by decide +kernel
theorem dX7_begin_72 : decode cX7_begin 72 = .ok (.iconst 0, 1) := by decide +kernel
theorem dX7_begin_73 : decode cX7_begin 73 = .ok (.istore_n 2, 1) := by decide +kernel
theorem dX7_begin_74 : decode cX7_begin 74 = .ok (.iload_n 2, 1) := by decide +kernel
theorem dX7_begin_75 : decode cX7_begin 75 = .ok (.bipush 16, 2) := by decide +kernel
theorem dX7_begin_77 : decode cX7_begin 77 = .ok (.if_icmp .ge 16, 3) := by decide +kernel
theorem dX7_begin_80 : decode cX7_begin 80 = .ok (.aload_n 0, 1) := by decide +kernel
theorem dX7_begin_81 : decode cX7_begin 81 = .ok (.getfield 47, 3) := by decide +kernel
theorem dX7_begin_84 : decode cX7_begin 84 = .ok (.iload_n 2, 1) := by decide +kernel
theorem dX7_begin_85 : decode cX7_begin 85 = .ok (.iconst 0, 1) := by decide +kernel
theorem dX7_begin_86 : decode cX7_begin 86 = .ok (.iastore, 1) := by decide +kernel
theorem dX7_begin_87 : decode cX7_begin 87 = .ok (.iinc 2 1, 3) := by decide +kernel
theorem dX7_begin_90 : decode cX7_begin 90 = .ok (.goto (-16), 3) := by decide +kernel
theorem dX7_begin_93 : decode cX7_begin 93 = .ok (.iconst 1, 1) := by decide +kernel
theorem dX7_begin_94 : decode cX7_begin 94 = .ok (.ireturn, 1) := by decide +kernel
theorem dX7_act_0 : decode cX7_act 0 = .ok (.aload_n 0, 1) := by decide +kernel
theorem dX7_act_1 : decode cX7_act 1 = .ok (.getfield 122, 3) := by decide +kernel
theorem dX7_act_4 : decode cX7_act 4 = .ok (.ifCond .eq 10, 3) := by decide +kernel
theorem dX7_act_7 : decode cX7_act 7 = .ok (.iload_n 1, 1) := by decide +kernel
theorem dX7_act_8 : decode cX7_act 8 = .ok (.invokestatic 125, 3) := by decide +kernel
theorem dX7_act_11 : decode cX7_act 11 = .ok (.ifCond .ne 5, 3) := by decide +kernel
theorem dX7_act_14 : decode cX7_act 14 = .ok (.iconst (-1), 1) := by decide +kernel
theorem dX7_act_15 : decode cX7_act 15 = .ok (.ireturn, 1) := by decide +kernel
theorem dX7_act_16 : decode cX7_act 16 = .ok (.aload_n 0, 1) := by decide +kernel
theorem dX7_act_17 : decode cX7_act 17 = .ok (.iload_n 1, 1) := by decide +kernel
theorem dX7_act_18 : decode cX7_act 18 = .ok (.aload_n 0, 1) := by decide +kernel
theorem dX7_act_19 : decode cX7_act 19 = .ok (.getfield 41, 3) := by decide +kernel
theorem dX7_act_22 : decode cX7_act 22 = .ok (.iload_n 1, 1) := by decide +kernel
theorem dX7_act_23 : decode cX7_act 23 = .ok (.iaload, 1) := by decide +kernel
theorem dX7_act_24 : decode cX7_act 24 = .ok (.iconst 1, 1) := by decide +kernel
theorem dX7_act_25 : decode cX7_act 25 = .ok (.iadd, 1) := by decide +kernel
theorem dX7_act_26 : decode cX7_act 26 = .ok (.invokevirtual 128, 3) := by decide +kernel
theorem dX7_act_29 : decode cX7_act 29 = .ok (.istore_n 2, 1) := by decide +kernel
theorem dX7_act_30 : decode cX7_act 30 = .ok (.aload_n 0, 1) := by decide +kernel
theorem dX7_act_31 : decode cX7_act 31 = .ok (.iload_n 1, 1) := by decide +kernel
theorem dX7_act_32 : decode cX7_act 32 = .ok (.aload_n 0, 1) := by decide +kernel
theorem dX7_act_33 : decode cX7_act 33 = .ok (.getfield 41, 3) := by decide +kernel
theorem dX7_act_36 : decode cX7_act 36 = .ok (.iload_n 1, 1) := by decide +kernel
theorem dX7_act_37 : decode cX7_act 37 = .ok (.iaload, 1) := by decide +kernel
theorem dX7_act_38 : decode cX7_act 38 = .ok (.invokevirtual 128, 3) := by decide +kernel
theorem dX7_act_41 : decode cX7_act 41 = .ok (.bipush 101, 2) := by decide +kernel
theorem dX7_act_43 : decode cX7_act 43 = .ok (.if_icmp .ne 7, 3) := by decide +kernel
theorem dX7_act_46 : decode cX7_act 46 = .ok (.iconst 0, 1) := by decide +kernel
theorem dX7_act_47 : decode cX7_act 47 = .ok (.goto 14, 3) := by decide +kernel
theorem dX7_act_50 : decode cX7_act 50 = .ok (.iload_n 2, 1) := by decide +kernel
theorem dX7_act_51 : decode cX7_act 51 = .ok (.bipush 33, 2) := by decide +kernel
theorem dX7_act_53 : decode cX7_act 53 = .ok (.if_icmp .ne 7, 3) := by decide +kernel
theorem dX7_act_56 : decode cX7_act 56 = .ok (.iconst 1, 1) := by decide +kernel
theorem dX7_act_57 : decode cX7_act 57 = .ok (.goto 4, 3) := by decide +kernel
theorem dX7_act_60 : decode cX7_act 60 = .ok (.iconst 2, 1) := by decide +kernel
theorem dX7_act_61 : decode cX7_act 61 = .ok (.ireturn, 1) := by decide +kernel
theorem dX7_partner_0 : decode cX7_partner 0 = .ok (.aload_n 0, 1) := by decide +kernel
theorem dX7_partner_1 : decode cX7_partner 1 = .ok (.iload_n 1, 1) := by decide +kernel
theorem dX7_partner_2 : decode cX7_partner 2 = .ok (.invokevirtual 142, 3) := by decide +kernel
theorem dX7_partner_5 : decode cX7_partner 5 = .ok (.iconst 1, 1) := by decide +kernel
theorem dX7_partner_6 : decode cX7_partner 6 = .ok (.if_icmp .ge 7, 3) := by decide +kernel
theorem dX7_partner_9 : decode cX7_partner 9 = .ok (.iconst (-1), 1) := by decide +kernel
theorem dX7_partner_10 : decode cX7_partner 10 = .ok (.goto 17, 3) := by decide +kernel
theorem dX7_partner_13 : decode cX7_partner 13 = .ok (.aload_n 0, 1) := by decide +kernel
theorem dX7_partner_14 : decode cX7_partner 14 = .ok (.iload_n 1, 1) := by decide +kernel
theorem dX7_partner_15 : decode cX7_partner 15 = .ok (.aload_n 0, 1) := by decide +kernel
theorem dX7_partner_16 : decode cX7_partner 16 = .ok (.getfield 41, 3) := by decide +kernel
theorem dX7_partner_19 : decode cX7_partner 19 = .ok (.iload_n 1, 1) := by decide +kernel
theorem dX7_partner_20 : decode cX7_partner 20 = .ok (.iaload, 1) := by decide +kernel
theorem dX7_partner_21 : decode cX7_partner 21 = .ok (.invokevirtual 128, 3) := by decide +kernel
theorem dX7_partner_24 : decode cX7_partner 24 = .ok (.bipush 65, 2) := by decide +kernel
theorem dX7_partner_26 : decode cX7_partner 26 = .ok (.isub, 1) := by decide +kernel
theorem dX7_partner_27 : decode cX7_partner 27 = .ok (.ireturn, 1) := by decide +kernel
theorem dX7_branchOf_0 : decode cX7_branchOf 0 = .ok (.aload_n 0, 1) := by decide +kernel
theorem dX7_branchOf_1 : decode cX7_branchOf 1 = .ok (.iload_n 1, 1) := by decide +kernel
theorem dX7_branchOf_2 : decode cX7_branchOf 2 = .ok (.invokevirtual 142, 3) := by decide +kernel
theorem dX7_branchOf_5 : decode cX7_branchOf 5 = .ok (.iconst 1, 1) := by decide +kernel
theorem dX7_branchOf_6 : decode cX7_branchOf 6 = .ok (.if_icmp .ge 5, 3) := by decide +kernel
theorem dX7_branchOf_9 : decode cX7_branchOf 9 = .ok (.iconst (-1), 1) := by decide +kernel
theorem dX7_branchOf_10 : decode cX7_branchOf 10 = .ok (.ireturn, 1) := by decide +kernel
theorem dX7_branchOf_11 : decode cX7_branchOf 11 = .ok (.iconst 0, 1) := by decide +kernel
theorem dX7_branchOf_12 : decode cX7_branchOf 12 = .ok (.istore_n 3, 1) := by decide +kernel
theorem dX7_branchOf_13 : decode cX7_branchOf 13 = .ok (.aload_n 0, 1) := by decide +kernel
theorem dX7_branchOf_14 : decode cX7_branchOf 14 = .ok (.getfield 41, 3) := by decide +kernel
theorem dX7_branchOf_17 : decode cX7_branchOf 17 = .ok (.iload_n 1, 1) := by decide +kernel
theorem dX7_branchOf_18 : decode cX7_branchOf 18 = .ok (.iaload, 1) := by decide +kernel
theorem dX7_branchOf_19 : decode cX7_branchOf 19 = .ok (.iconst 2, 1) := by decide +kernel
theorem dX7_branchOf_20 : decode cX7_branchOf 20 = .ok (.iadd, 1) := by decide +kernel
theorem dX7_branchOf_21 : decode cX7_branchOf 21 = .ok (.istore 4, 2) := by decide +kernel
theorem dX7_branchOf_23 : decode cX7_branchOf 23 = .ok (.iload 4, 2) := by decide +kernel
theorem dX7_branchOf_25 : decode cX7_branchOf 25 = .ok (.aload_n 0, 1) := by decide +kernel
theorem dX7_branchOf_26 : decode cX7_branchOf 26 = .ok (.getfield 38, 3) := by decide +kernel
theorem dX7_branchOf_29 : decode cX7_branchOf 29 = .ok (.iload_n 1, 1) := by decide +kernel
theorem dX7_branchOf_30 : decode cX7_branchOf 30 = .ok (.iaload, 1) := by decide +kernel
theorem dX7_branchOf_31 : decode cX7_branchOf 31 = .ok (.if_icmp .ge 92, 3) := by decide +kernel
theorem dX7_branchOf_34 : decode cX7_branchOf 34 = .ok (.aload_n 0, 1) := by decide +kernel
theorem dX7_branchOf_35 : decode cX7_branchOf 35 = .ok (.iload_n 1, 1) := by decide +kernel
theorem dX7_branchOf_36 : decode cX7_branchOf 36 = .ok (.iload 4, 2) := by decide +kernel
theorem dX7_branchOf_38 : decode cX7_branchOf 38 = .ok (.invokevirtual 128, 3) := by decide +kernel
theorem dX7_branchOf_41 : decode cX7_branchOf 41 = .ok (.istore 5, 2) := by decide +kernel
theorem dX7_branchOf_43 : decode cX7_branchOf 43 = .ok (.iload 5, 2) := by decide +kernel
theorem dX7_branchOf_45 : decode cX7_branchOf 45 = .ok (.bipush 123, 2) := by decide +kernel
theorem dX7_branchOf_47 : decode cX7_branchOf 47 = .ok (.if_icmp .ne 9, 3) := by decide +kernel
theorem dX7_branchOf_50 : decode cX7_branchOf 50 = .ok (.iload_n 3, 1) := by decide +kernel
theorem dX7_branchOf_51 : decode cX7_branchOf 51 = .ok (.iconst 1, 1) := by decide +kernel
theorem dX7_branchOf_52 : decode cX7_branchOf 52 = .ok (.iadd, 1) := by decide +kernel
theorem dX7_branchOf_53 : decode cX7_branchOf 53 = .ok (.goto 17, 3) := by decide +kernel
theorem dX7_branchOf_56 : decode cX7_branchOf 56 = .ok (.iload 5, 2) := by decide +kernel
theorem dX7_branchOf_58 : decode cX7_branchOf 58 = .ok (.bipush 125, 2) := by decide +kernel
theorem dX7_branchOf_60 : decode cX7_branchOf 60 = .ok (.if_icmp .ne 9, 3) := by decide +kernel
theorem dX7_branchOf_63 : decode cX7_branchOf 63 = .ok (.iload_n 3, 1) := by decide +kernel
theorem dX7_branchOf_64 : decode cX7_branchOf 64 = .ok (.iconst 1, 1) := by decide +kernel
theorem dX7_branchOf_65 : decode cX7_branchOf 65 = .ok (.isub, 1) := by decide +kernel
theorem dX7_branchOf_66 : decode cX7_branchOf 66 = .ok (.goto 4, 3) := by decide +kernel
theorem dX7_branchOf_69 : decode cX7_branchOf 69 = .ok (.iload_n 3, 1) := by decide +kernel
theorem dX7_branchOf_70 : decode cX7_branchOf 70 = .ok (.istore_n 3, 1) := by decide +kernel
theorem dX7_branchOf_71 : decode cX7_branchOf 71 = .ok (.iload_n 3, 1) := by decide +kernel
theorem dX7_branchOf_72 : decode cX7_branchOf 72 = .ok (.ifCond .ne 5, 3) := by decide +kernel
theorem dX7_branchOf_75 : decode cX7_branchOf 75 = .ok (.iconst (-1), 1) := by decide +kernel
theorem dX7_branchOf_76 : decode cX7_branchOf 76 = .ok (.ireturn, 1) := by decide +kernel
theorem dX7_branchOf_77 : decode cX7_branchOf 77 = .ok (.iload_n 3, 1) := by decide +kernel
theorem dX7_branchOf_78 : decode cX7_branchOf 78 = .ok (.iconst 1, 1) := by decide +kernel
theorem dX7_branchOf_79 : decode cX7_branchOf 79 = .ok (.if_icmp .ne 38, 3) := by decide +kernel
theorem dX7_branchOf_82 : decode cX7_branchOf 82 = .ok (.iload 5, 2) := by decide +kernel
theorem dX7_branchOf_84 : decode cX7_branchOf 84 = .ok (.bipush 123, 2) := by decide +kernel
theorem dX7_branchOf_86 : decode cX7_branchOf 86 = .ok (.if_icmp .eq 10, 3) := by decide +kernel
theorem dX7_branchOf_89 : decode cX7_branchOf 89 = .ok (.iload 5, 2) := by decide +kernel
theorem dX7_branchOf_91 : decode cX7_branchOf 91 = .ok (.bipush 44, 2) := by decide +kernel
theorem dX7_branchOf_93 : decode cX7_branchOf 93 = .ok (.if_icmp .ne 24, 3) := by decide +kernel
theorem dX7_branchOf_96 : decode cX7_branchOf 96 = .ok (.aload_n 0, 1) := by decide +kernel
theorem dX7_branchOf_97 : decode cX7_branchOf 97 = .ok (.iload_n 1, 1) := by decide +kernel
theorem dX7_branchOf_98 : decode cX7_branchOf 98 = .ok (.iload 4, 2) := by decide +kernel
theorem dX7_branchOf_100 : decode cX7_branchOf 100 = .ok (.iconst 1, 1) := by decide +kernel
theorem dX7_branchOf_101 : decode cX7_branchOf 101 = .ok (.iadd, 1) := by decide +kernel
theorem dX7_branchOf_102 : decode cX7_branchOf 102 = .ok (.invokevirtual 128, 3) := by decide +kernel
theorem dX7_branchOf_105 : decode cX7_branchOf 105 = .ok (.bipush 112, 2) := by decide +kernel
theorem dX7_branchOf_107 : decode cX7_branchOf 107 = .ok (.iload_n 2, 1) := by decide +kernel
theorem dX7_branchOf_108 : decode cX7_branchOf 108 = .ok (.iadd, 1) := by decide +kernel
theorem dX7_branchOf_109 : decode cX7_branchOf 109 = .ok (.if_icmp .ne 8, 3) := by decide +kernel
theorem dX7_branchOf_112 : decode cX7_branchOf 112 = .ok (.iload 4, 2) := by decide +kernel
theorem dX7_branchOf_114 : decode cX7_branchOf 114 = .ok (.iconst 3, 1) := by decide +kernel
theorem dX7_branchOf_115 : decode cX7_branchOf 115 = .ok (.iadd, 1) := by decide +kernel
theorem dX7_branchOf_116 : decode cX7_branchOf 116 = .ok (.ireturn, 1) := by decide +kernel
theorem dX7_branchOf_117 : decode cX7_branchOf 117 = .ok (.iinc 4 1, 3) := by decide +kernel
theorem dX7_branchOf_120 : decode cX7_branchOf 120 = .ok (.goto (-97), 3) := by decide +kernel
theorem dX7_branchOf_123 : decode cX7_branchOf 123 = .ok (.iconst (-1), 1) := by decide +kernel
theorem dX7_branchOf_124 : decode cX7_branchOf 124 = .ok (.ireturn, 1) := by decide +kernel
theorem dX7_offers_0 : decode cX7_offers 0 = .ok (.iload_n 2, 1) := by decide +kernel
theorem dX7_offers_1 : decode cX7_offers 1 = .ok (.ifCond .lt 21, 3) := by decide +kernel
theorem dX7_offers_4 : decode cX7_offers 4 = .ok (.iload_n 2, 1) := by decide +kernel
theorem dX7_offers_5 : decode cX7_offers 5 = .ok (.iconst 5, 1) := by decide +kernel
theorem dX7_offers_6 : decode cX7_offers 6 = .ok (.if_icmp .gt 16, 3) := by decide +kernel
theorem dX7_offers_9 : decode cX7_offers 9 = .ok (.aload_n 0, 1) := by decide +kernel
theorem dX7_offers_10 : decode cX7_offers 10 = .ok (.iload_n 1, 1) := by decide +kernel
theorem dX7_offers_11 : decode cX7_offers 11 = .ok (.iload_n 2, 1) := by decide +kernel
theorem dX7_offers_12 : decode cX7_offers 12 = .ok (.invokevirtual 145, 3) := by decide +kernel
theorem dX7_offers_15 : decode cX7_offers 15 = .ok (.ifCond .lt 7, 3) := by decide +kernel
theorem dX7_offers_18 : decode cX7_offers 18 = .ok (.iconst 1, 1) := by decide +kernel
theorem dX7_offers_19 : decode cX7_offers 19 = .ok (.goto 4, 3) := by decide +kernel
theorem dX7_offers_22 : decode cX7_offers 22 = .ok (.iconst 0, 1) := by decide +kernel
theorem dX7_offers_23 : decode cX7_offers 23 = .ok (.ireturn, 1) := by decide +kernel
theorem dX7_send_0 : decode cX7_send 0 = .ok (.aload_n 0, 1) := by decide +kernel
theorem dX7_send_1 : decode cX7_send 1 = .ok (.iload_n 1, 1) := by decide +kernel
theorem dX7_send_2 : decode cX7_send 2 = .ok (.invokevirtual 142, 3) := by decide +kernel
theorem dX7_send_5 : decode cX7_send 5 = .ok (.iconst 1, 1) := by decide +kernel
theorem dX7_send_6 : decode cX7_send 6 = .ok (.if_icmp .ne 12, 3) := by decide +kernel
theorem dX7_send_9 : decode cX7_send 9 = .ok (.aload_n 0, 1) := by decide +kernel
theorem dX7_send_10 : decode cX7_send 10 = .ok (.iload_n 1, 1) := by decide +kernel
theorem dX7_send_11 : decode cX7_send 11 = .ok (.iload_n 2, 1) := by decide +kernel
theorem dX7_send_12 : decode cX7_send 12 = .ok (.invokevirtual 148, 3) := by decide +kernel
theorem dX7_send_15 : decode cX7_send 15 = .ok (.ifCond .ne 5, 3) := by decide +kernel
theorem dX7_send_18 : decode cX7_send 18 = .ok (.iconst 0, 1) := by decide +kernel
theorem dX7_send_19 : decode cX7_send 19 = .ok (.ireturn, 1) := by decide +kernel
theorem dX7_send_20 : decode cX7_send 20 = .ok (.iconst 4, 1) := by decide +kernel
theorem dX7_send_21 : decode cX7_send 21 = .ok (.iload_n 1, 1) := by decide +kernel
theorem dX7_send_22 : decode cX7_send 22 = .ok (.imul, 1) := by decide +kernel
theorem dX7_send_23 : decode cX7_send 23 = .ok (.aload_n 0, 1) := by decide +kernel
theorem dX7_send_24 : decode cX7_send 24 = .ok (.iload_n 1, 1) := by decide +kernel
theorem dX7_send_25 : decode cX7_send 25 = .ok (.invokevirtual 151, 3) := by decide +kernel
theorem dX7_send_28 : decode cX7_send 28 = .ok (.iadd, 1) := by decide +kernel
theorem dX7_send_29 : decode cX7_send 29 = .ok (.istore_n 3, 1) := by decide +kernel
theorem dX7_send_30 : decode cX7_send 30 = .ok (.aload_n 0, 1) := by decide +kernel
theorem dX7_send_31 : decode cX7_send 31 = .ok (.getfield 47, 3) := by decide +kernel
theorem dX7_send_34 : decode cX7_send 34 = .ok (.iload_n 3, 1) := by decide +kernel
theorem dX7_send_35 : decode cX7_send 35 = .ok (.iaload, 1) := by decide +kernel
theorem dX7_send_36 : decode cX7_send 36 = .ok (.iconst 3, 1) := by decide +kernel
theorem dX7_send_37 : decode cX7_send 37 = .ok (.if_icmp .ne 5, 3) := by decide +kernel
theorem dX7_send_40 : decode cX7_send 40 = .ok (.iconst 0, 1) := by decide +kernel
theorem dX7_send_41 : decode cX7_send 41 = .ok (.ireturn, 1) := by decide +kernel
theorem dX7_send_42 : decode cX7_send 42 = .ok (.aload_n 0, 1) := by decide +kernel
theorem dX7_send_43 : decode cX7_send 43 = .ok (.getfield 44, 3) := by decide +kernel
theorem dX7_send_46 : decode cX7_send 46 = .ok (.iconst 3, 1) := by decide +kernel
theorem dX7_send_47 : decode cX7_send 47 = .ok (.iload_n 3, 1) := by decide +kernel
theorem dX7_send_48 : decode cX7_send 48 = .ok (.imul, 1) := by decide +kernel
theorem dX7_send_49 : decode cX7_send 49 = .ok (.aload_n 0, 1) := by decide +kernel
theorem dX7_send_50 : decode cX7_send 50 = .ok (.getfield 47, 3) := by decide +kernel
theorem dX7_send_53 : decode cX7_send 53 = .ok (.iload_n 3, 1) := by decide +kernel
theorem dX7_send_54 : decode cX7_send 54 = .ok (.iaload, 1) := by decide +kernel
theorem dX7_send_55 : decode cX7_send 55 = .ok (.iadd, 1) := by decide +kernel
theorem dX7_send_56 : decode cX7_send 56 = .ok (.iload_n 2, 1) := by decide +kernel
theorem dX7_send_57 : decode cX7_send 57 = .ok (.iastore, 1) := by decide +kernel
theorem dX7_send_58 : decode cX7_send 58 = .ok (.aload_n 0, 1) := by decide +kernel
theorem dX7_send_59 : decode cX7_send 59 = .ok (.getfield 47, 3) := by decide +kernel
theorem dX7_send_62 : decode cX7_send 62 = .ok (.iload_n 3, 1) := by decide +kernel
theorem dX7_send_63 : decode cX7_send 63 = .ok (.dup2, 1) := by decide +kernel
theorem dX7_send_64 : decode cX7_send 64 = .ok (.iaload, 1) := by decide +kernel
theorem dX7_send_65 : decode cX7_send 65 = .ok (.iconst 1, 1) := by decide +kernel
theorem dX7_send_66 : decode cX7_send 66 = .ok (.iadd, 1) := by decide +kernel
theorem dX7_send_67 : decode cX7_send 67 = .ok (.iastore, 1) := by decide +kernel
theorem dX7_send_68 : decode cX7_send 68 = .ok (.aload_n 0, 1) := by decide +kernel
theorem dX7_send_69 : decode cX7_send 69 = .ok (.dup, 1) := by decide +kernel
theorem dX7_send_70 : decode cX7_send 70 = .ok (.getfield 136, 3) := by decide +kernel
theorem dX7_send_73 : decode cX7_send 73 = .ok (.iconst 1, 1) := by decide +kernel
theorem dX7_send_74 : decode cX7_send 74 = .ok (.iadd, 1) := by decide +kernel
theorem dX7_send_75 : decode cX7_send 75 = .ok (.putfield 136, 3) := by decide +kernel
theorem dX7_send_78 : decode cX7_send 78 = .ok (.aload_n 0, 1) := by decide +kernel
theorem dX7_send_79 : decode cX7_send 79 = .ok (.iload_n 1, 1) := by decide +kernel
theorem dX7_send_80 : decode cX7_send 80 = .ok (.aload_n 0, 1) := by decide +kernel
theorem dX7_send_81 : decode cX7_send 81 = .ok (.iload_n 1, 1) := by decide +kernel
theorem dX7_send_82 : decode cX7_send 82 = .ok (.iload_n 2, 1) := by decide +kernel
theorem dX7_send_83 : decode cX7_send 83 = .ok (.invokevirtual 145, 3) := by decide +kernel
theorem dX7_send_86 : decode cX7_send 86 = .ok (.invokevirtual 139, 3) := by decide +kernel
theorem dX7_send_89 : decode cX7_send 89 = .ok (.iconst 1, 1) := by decide +kernel
theorem dX7_send_90 : decode cX7_send 90 = .ok (.ireturn, 1) := by decide +kernel
theorem dX7_receive_0 : decode cX7_receive 0 = .ok (.aload_n 0, 1) := by decide +kernel
theorem dX7_receive_1 : decode cX7_receive 1 = .ok (.iload_n 1, 1) := by decide +kernel
theorem dX7_receive_2 : decode cX7_receive 2 = .ok (.invokevirtual 142, 3) := by decide +kernel
theorem dX7_receive_5 : decode cX7_receive 5 = .ok (.iconst 2, 1) := by decide +kernel
theorem dX7_receive_6 : decode cX7_receive 6 = .ok (.if_icmp .eq 5, 3) := by decide +kernel
theorem dX7_receive_9 : decode cX7_receive 9 = .ok (.iconst (-1), 1) := by decide +kernel
theorem dX7_receive_10 : decode cX7_receive 10 = .ok (.ireturn, 1) := by decide +kernel
theorem dX7_receive_11 : decode cX7_receive 11 = .ok (.iconst 4, 1) := by decide +kernel
theorem dX7_receive_12 : decode cX7_receive 12 = .ok (.aload_n 0, 1) := by decide +kernel
theorem dX7_receive_13 : decode cX7_receive 13 = .ok (.iload_n 1, 1) := by decide +kernel
theorem dX7_receive_14 : decode cX7_receive 14 = .ok (.invokevirtual 151, 3) := by decide +kernel
theorem dX7_receive_17 : decode cX7_receive 17 = .ok (.imul, 1) := by decide +kernel
theorem dX7_receive_18 : decode cX7_receive 18 = .ok (.iload_n 1, 1) := by decide +kernel
theorem dX7_receive_19 : decode cX7_receive 19 = .ok (.iadd, 1) := by decide +kernel
theorem dX7_receive_20 : decode cX7_receive 20 = .ok (.istore_n 2, 1) := by decide +kernel
theorem dX7_receive_21 : decode cX7_receive 21 = .ok (.aload_n 0, 1) := by decide +kernel
theorem dX7_receive_22 : decode cX7_receive 22 = .ok (.getfield 47, 3) := by decide +kernel
theorem dX7_receive_25 : decode cX7_receive 25 = .ok (.iload_n 2, 1) := by decide +kernel
theorem dX7_receive_26 : decode cX7_receive 26 = .ok (.iaload, 1) := by decide +kernel
theorem dX7_receive_27 : decode cX7_receive 27 = .ok (.ifCond .ne 5, 3) := by decide +kernel
theorem dX7_receive_30 : decode cX7_receive 30 = .ok (.iconst (-1), 1) := by decide +kernel
theorem dX7_receive_31 : decode cX7_receive 31 = .ok (.ireturn, 1) := by decide +kernel
theorem dX7_receive_32 : decode cX7_receive 32 = .ok (.aload_n 0, 1) := by decide +kernel
theorem dX7_receive_33 : decode cX7_receive 33 = .ok (.getfield 44, 3) := by decide +kernel
theorem dX7_receive_36 : decode cX7_receive 36 = .ok (.iconst 3, 1) := by decide +kernel
theorem dX7_receive_37 : decode cX7_receive 37 = .ok (.iload_n 2, 1) := by decide +kernel
theorem dX7_receive_38 : decode cX7_receive 38 = .ok (.imul, 1) := by decide +kernel
theorem dX7_receive_39 : decode cX7_receive 39 = .ok (.iaload, 1) := by decide +kernel
theorem dX7_receive_40 : decode cX7_receive 40 = .ok (.istore_n 3, 1) := by decide +kernel
theorem dX7_receive_41 : decode cX7_receive 41 = .ok (.aload_n 0, 1) := by decide +kernel
theorem dX7_receive_42 : decode cX7_receive 42 = .ok (.iload_n 1, 1) := by decide +kernel
theorem dX7_receive_43 : decode cX7_receive 43 = .ok (.iload_n 3, 1) := by decide +kernel
theorem dX7_receive_44 : decode cX7_receive 44 = .ok (.invokevirtual 148, 3) := by decide +kernel
theorem dX7_receive_47 : decode cX7_receive 47 = .ok (.ifCond .ne 6, 3) := by decide +kernel
theorem dX7_receive_50 : decode cX7_receive 50 = .ok (.bipush (-2), 2) := by decide +kernel
theorem dX7_receive_52 : decode cX7_receive 52 = .ok (.ireturn, 1) := by decide +kernel
theorem dX7_receive_53 : decode cX7_receive 53 = .ok (.aload_n 0, 1) := by decide +kernel
theorem dX7_receive_54 : decode cX7_receive 54 = .ok (.getfield 44, 3) := by decide +kernel
theorem dX7_receive_57 : decode cX7_receive 57 = .ok (.iconst 3, 1) := by decide +kernel
theorem dX7_receive_58 : decode cX7_receive 58 = .ok (.iload_n 2, 1) := by decide +kernel
theorem dX7_receive_59 : decode cX7_receive 59 = .ok (.imul, 1) := by decide +kernel
theorem dX7_receive_60 : decode cX7_receive 60 = .ok (.aload_n 0, 1) := by decide +kernel
theorem dX7_receive_61 : decode cX7_receive 61 = .ok (.getfield 44, 3) := by decide +kernel
theorem dX7_receive_64 : decode cX7_receive 64 = .ok (.iconst 3, 1) := by decide +kernel
theorem dX7_receive_65 : decode cX7_receive 65 = .ok (.iload_n 2, 1) := by decide +kernel
theorem dX7_receive_66 : decode cX7_receive 66 = .ok (.imul, 1) := by decide +kernel
theorem dX7_receive_67 : decode cX7_receive 67 = .ok (.iconst 1, 1) := by decide +kernel
theorem dX7_receive_68 : decode cX7_receive 68 = .ok (.iadd, 1) := by decide +kernel
theorem dX7_receive_69 : decode cX7_receive 69 = .ok (.iaload, 1) := by decide +kernel
theorem dX7_receive_70 : decode cX7_receive 70 = .ok (.iastore, 1) := by decide +kernel
theorem dX7_receive_71 : decode cX7_receive 71 = .ok (.aload_n 0, 1) := by decide +kernel
theorem dX7_receive_72 : decode cX7_receive 72 = .ok (.getfield 44, 3) := by decide +kernel
theorem dX7_receive_75 : decode cX7_receive 75 = .ok (.iconst 3, 1) := by decide +kernel
theorem dX7_receive_76 : decode cX7_receive 76 = .ok (.iload_n 2, 1) := by decide +kernel
theorem dX7_receive_77 : decode cX7_receive 77 = .ok (.imul, 1) := by decide +kernel
theorem dX7_receive_78 : decode cX7_receive 78 = .ok (.iconst 1, 1) := by decide +kernel
theorem dX7_receive_79 : decode cX7_receive 79 = .ok (.iadd, 1) := by decide +kernel
theorem dX7_receive_80 : decode cX7_receive 80 = .ok (.aload_n 0, 1) := by decide +kernel
theorem dX7_receive_81 : decode cX7_receive 81 = .ok (.getfield 44, 3) := by decide +kernel
theorem dX7_receive_84 : decode cX7_receive 84 = .ok (.iconst 3, 1) := by decide +kernel
theorem dX7_receive_85 : decode cX7_receive 85 = .ok (.iload_n 2, 1) := by decide +kernel
theorem dX7_receive_86 : decode cX7_receive 86 = .ok (.imul, 1) := by decide +kernel
theorem dX7_receive_87 : decode cX7_receive 87 = .ok (.iconst 2, 1) := by decide +kernel
theorem dX7_receive_88 : decode cX7_receive 88 = .ok (.iadd, 1) := by decide +kernel
theorem dX7_receive_89 : decode cX7_receive 89 = .ok (.iaload, 1) := by decide +kernel
theorem dX7_receive_90 : decode cX7_receive 90 = .ok (.iastore, 1) := by decide +kernel
theorem dX7_receive_91 : decode cX7_receive 91 = .ok (.aload_n 0, 1) := by decide +kernel
theorem dX7_receive_92 : decode cX7_receive 92 = .ok (.getfield 47, 3) := by decide +kernel
theorem dX7_receive_95 : decode cX7_receive 95 = .ok (.iload_n 2, 1) := by decide +kernel
theorem dX7_receive_96 : decode cX7_receive 96 = .ok (.dup2, 1) := by decide +kernel
theorem dX7_receive_97 : decode cX7_receive 97 = .ok (.iaload, 1) := by decide +kernel
theorem dX7_receive_98 : decode cX7_receive 98 = .ok (.iconst 1, 1) := by decide +kernel
theorem dX7_receive_99 : decode cX7_receive 99 = .ok (.isub, 1) := by decide +kernel
theorem dX7_receive_100 : decode cX7_receive 100 = .ok (.iastore, 1) := by decide +kernel
theorem dX7_receive_101 : decode cX7_receive 101 = .ok (.aload_n 0, 1) := by decide +kernel
theorem dX7_receive_102 : decode cX7_receive 102 = .ok (.dup, 1) := by decide +kernel
theorem dX7_receive_103 : decode cX7_receive 103 = .ok (.getfield 136, 3) := by decide +kernel
theorem dX7_receive_106 : decode cX7_receive 106 = .ok (.iconst 1, 1) := by decide +kernel
theorem dX7_receive_107 : decode cX7_receive 107 = .ok (.iadd, 1) := by decide +kernel
theorem dX7_receive_108 : decode cX7_receive 108 = .ok (.putfield 136, 3) := by decide +kernel
theorem dX7_receive_111 : decode cX7_receive 111 = .ok (.aload_n 0, 1) := by decide +kernel
theorem dX7_receive_112 : decode cX7_receive 112 = .ok (.iload_n 1, 1) := by decide +kernel
theorem dX7_receive_113 : decode cX7_receive 113 = .ok (.aload_n 0, 1) := by decide +kernel
theorem dX7_receive_114 : decode cX7_receive 114 = .ok (.iload_n 1, 1) := by decide +kernel
theorem dX7_receive_115 : decode cX7_receive 115 = .ok (.iload_n 3, 1) := by decide +kernel
theorem dX7_receive_116 : decode cX7_receive 116 = .ok (.invokevirtual 145, 3) := by decide +kernel
theorem dX7_receive_119 : decode cX7_receive 119 = .ok (.invokevirtual 139, 3) := by decide +kernel
theorem dX7_receive_122 : decode cX7_receive 122 = .ok (.iload_n 3, 1) := by decide +kernel
theorem dX7_receive_123 : decode cX7_receive 123 = .ok (.ireturn, 1) := by decide +kernel
theorem dX7_onTheWay_0 : decode cX7_onTheWay 0 = .ok (.aload_n 0, 1) := by decide +kernel
theorem dX7_onTheWay_1 : decode cX7_onTheWay 1 = .ok (.getfield 122, 3) := by decide +kernel
theorem dX7_onTheWay_4 : decode cX7_onTheWay 4 = .ok (.ifCond .eq 30, 3) := by decide +kernel
theorem dX7_onTheWay_7 : decode cX7_onTheWay 7 = .ok (.iload_n 1, 1) := by decide +kernel
theorem dX7_onTheWay_8 : decode cX7_onTheWay 8 = .ok (.invokestatic 125, 3) := by decide +kernel
theorem dX7_onTheWay_11 : decode cX7_onTheWay 11 = .ok (.ifCond .eq 23, 3) := by decide +kernel
theorem dX7_onTheWay_14 : decode cX7_onTheWay 14 = .ok (.iload_n 2, 1) := by decide +kernel
theorem dX7_onTheWay_15 : decode cX7_onTheWay 15 = .ok (.invokestatic 125, 3) := by decide +kernel
theorem dX7_onTheWay_18 : decode cX7_onTheWay 18 = .ok (.ifCond .eq 16, 3) := by decide +kernel
theorem dX7_onTheWay_21 : decode cX7_onTheWay 21 = .ok (.aload_n 0, 1) := by decide +kernel
theorem dX7_onTheWay_22 : decode cX7_onTheWay 22 = .ok (.getfield 47, 3) := by decide +kernel
theorem dX7_onTheWay_25 : decode cX7_onTheWay 25 = .ok (.iconst 4, 1) := by decide +kernel
theorem dX7_onTheWay_26 : decode cX7_onTheWay 26 = .ok (.iload_n 1, 1) := by decide +kernel
theorem dX7_onTheWay_27 : decode cX7_onTheWay 27 = .ok (.imul, 1) := by decide +kernel
theorem dX7_onTheWay_28 : decode cX7_onTheWay 28 = .ok (.iload_n 2, 1) := by decide +kernel
theorem dX7_onTheWay_29 : decode cX7_onTheWay 29 = .ok (.iadd, 1) := by decide +kernel
theorem dX7_onTheWay_30 : decode cX7_onTheWay 30 = .ok (.iaload, 1) := by decide +kernel
theorem dX7_onTheWay_31 : decode cX7_onTheWay 31 = .ok (.goto 4, 3) := by decide +kernel
theorem dX7_onTheWay_34 : decode cX7_onTheWay 34 = .ok (.iconst (-1), 1) := by decide +kernel
theorem dX7_onTheWay_35 : decode cX7_onTheWay 35 = .ok (.ireturn, 1) := by decide +kernel
theorem dX7_labelAt_0 : decode cX7_labelAt 0 = .ok (.iload_n 3, 1) := by decide +kernel
theorem dX7_labelAt_1 : decode cX7_labelAt 1 = .ok (.ifCond .lt 30, 3) := by decide +kernel
theorem dX7_labelAt_4 : decode cX7_labelAt 4 = .ok (.iload_n 3, 1) := by decide +kernel
theorem dX7_labelAt_5 : decode cX7_labelAt 5 = .ok (.aload_n 0, 1) := by decide +kernel
theorem dX7_labelAt_6 : decode cX7_labelAt 6 = .ok (.iload_n 1, 1) := by decide +kernel
theorem dX7_labelAt_7 : decode cX7_labelAt 7 = .ok (.iload_n 2, 1) := by decide +kernel
theorem dX7_labelAt_8 : decode cX7_labelAt 8 = .ok (.invokevirtual 154, 3) := by decide +kernel
theorem dX7_labelAt_11 : decode cX7_labelAt 11 = .ok (.if_icmp .ge 20, 3) := by decide +kernel
theorem dX7_labelAt_14 : decode cX7_labelAt 14 = .ok (.aload_n 0, 1) := by decide +kernel
theorem dX7_labelAt_15 : decode cX7_labelAt 15 = .ok (.getfield 44, 3) := by decide +kernel
theorem dX7_labelAt_18 : decode cX7_labelAt 18 = .ok (.iconst 3, 1) := by decide +kernel
theorem dX7_labelAt_19 : decode cX7_labelAt 19 = .ok (.iconst 4, 1) := by decide +kernel
theorem dX7_labelAt_20 : decode cX7_labelAt 20 = .ok (.iload_n 1, 1) := by decide +kernel
theorem dX7_labelAt_21 : decode cX7_labelAt 21 = .ok (.imul, 1) := by decide +kernel
theorem dX7_labelAt_22 : decode cX7_labelAt 22 = .ok (.iload_n 2, 1) := by decide +kernel
theorem dX7_labelAt_23 : decode cX7_labelAt 23 = .ok (.iadd, 1) := by decide +kernel
theorem dX7_labelAt_24 : decode cX7_labelAt 24 = .ok (.imul, 1) := by decide +kernel
theorem dX7_labelAt_25 : decode cX7_labelAt 25 = .ok (.iload_n 3, 1) := by decide +kernel
theorem dX7_labelAt_26 : decode cX7_labelAt 26 = .ok (.iadd, 1) := by decide +kernel
theorem dX7_labelAt_27 : decode cX7_labelAt 27 = .ok (.iaload, 1) := by decide +kernel
theorem dX7_labelAt_28 : decode cX7_labelAt 28 = .ok (.goto 4, 3) := by decide +kernel
theorem dX7_labelAt_31 : decode cX7_labelAt 31 = .ok (.iconst (-1), 1) := by decide +kernel
theorem dX7_labelAt_32 : decode cX7_labelAt 32 = .ok (.ireturn, 1) := by decide +kernel
theorem dX7_moves_0 : decode cX7_moves 0 = .ok (.aload_n 0, 1) := by decide +kernel
theorem dX7_moves_1 : decode cX7_moves 1 = .ok (.getfield 122, 3) := by decide +kernel
theorem dX7_moves_4 : decode cX7_moves 4 = .ok (.ifCond .eq 10, 3) := by decide +kernel
theorem dX7_moves_7 : decode cX7_moves 7 = .ok (.aload_n 0, 1) := by decide +kernel
theorem dX7_moves_8 : decode cX7_moves 8 = .ok (.getfield 136, 3) := by decide +kernel
theorem dX7_moves_11 : decode cX7_moves 11 = .ok (.goto 4, 3) := by decide +kernel
theorem dX7_moves_14 : decode cX7_moves 14 = .ok (.iconst (-1), 1) := by decide +kernel
theorem dX7_moves_15 : decode cX7_moves 15 = .ok (.ireturn, 1) := by decide +kernel
theorem dX7_canGo_0 : decode cX7_canGo 0 = .ok (.aload_n 0, 1) := by decide +kernel
theorem dX7_canGo_1 : decode cX7_canGo 1 = .ok (.iload_n 1, 1) := by decide +kernel
theorem dX7_canGo_2 : decode cX7_canGo 2 = .ok (.invokevirtual 142, 3) := by decide +kernel
theorem dX7_canGo_5 : decode cX7_canGo 5 = .ok (.iconst 1, 1) := by decide +kernel
theorem dX7_canGo_6 : decode cX7_canGo 6 = .ok (.if_icmp .ne 27, 3) := by decide +kernel
theorem dX7_canGo_9 : decode cX7_canGo 9 = .ok (.aload_n 0, 1) := by decide +kernel
theorem dX7_canGo_10 : decode cX7_canGo 10 = .ok (.getfield 47, 3) := by decide +kernel
theorem dX7_canGo_13 : decode cX7_canGo 13 = .ok (.iconst 4, 1) := by decide +kernel
theorem dX7_canGo_14 : decode cX7_canGo 14 = .ok (.iload_n 1, 1) := by decide +kernel
theorem dX7_canGo_15 : decode cX7_canGo 15 = .ok (.imul, 1) := by decide +kernel
theorem dX7_canGo_16 : decode cX7_canGo 16 = .ok (.aload_n 0, 1) := by decide +kernel
theorem dX7_canGo_17 : decode cX7_canGo 17 = .ok (.iload_n 1, 1) := by decide +kernel
theorem dX7_canGo_18 : decode cX7_canGo 18 = .ok (.invokevirtual 151, 3) := by decide +kernel
theorem dX7_canGo_21 : decode cX7_canGo 21 = .ok (.iadd, 1) := by decide +kernel
theorem dX7_canGo_22 : decode cX7_canGo 22 = .ok (.iaload, 1) := by decide +kernel
theorem dX7_canGo_23 : decode cX7_canGo 23 = .ok (.iconst 3, 1) := by decide +kernel
theorem dX7_canGo_24 : decode cX7_canGo 24 = .ok (.if_icmp .ge 7, 3) := by decide +kernel
theorem dX7_canGo_27 : decode cX7_canGo 27 = .ok (.iconst 1, 1) := by decide +kernel
theorem dX7_canGo_28 : decode cX7_canGo 28 = .ok (.goto 4, 3) := by decide +kernel
theorem dX7_canGo_31 : decode cX7_canGo 31 = .ok (.iconst 0, 1) := by decide +kernel
theorem dX7_canGo_32 : decode cX7_canGo 32 = .ok (.ireturn, 1) := by decide +kernel
theorem dX7_canGo_33 : decode cX7_canGo 33 = .ok (.aload_n 0, 1) := by decide +kernel
theorem dX7_canGo_34 : decode cX7_canGo 34 = .ok (.iload_n 1, 1) := by decide +kernel
theorem dX7_canGo_35 : decode cX7_canGo 35 = .ok (.invokevirtual 142, 3) := by decide +kernel
theorem dX7_canGo_38 : decode cX7_canGo 38 = .ok (.iconst 2, 1) := by decide +kernel
theorem dX7_canGo_39 : decode cX7_canGo 39 = .ok (.if_icmp .ne 39, 3) := by decide +kernel
theorem dX7_canGo_42 : decode cX7_canGo 42 = .ok (.aload_n 0, 1) := by decide +kernel
theorem dX7_canGo_43 : decode cX7_canGo 43 = .ok (.aload_n 0, 1) := by decide +kernel
theorem dX7_canGo_44 : decode cX7_canGo 44 = .ok (.iload_n 1, 1) := by decide +kernel
theorem dX7_canGo_45 : decode cX7_canGo 45 = .ok (.invokevirtual 151, 3) := by decide +kernel
theorem dX7_canGo_48 : decode cX7_canGo 48 = .ok (.iload_n 1, 1) := by decide +kernel
theorem dX7_canGo_49 : decode cX7_canGo 49 = .ok (.invokevirtual 154, 3) := by decide +kernel
theorem dX7_canGo_52 : decode cX7_canGo 52 = .ok (.ifCond .le 26, 3) := by decide +kernel
theorem dX7_canGo_55 : decode cX7_canGo 55 = .ok (.aload_n 0, 1) := by decide +kernel
theorem dX7_canGo_56 : decode cX7_canGo 56 = .ok (.iload_n 1, 1) := by decide +kernel
theorem dX7_canGo_57 : decode cX7_canGo 57 = .ok (.aload_n 0, 1) := by decide +kernel
theorem dX7_canGo_58 : decode cX7_canGo 58 = .ok (.aload_n 0, 1) := by decide +kernel
theorem dX7_canGo_59 : decode cX7_canGo 59 = .ok (.iload_n 1, 1) := by decide +kernel
theorem dX7_canGo_60 : decode cX7_canGo 60 = .ok (.invokevirtual 151, 3) := by decide +kernel
theorem dX7_canGo_63 : decode cX7_canGo 63 = .ok (.iload_n 1, 1) := by decide +kernel
theorem dX7_canGo_64 : decode cX7_canGo 64 = .ok (.iconst 0, 1) := by decide +kernel
theorem dX7_canGo_65 : decode cX7_canGo 65 = .ok (.invokevirtual 157, 3) := by decide +kernel
theorem dX7_canGo_68 : decode cX7_canGo 68 = .ok (.invokevirtual 148, 3) := by decide +kernel
theorem dX7_canGo_71 : decode cX7_canGo 71 = .ok (.ifCond .eq 7, 3) := by decide +kernel
theorem dX7_canGo_74 : decode cX7_canGo 74 = .ok (.iconst 1, 1) := by decide +kernel
theorem dX7_canGo_75 : decode cX7_canGo 75 = .ok (.goto 4, 3) := by decide +kernel
theorem dX7_canGo_78 : decode cX7_canGo 78 = .ok (.iconst 0, 1) := by decide +kernel
theorem dX7_canGo_79 : decode cX7_canGo 79 = .ok (.ireturn, 1) := by decide +kernel
theorem dX7_ready_0 : decode cX7_ready 0 = .ok (.iconst 0, 1) := by decide +kernel
theorem dX7_ready_1 : decode cX7_ready 1 = .ok (.istore_n 1, 1) := by decide +kernel
theorem dX7_ready_2 : decode cX7_ready 2 = .ok (.iconst 0, 1) := by decide +kernel
theorem dX7_ready_3 : decode cX7_ready 3 = .ok (.istore_n 2, 1) := by decide +kernel
theorem dX7_ready_4 : decode cX7_ready 4 = .ok (.iload_n 2, 1) := by decide +kernel
theorem dX7_ready_5 : decode cX7_ready 5 = .ok (.iconst 4, 1) := by decide +kernel
theorem dX7_ready_6 : decode cX7_ready 6 = .ok (.if_icmp .ge 25, 3) := by decide +kernel
theorem dX7_ready_9 : decode cX7_ready 9 = .ok (.iload_n 1, 1) := by decide +kernel
theorem dX7_ready_10 : decode cX7_ready 10 = .ok (.aload_n 0, 1) := by decide +kernel
theorem dX7_ready_11 : decode cX7_ready 11 = .ok (.iload_n 2, 1) := by decide +kernel
theorem dX7_ready_12 : decode cX7_ready 12 = .ok (.invokevirtual 160, 3) := by decide +kernel
theorem dX7_ready_15 : decode cX7_ready 15 = .ok (.ifCond .eq 7, 3) := by decide +kernel
theorem dX7_ready_18 : decode cX7_ready 18 = .ok (.iconst 1, 1) := by decide +kernel
theorem dX7_ready_19 : decode cX7_ready 19 = .ok (.goto 4, 3) := by decide +kernel
theorem dX7_ready_22 : decode cX7_ready 22 = .ok (.iconst 0, 1) := by decide +kernel
theorem dX7_ready_23 : decode cX7_ready 23 = .ok (.iadd, 1) := by decide +kernel
theorem dX7_ready_24 : decode cX7_ready 24 = .ok (.istore_n 1, 1) := by decide +kernel
theorem dX7_ready_25 : decode cX7_ready 25 = .ok (.iinc 2 1, 3) := by decide +kernel
theorem dX7_ready_28 : decode cX7_ready 28 = .ok (.goto (-24), 3) := by decide +kernel
theorem dX7_ready_31 : decode cX7_ready 31 = .ok (.aload_n 0, 1) := by decide +kernel
theorem dX7_ready_32 : decode cX7_ready 32 = .ok (.getfield 122, 3) := by decide +kernel
theorem dX7_ready_35 : decode cX7_ready 35 = .ok (.ifCond .eq 7, 3) := by decide +kernel
theorem dX7_ready_38 : decode cX7_ready 38 = .ok (.iload_n 1, 1) := by decide +kernel
theorem dX7_ready_39 : decode cX7_ready 39 = .ok (.goto 4, 3) := by decide +kernel
theorem dX7_ready_42 : decode cX7_ready 42 = .ok (.iconst (-1), 1) := by decide +kernel
theorem dX7_ready_43 : decode cX7_ready 43 = .ok (.ireturn, 1) := by decide +kernel
theorem dX7_over_0 : decode cX7_over 0 = .ok (.aload_n 0, 1) := by decide +kernel
theorem dX7_over_1 : decode cX7_over 1 = .ok (.getfield 122, 3) := by decide +kernel
theorem dX7_over_4 : decode cX7_over 4 = .ok (.istore_n 1, 1) := by decide +kernel
theorem dX7_over_5 : decode cX7_over 5 = .ok (.iconst 0, 1) := by decide +kernel
theorem dX7_over_6 : decode cX7_over 6 = .ok (.istore_n 2, 1) := by decide +kernel
theorem dX7_over_7 : decode cX7_over 7 = .ok (.iload_n 2, 1) := by decide +kernel
theorem dX7_over_8 : decode cX7_over 8 = .ok (.iconst 4, 1) := by decide +kernel
theorem dX7_over_9 : decode cX7_over 9 = .ok (.if_icmp .ge 27, 3) := by decide +kernel
theorem dX7_over_12 : decode cX7_over 12 = .ok (.iload_n 1, 1) := by decide +kernel
theorem dX7_over_13 : decode cX7_over 13 = .ok (.ifCond .eq 15, 3) := by decide +kernel
theorem dX7_over_16 : decode cX7_over 16 = .ok (.aload_n 0, 1) := by decide +kernel
theorem dX7_over_17 : decode cX7_over 17 = .ok (.iload_n 2, 1) := by decide +kernel
theorem dX7_over_18 : decode cX7_over 18 = .ok (.invokevirtual 142, 3) := by decide +kernel
theorem dX7_over_21 : decode cX7_over 21 = .ok (.ifCond .ne 7, 3) := by decide +kernel
theorem dX7_over_24 : decode cX7_over 24 = .ok (.iconst 1, 1) := by decide +kernel
theorem dX7_over_25 : decode cX7_over 25 = .ok (.goto 4, 3) := by decide +kernel
theorem dX7_over_28 : decode cX7_over 28 = .ok (.iconst 0, 1) := by decide +kernel
theorem dX7_over_29 : decode cX7_over 29 = .ok (.istore_n 1, 1) := by decide +kernel
theorem dX7_over_30 : decode cX7_over 30 = .ok (.iinc 2 1, 3) := by decide +kernel
theorem dX7_over_33 : decode cX7_over 33 = .ok (.goto (-26), 3) := by decide +kernel
theorem dX7_over_36 : decode cX7_over 36 = .ok (.iconst 0, 1) := by decide +kernel
theorem dX7_over_37 : decode cX7_over 37 = .ok (.istore_n 2, 1) := by decide +kernel
theorem dX7_over_38 : decode cX7_over 38 = .ok (.iload_n 2, 1) := by decide +kernel
theorem dX7_over_39 : decode cX7_over 39 = .ok (.bipush 16, 2) := by decide +kernel
theorem dX7_over_41 : decode cX7_over 41 = .ok (.if_icmp .ge 28, 3) := by decide +kernel
theorem dX7_over_44 : decode cX7_over 44 = .ok (.iload_n 1, 1) := by decide +kernel
theorem dX7_over_45 : decode cX7_over 45 = .ok (.ifCond .eq 16, 3) := by decide +kernel
theorem dX7_over_48 : decode cX7_over 48 = .ok (.aload_n 0, 1) := by decide +kernel
theorem dX7_over_49 : decode cX7_over 49 = .ok (.getfield 47, 3) := by decide +kernel
theorem dX7_over_52 : decode cX7_over 52 = .ok (.iload_n 2, 1) := by decide +kernel
theorem dX7_over_53 : decode cX7_over 53 = .ok (.iaload, 1) := by decide +kernel
theorem dX7_over_54 : decode cX7_over 54 = .ok (.ifCond .ne 7, 3) := by decide +kernel
theorem dX7_over_57 : decode cX7_over 57 = .ok (.iconst 1, 1) := by decide +kernel
theorem dX7_over_58 : decode cX7_over 58 = .ok (.goto 4, 3) := by decide +kernel
theorem dX7_over_61 : decode cX7_over 61 = .ok (.iconst 0, 1) := by decide +kernel
theorem dX7_over_62 : decode cX7_over 62 = .ok (.istore_n 1, 1) := by decide +kernel
theorem dX7_over_63 : decode cX7_over 63 = .ok (.iinc 2 1, 3) := by decide +kernel
theorem dX7_over_66 : decode cX7_over 66 = .ok (.goto (-28), 3) := by decide +kernel
theorem dX7_over_69 : decode cX7_over 69 = .ok (.iload_n 1, 1) := by decide +kernel
theorem dX7_over_70 : decode cX7_over 70 = .ok (.ireturn, 1) := by decide +kernel
theorem dL_law_0 : decode cL_law 0 = .ok (.new 7, 3) := by decide +kernel
theorem dL_law_3 : decode cL_law 3 = .ok (.dup, 1) := by decide +kernel
theorem dL_law_4 : decode cL_law 4 = .ok (.invokespecial 9, 3) := by decide +kernel
theorem dL_law_7 : decode cL_law 7 = .ok (.astore_n 1, 1) := by decide +kernel
theorem dL_law_8 : decode cL_law 8 = .ok (.new 10, 3) := by decide +kernel
theorem dL_law_11 : decode cL_law 11 = .ok (.dup, 1) := by decide +kernel
theorem dL_law_12 : decode cL_law 12 = .ok (.invokespecial 12, 3) := by decide +kernel
theorem dL_law_15 : decode cL_law 15 = .ok (.astore_n 2, 1) := by decide +kernel
theorem dL_law_16 : decode cL_law 16 = .ok (.iconst 0, 1) := by decide +kernel
theorem dL_law_17 : decode cL_law 17 = .ok (.istore_n 3, 1) := by decide +kernel
theorem dL_law_18 : decode cL_law 18 = .ok (.iload_n 3, 1) := by decide +kernel
theorem dL_law_19 : decode cL_law 19 = .ok (.aload_n 0, 1) := by decide +kernel
theorem dL_law_20 : decode cL_law 20 = .ok (.arraylength, 1) := by decide +kernel
theorem dL_law_21 : decode cL_law 21 = .ok (.iconst 4, 1) := by decide +kernel
theorem dL_law_22 : decode cL_law 22 = .ok (.isub, 1) := by decide +kernel
theorem dL_law_23 : decode cL_law 23 = .ok (.if_icmp .gt 465, 3) := by decide +kernel
theorem dL_law_26 : decode cL_law 26 = .ok (.aload_n 0, 1) := by decide +kernel
theorem dL_law_27 : decode cL_law 27 = .ok (.iload_n 3, 1) := by decide +kernel
theorem dL_law_28 : decode cL_law 28 = .ok (.iaload, 1) := by decide +kernel
theorem dL_law_29 : decode cL_law 29 = .ok (.bipush 15, 2) := by decide +kernel
theorem dL_law_31 : decode cL_law 31 = .ok (.iand, 1) := by decide +kernel
theorem dL_law_32 : decode cL_law 32 = .ok (.tableswitch 450 0 15 #[80, 105, 118, 131, 154, 187, 200, 223, 246, 279, 312, 335, 368, 411, 424, 437], 80) := by decide +kernel
theorem dL_law_112 : decode cL_law 112 = .ok (.aload_n 1, 1) := by decide +kernel
theorem dL_law_113 : decode cL_law 113 = .ok (.aload_n 0, 1) := by decide +kernel
theorem dL_law_114 : decode cL_law 114 = .ok (.iload_n 3, 1) := by decide +kernel
theorem dL_law_115 : decode cL_law 115 = .ok (.iconst 1, 1) := by decide +kernel
theorem dL_law_116 : decode cL_law 116 = .ok (.iadd, 1) := by decide +kernel
theorem dL_law_117 : decode cL_law 117 = .ok (.iaload, 1) := by decide +kernel
theorem dL_law_118 : decode cL_law 118 = .ok (.i2c, 1) := by decide +kernel
theorem dL_law_119 : decode cL_law 119 = .ok (.invokevirtual 13, 3) := by decide +kernel
theorem dL_law_122 : decode cL_law 122 = .ok (.aload_n 2, 1) := by decide +kernel
theorem dL_law_123 : decode cL_law 123 = .ok (.aload_n 0, 1) := by decide +kernel
theorem dL_law_124 : decode cL_law 124 = .ok (.iload_n 3, 1) := by decide +kernel
theorem dL_law_125 : decode cL_law 125 = .ok (.iconst 1, 1) := by decide +kernel
theorem dL_law_126 : decode cL_law 126 = .ok (.iadd, 1) := by decide +kernel
theorem dL_law_127 : decode cL_law 127 = .ok (.iaload, 1) := by decide +kernel
theorem dL_law_128 : decode cL_law 128 = .ok (.i2c, 1) := by decide +kernel
theorem dL_law_129 : decode cL_law 129 = .ok (.invokevirtual 17, 3) := by decide +kernel
theorem dL_law_132 : decode cL_law 132 = .ok (.if_icmp .eq 350, 3) := by decide +kernel
theorem dL_law_135 : decode cL_law 135 = .ok (.iconst 0, 1) := by decide +kernel
theorem dL_law_136 : decode cL_law 136 = .ok (.ireturn, 1) := by decide +kernel
theorem dL_law_137 : decode cL_law 137 = .ok (.aload_n 1, 1) := by decide +kernel
theorem dL_law_138 : decode cL_law 138 = .ok (.invokevirtual 18, 3) := by decide +kernel
theorem dL_law_141 : decode cL_law 141 = .ok (.aload_n 2, 1) := by decide +kernel
theorem dL_law_142 : decode cL_law 142 = .ok (.invokevirtual 22, 3) := by decide +kernel
theorem dL_law_145 : decode cL_law 145 = .ok (.if_icmp .eq 337, 3) := by decide +kernel
theorem dL_law_148 : decode cL_law 148 = .ok (.iconst 0, 1) := by decide +kernel
theorem dL_law_149 : decode cL_law 149 = .ok (.ireturn, 1) := by decide +kernel
theorem dL_law_150 : decode cL_law 150 = .ok (.aload_n 1, 1) := by decide +kernel
theorem dL_law_151 : decode cL_law 151 = .ok (.invokevirtual 23, 3) := by decide +kernel
theorem dL_law_154 : decode cL_law 154 = .ok (.aload_n 2, 1) := by decide +kernel
theorem dL_law_155 : decode cL_law 155 = .ok (.invokevirtual 26, 3) := by decide +kernel
theorem dL_law_158 : decode cL_law 158 = .ok (.if_icmp .eq 324, 3) := by decide +kernel
theorem dL_law_161 : decode cL_law 161 = .ok (.iconst 0, 1) := by decide +kernel
theorem dL_law_162 : decode cL_law 162 = .ok (.ireturn, 1) := by decide +kernel
theorem dL_law_163 : decode cL_law 163 = .ok (.aload_n 1, 1) := by decide +kernel
theorem dL_law_164 : decode cL_law 164 = .ok (.aload_n 0, 1) := by decide +kernel
theorem dL_law_165 : decode cL_law 165 = .ok (.iload_n 3, 1) := by decide +kernel
theorem dL_law_166 : decode cL_law 166 = .ok (.iconst 1, 1) := by decide +kernel
theorem dL_law_167 : decode cL_law 167 = .ok (.iadd, 1) := by decide +kernel
theorem dL_law_168 : decode cL_law 168 = .ok (.iaload, 1) := by decide +kernel
theorem dL_law_169 : decode cL_law 169 = .ok (.invokevirtual 27, 3) := by decide +kernel
theorem dL_law_172 : decode cL_law 172 = .ok (.aload_n 2, 1) := by decide +kernel
theorem dL_law_173 : decode cL_law 173 = .ok (.aload_n 0, 1) := by decide +kernel
theorem dL_law_174 : decode cL_law 174 = .ok (.iload_n 3, 1) := by decide +kernel
theorem dL_law_175 : decode cL_law 175 = .ok (.iconst 1, 1) := by decide +kernel
theorem dL_law_176 : decode cL_law 176 = .ok (.iadd, 1) := by decide +kernel
theorem dL_law_177 : decode cL_law 177 = .ok (.iaload, 1) := by decide +kernel
theorem dL_law_178 : decode cL_law 178 = .ok (.invokevirtual 31, 3) := by decide +kernel
theorem dL_law_181 : decode cL_law 181 = .ok (.if_icmp .eq 301, 3) := by decide +kernel
theorem dL_law_184 : decode cL_law 184 = .ok (.iconst 0, 1) := by decide +kernel
theorem dL_law_185 : decode cL_law 185 = .ok (.ireturn, 1) := by decide +kernel
theorem dL_law_186 : decode cL_law 186 = .ok (.aload_n 1, 1) := by decide +kernel
theorem dL_law_187 : decode cL_law 187 = .ok (.aload_n 0, 1) := by decide +kernel
theorem dL_law_188 : decode cL_law 188 = .ok (.iload_n 3, 1) := by decide +kernel
theorem dL_law_189 : decode cL_law 189 = .ok (.iconst 1, 1) := by decide +kernel
theorem dL_law_190 : decode cL_law 190 = .ok (.iadd, 1) := by decide +kernel
theorem dL_law_191 : decode cL_law 191 = .ok (.iaload, 1) := by decide +kernel
theorem dL_law_192 : decode cL_law 192 = .ok (.aload_n 0, 1) := by decide +kernel
theorem dL_law_193 : decode cL_law 193 = .ok (.iload_n 3, 1) := by decide +kernel
theorem dL_law_194 : decode cL_law 194 = .ok (.iconst 2, 1) := by decide +kernel
theorem dL_law_195 : decode cL_law 195 = .ok (.iadd, 1) := by decide +kernel
theorem dL_law_196 : decode cL_law 196 = .ok (.iaload, 1) := by decide +kernel
theorem dL_law_197 : decode cL_law 197 = .ok (.invokevirtual 32, 3) := by decide +kernel
theorem dL_law_200 : decode cL_law 200 = .ok (.aload_n 2, 1) := by decide +kernel
theorem dL_law_201 : decode cL_law 201 = .ok (.aload_n 0, 1) := by decide +kernel
theorem dL_law_202 : decode cL_law 202 = .ok (.iload_n 3, 1) := by decide +kernel
theorem dL_law_203 : decode cL_law 203 = .ok (.iconst 1, 1) := by decide +kernel
theorem dL_law_204 : decode cL_law 204 = .ok (.iadd, 1) := by decide +kernel
theorem dL_law_205 : decode cL_law 205 = .ok (.iaload, 1) := by decide +kernel
theorem dL_law_206 : decode cL_law 206 = .ok (.aload_n 0, 1) := by decide +kernel
theorem dL_law_207 : decode cL_law 207 = .ok (.iload_n 3, 1) := by decide +kernel
theorem dL_law_208 : decode cL_law 208 = .ok (.iconst 2, 1) := by decide +kernel
theorem dL_law_209 : decode cL_law 209 = .ok (.iadd, 1) := by decide +kernel
theorem dL_law_210 : decode cL_law 210 = .ok (.iaload, 1) := by decide +kernel
theorem dL_law_211 : decode cL_law 211 = .ok (.invokevirtual 36, 3) := by decide +kernel
theorem dL_law_214 : decode cL_law 214 = .ok (.if_icmp .eq 268, 3) := by decide +kernel
theorem dL_law_217 : decode cL_law 217 = .ok (.iconst 0, 1) := by decide +kernel
theorem dL_law_218 : decode cL_law 218 = .ok (.ireturn, 1) := by decide +kernel
theorem dL_law_219 : decode cL_law 219 = .ok (.aload_n 1, 1) := by decide +kernel
theorem dL_law_220 : decode cL_law 220 = .ok (.invokevirtual 37, 3) := by decide +kernel
theorem dL_law_223 : decode cL_law 223 = .ok (.aload_n 2, 1) := by decide +kernel
theorem dL_law_224 : decode cL_law 224 = .ok (.invokevirtual 41, 3) := by decide +kernel
theorem dL_law_227 : decode cL_law 227 = .ok (.if_icmp .eq 255, 3) := by decide +kernel
theorem dL_law_230 : decode cL_law 230 = .ok (.iconst 0, 1) := by decide +kernel
theorem dL_law_231 : decode cL_law 231 = .ok (.ireturn, 1) := by decide +kernel
theorem dL_law_232 : decode cL_law 232 = .ok (.aload_n 1, 1) := by decide +kernel
theorem dL_law_233 : decode cL_law 233 = .ok (.aload_n 0, 1) := by decide +kernel
theorem dL_law_234 : decode cL_law 234 = .ok (.iload_n 3, 1) := by decide +kernel
theorem dL_law_235 : decode cL_law 235 = .ok (.iconst 1, 1) := by decide +kernel
theorem dL_law_236 : decode cL_law 236 = .ok (.iadd, 1) := by decide +kernel
theorem dL_law_237 : decode cL_law 237 = .ok (.iaload, 1) := by decide +kernel
theorem dL_law_238 : decode cL_law 238 = .ok (.invokevirtual 42, 3) := by decide +kernel
theorem dL_law_241 : decode cL_law 241 = .ok (.aload_n 2, 1) := by decide +kernel
theorem dL_law_242 : decode cL_law 242 = .ok (.aload_n 0, 1) := by decide +kernel
theorem dL_law_243 : decode cL_law 243 = .ok (.iload_n 3, 1) := by decide +kernel
theorem dL_law_244 : decode cL_law 244 = .ok (.iconst 1, 1) := by decide +kernel
theorem dL_law_245 : decode cL_law 245 = .ok (.iadd, 1) := by decide +kernel
theorem dL_law_246 : decode cL_law 246 = .ok (.iaload, 1) := by decide +kernel
theorem dL_law_247 : decode cL_law 247 = .ok (.invokevirtual 45, 3) := by decide +kernel
theorem dL_law_250 : decode cL_law 250 = .ok (.if_icmp .eq 232, 3) := by decide +kernel
theorem dL_law_253 : decode cL_law 253 = .ok (.iconst 0, 1) := by decide +kernel
theorem dL_law_254 : decode cL_law 254 = .ok (.ireturn, 1) := by decide +kernel
theorem dL_law_255 : decode cL_law 255 = .ok (.aload_n 1, 1) := by decide +kernel
theorem dL_law_256 : decode cL_law 256 = .ok (.aload_n 0, 1) := by decide +kernel
theorem dL_law_257 : decode cL_law 257 = .ok (.iload_n 3, 1) := by decide +kernel
theorem dL_law_258 : decode cL_law 258 = .ok (.iconst 1, 1) := by decide +kernel
theorem dL_law_259 : decode cL_law 259 = .ok (.iadd, 1) := by decide +kernel
theorem dL_law_260 : decode cL_law 260 = .ok (.iaload, 1) := by decide +kernel
theorem dL_law_261 : decode cL_law 261 = .ok (.invokevirtual 46, 3) := by decide +kernel
theorem dL_law_264 : decode cL_law 264 = .ok (.aload_n 2, 1) := by decide +kernel
theorem dL_law_265 : decode cL_law 265 = .ok (.aload_n 0, 1) := by decide +kernel
theorem dL_law_266 : decode cL_law 266 = .ok (.iload_n 3, 1) := by decide +kernel
theorem dL_law_267 : decode cL_law 267 = .ok (.iconst 1, 1) := by decide +kernel
theorem dL_law_268 : decode cL_law 268 = .ok (.iadd, 1) := by decide +kernel
theorem dL_law_269 : decode cL_law 269 = .ok (.iaload, 1) := by decide +kernel
theorem dL_law_270 : decode cL_law 270 = .ok (.invokevirtual 49, 3) := by decide +kernel
theorem dL_law_273 : decode cL_law 273 = .ok (.if_icmp .eq 209, 3) := by decide +kernel
theorem dL_law_276 : decode cL_law 276 = .ok (.iconst 0, 1) := by decide +kernel
theorem dL_law_277 : decode cL_law 277 = .ok (.ireturn, 1) := by decide +kernel
theorem dL_law_278 : decode cL_law 278 = .ok (.aload_n 1, 1) := by decide +kernel
theorem dL_law_279 : decode cL_law 279 = .ok (.aload_n 0, 1) := by decide +kernel
theorem dL_law_280 : decode cL_law 280 = .ok (.iload_n 3, 1) := by decide +kernel
theorem dL_law_281 : decode cL_law 281 = .ok (.iconst 1, 1) := by decide +kernel
theorem dL_law_282 : decode cL_law 282 = .ok (.iadd, 1) := by decide +kernel
theorem dL_law_283 : decode cL_law 283 = .ok (.iaload, 1) := by decide +kernel
theorem dL_law_284 : decode cL_law 284 = .ok (.aload_n 0, 1) := by decide +kernel
theorem dL_law_285 : decode cL_law 285 = .ok (.iload_n 3, 1) := by decide +kernel
theorem dL_law_286 : decode cL_law 286 = .ok (.iconst 2, 1) := by decide +kernel
theorem dL_law_287 : decode cL_law 287 = .ok (.iadd, 1) := by decide +kernel
theorem dL_law_288 : decode cL_law 288 = .ok (.iaload, 1) := by decide +kernel
theorem dL_law_289 : decode cL_law 289 = .ok (.invokevirtual 50, 3) := by decide +kernel
theorem dL_law_292 : decode cL_law 292 = .ok (.aload_n 2, 1) := by decide +kernel
theorem dL_law_293 : decode cL_law 293 = .ok (.aload_n 0, 1) := by decide +kernel
theorem dL_law_294 : decode cL_law 294 = .ok (.iload_n 3, 1) := by decide +kernel
theorem dL_law_295 : decode cL_law 295 = .ok (.iconst 1, 1) := by decide +kernel
theorem dL_law_296 : decode cL_law 296 = .ok (.iadd, 1) := by decide +kernel
theorem dL_law_297 : decode cL_law 297 = .ok (.iaload, 1) := by decide +kernel
theorem dL_law_298 : decode cL_law 298 = .ok (.aload_n 0, 1) := by decide +kernel
theorem dL_law_299 : decode cL_law 299 = .ok (.iload_n 3, 1) := by decide +kernel
theorem dL_law_300 : decode cL_law 300 = .ok (.iconst 2, 1) := by decide +kernel
theorem dL_law_301 : decode cL_law 301 = .ok (.iadd, 1) := by decide +kernel
theorem dL_law_302 : decode cL_law 302 = .ok (.iaload, 1) := by decide +kernel
theorem dL_law_303 : decode cL_law 303 = .ok (.invokevirtual 54, 3) := by decide +kernel
theorem dL_law_306 : decode cL_law 306 = .ok (.if_icmp .eq 176, 3) := by decide +kernel
theorem dL_law_309 : decode cL_law 309 = .ok (.iconst 0, 1) := by decide +kernel
theorem dL_law_310 : decode cL_law 310 = .ok (.ireturn, 1) := by decide +kernel
theorem dL_law_311 : decode cL_law 311 = .ok (.aload_n 1, 1) := by decide +kernel
theorem dL_law_312 : decode cL_law 312 = .ok (.aload_n 0, 1) := by decide +kernel
theorem dL_law_313 : decode cL_law 313 = .ok (.iload_n 3, 1) := by decide +kernel
theorem dL_law_314 : decode cL_law 314 = .ok (.iconst 1, 1) := by decide +kernel
theorem dL_law_315 : decode cL_law 315 = .ok (.iadd, 1) := by decide +kernel
theorem dL_law_316 : decode cL_law 316 = .ok (.iaload, 1) := by decide +kernel
theorem dL_law_317 : decode cL_law 317 = .ok (.aload_n 0, 1) := by decide +kernel
theorem dL_law_318 : decode cL_law 318 = .ok (.iload_n 3, 1) := by decide +kernel
theorem dL_law_319 : decode cL_law 319 = .ok (.iconst 2, 1) := by decide +kernel
theorem dL_law_320 : decode cL_law 320 = .ok (.iadd, 1) := by decide +kernel
theorem dL_law_321 : decode cL_law 321 = .ok (.iaload, 1) := by decide +kernel
theorem dL_law_322 : decode cL_law 322 = .ok (.invokevirtual 55, 3) := by decide +kernel
theorem dL_law_325 : decode cL_law 325 = .ok (.aload_n 2, 1) := by decide +kernel
theorem dL_law_326 : decode cL_law 326 = .ok (.aload_n 0, 1) := by decide +kernel
theorem dL_law_327 : decode cL_law 327 = .ok (.iload_n 3, 1) := by decide +kernel
theorem dL_law_328 : decode cL_law 328 = .ok (.iconst 1, 1) := by decide +kernel
theorem dL_law_329 : decode cL_law 329 = .ok (.iadd, 1) := by decide +kernel
theorem dL_law_330 : decode cL_law 330 = .ok (.iaload, 1) := by decide +kernel
theorem dL_law_331 : decode cL_law 331 = .ok (.aload_n 0, 1) := by decide +kernel
theorem dL_law_332 : decode cL_law 332 = .ok (.iload_n 3, 1) := by decide +kernel
theorem dL_law_333 : decode cL_law 333 = .ok (.iconst 2, 1) := by decide +kernel
theorem dL_law_334 : decode cL_law 334 = .ok (.iadd, 1) := by decide +kernel
theorem dL_law_335 : decode cL_law 335 = .ok (.iaload, 1) := by decide +kernel
theorem dL_law_336 : decode cL_law 336 = .ok (.invokevirtual 58, 3) := by decide +kernel
theorem dL_law_339 : decode cL_law 339 = .ok (.if_icmp .eq 143, 3) := by decide +kernel
theorem dL_law_342 : decode cL_law 342 = .ok (.iconst 0, 1) := by decide +kernel
theorem dL_law_343 : decode cL_law 343 = .ok (.ireturn, 1) := by decide +kernel
theorem dL_law_344 : decode cL_law 344 = .ok (.aload_n 1, 1) := by decide +kernel
theorem dL_law_345 : decode cL_law 345 = .ok (.aload_n 0, 1) := by decide +kernel
theorem dL_law_346 : decode cL_law 346 = .ok (.iload_n 3, 1) := by decide +kernel
theorem dL_law_347 : decode cL_law 347 = .ok (.iconst 1, 1) := by decide +kernel
theorem dL_law_348 : decode cL_law 348 = .ok (.iadd, 1) := by decide +kernel
theorem dL_law_349 : decode cL_law 349 = .ok (.iaload, 1) := by decide +kernel
theorem dL_law_350 : decode cL_law 350 = .ok (.invokevirtual 59, 3) := by decide +kernel
theorem dL_law_353 : decode cL_law 353 = .ok (.aload_n 2, 1) := by decide +kernel
theorem dL_law_354 : decode cL_law 354 = .ok (.aload_n 0, 1) := by decide +kernel
theorem dL_law_355 : decode cL_law 355 = .ok (.iload_n 3, 1) := by decide +kernel
theorem dL_law_356 : decode cL_law 356 = .ok (.iconst 1, 1) := by decide +kernel
theorem dL_law_357 : decode cL_law 357 = .ok (.iadd, 1) := by decide +kernel
theorem dL_law_358 : decode cL_law 358 = .ok (.iaload, 1) := by decide +kernel
theorem dL_law_359 : decode cL_law 359 = .ok (.invokevirtual 62, 3) := by decide +kernel
theorem dL_law_362 : decode cL_law 362 = .ok (.if_icmp .eq 120, 3) := by decide +kernel
theorem dL_law_365 : decode cL_law 365 = .ok (.iconst 0, 1) := by decide +kernel
theorem dL_law_366 : decode cL_law 366 = .ok (.ireturn, 1) := by decide +kernel
theorem dL_law_367 : decode cL_law 367 = .ok (.aload_n 1, 1) := by decide +kernel
theorem dL_law_368 : decode cL_law 368 = .ok (.aload_n 0, 1) := by decide +kernel
theorem dL_law_369 : decode cL_law 369 = .ok (.iload_n 3, 1) := by decide +kernel
theorem dL_law_370 : decode cL_law 370 = .ok (.iconst 1, 1) := by decide +kernel
theorem dL_law_371 : decode cL_law 371 = .ok (.iadd, 1) := by decide +kernel
theorem dL_law_372 : decode cL_law 372 = .ok (.iaload, 1) := by decide +kernel
theorem dL_law_373 : decode cL_law 373 = .ok (.aload_n 0, 1) := by decide +kernel
theorem dL_law_374 : decode cL_law 374 = .ok (.iload_n 3, 1) := by decide +kernel
theorem dL_law_375 : decode cL_law 375 = .ok (.iconst 2, 1) := by decide +kernel
theorem dL_law_376 : decode cL_law 376 = .ok (.iadd, 1) := by decide +kernel
theorem dL_law_377 : decode cL_law 377 = .ok (.iaload, 1) := by decide +kernel
theorem dL_law_378 : decode cL_law 378 = .ok (.invokevirtual 63, 3) := by decide +kernel
theorem dL_law_381 : decode cL_law 381 = .ok (.aload_n 2, 1) := by decide +kernel
theorem dL_law_382 : decode cL_law 382 = .ok (.aload_n 0, 1) := by decide +kernel
theorem dL_law_383 : decode cL_law 383 = .ok (.iload_n 3, 1) := by decide +kernel
theorem dL_law_384 : decode cL_law 384 = .ok (.iconst 1, 1) := by decide +kernel
theorem dL_law_385 : decode cL_law 385 = .ok (.iadd, 1) := by decide +kernel
theorem dL_law_386 : decode cL_law 386 = .ok (.iaload, 1) := by decide +kernel
theorem dL_law_387 : decode cL_law 387 = .ok (.aload_n 0, 1) := by decide +kernel
theorem dL_law_388 : decode cL_law 388 = .ok (.iload_n 3, 1) := by decide +kernel
theorem dL_law_389 : decode cL_law 389 = .ok (.iconst 2, 1) := by decide +kernel
theorem dL_law_390 : decode cL_law 390 = .ok (.iadd, 1) := by decide +kernel
theorem dL_law_391 : decode cL_law 391 = .ok (.iaload, 1) := by decide +kernel
theorem dL_law_392 : decode cL_law 392 = .ok (.invokevirtual 66, 3) := by decide +kernel
theorem dL_law_395 : decode cL_law 395 = .ok (.if_icmp .eq 87, 3) := by decide +kernel
theorem dL_law_398 : decode cL_law 398 = .ok (.iconst 0, 1) := by decide +kernel
theorem dL_law_399 : decode cL_law 399 = .ok (.ireturn, 1) := by decide +kernel
theorem dL_law_400 : decode cL_law 400 = .ok (.aload_n 1, 1) := by decide +kernel
theorem dL_law_401 : decode cL_law 401 = .ok (.aload_n 0, 1) := by decide +kernel
theorem dL_law_402 : decode cL_law 402 = .ok (.iload_n 3, 1) := by decide +kernel
theorem dL_law_403 : decode cL_law 403 = .ok (.iconst 1, 1) := by decide +kernel
theorem dL_law_404 : decode cL_law 404 = .ok (.iadd, 1) := by decide +kernel
theorem dL_law_405 : decode cL_law 405 = .ok (.iaload, 1) := by decide +kernel
theorem dL_law_406 : decode cL_law 406 = .ok (.aload_n 0, 1) := by decide +kernel
theorem dL_law_407 : decode cL_law 407 = .ok (.iload_n 3, 1) := by decide +kernel
theorem dL_law_408 : decode cL_law 408 = .ok (.iconst 2, 1) := by decide +kernel
theorem dL_law_409 : decode cL_law 409 = .ok (.iadd, 1) := by decide +kernel
theorem dL_law_410 : decode cL_law 410 = .ok (.iaload, 1) := by decide +kernel
theorem dL_law_411 : decode cL_law 411 = .ok (.aload_n 0, 1) := by decide +kernel
theorem dL_law_412 : decode cL_law 412 = .ok (.iload_n 3, 1) := by decide +kernel
theorem dL_law_413 : decode cL_law 413 = .ok (.iconst 3, 1) := by decide +kernel
theorem dL_law_414 : decode cL_law 414 = .ok (.iadd, 1) := by decide +kernel
theorem dL_law_415 : decode cL_law 415 = .ok (.iaload, 1) := by decide +kernel
theorem dL_law_416 : decode cL_law 416 = .ok (.invokevirtual 67, 3) := by decide +kernel
theorem dL_law_419 : decode cL_law 419 = .ok (.aload_n 2, 1) := by decide +kernel
theorem dL_law_420 : decode cL_law 420 = .ok (.aload_n 0, 1) := by decide +kernel
theorem dL_law_421 : decode cL_law 421 = .ok (.iload_n 3, 1) := by decide +kernel
theorem dL_law_422 : decode cL_law 422 = .ok (.iconst 1, 1) := by decide +kernel
theorem dL_law_423 : decode cL_law 423 = .ok (.iadd, 1) := by decide +kernel
theorem dL_law_424 : decode cL_law 424 = .ok (.iaload, 1) := by decide +kernel
theorem dL_law_425 : decode cL_law 425 = .ok (.aload_n 0, 1) := by decide +kernel
theorem dL_law_426 : decode cL_law 426 = .ok (.iload_n 3, 1) := by decide +kernel
theorem dL_law_427 : decode cL_law 427 = .ok (.iconst 2, 1) := by decide +kernel
theorem dL_law_428 : decode cL_law 428 = .ok (.iadd, 1) := by decide +kernel
theorem dL_law_429 : decode cL_law 429 = .ok (.iaload, 1) := by decide +kernel
theorem dL_law_430 : decode cL_law 430 = .ok (.aload_n 0, 1) := by decide +kernel
theorem dL_law_431 : decode cL_law 431 = .ok (.iload_n 3, 1) := by decide +kernel
theorem dL_law_432 : decode cL_law 432 = .ok (.iconst 3, 1) := by decide +kernel
theorem dL_law_433 : decode cL_law 433 = .ok (.iadd, 1) := by decide +kernel
theorem dL_law_434 : decode cL_law 434 = .ok (.iaload, 1) := by decide +kernel
theorem dL_law_435 : decode cL_law 435 = .ok (.invokevirtual 71, 3) := by decide +kernel
theorem dL_law_438 : decode cL_law 438 = .ok (.if_icmp .eq 44, 3) := by decide +kernel
theorem dL_law_441 : decode cL_law 441 = .ok (.iconst 0, 1) := by decide +kernel
theorem dL_law_442 : decode cL_law 442 = .ok (.ireturn, 1) := by decide +kernel
theorem dL_law_443 : decode cL_law 443 = .ok (.aload_n 1, 1) := by decide +kernel
theorem dL_law_444 : decode cL_law 444 = .ok (.invokevirtual 72, 3) := by decide +kernel
theorem dL_law_447 : decode cL_law 447 = .ok (.aload_n 2, 1) := by decide +kernel
theorem dL_law_448 : decode cL_law 448 = .ok (.invokevirtual 75, 3) := by decide +kernel
theorem dL_law_451 : decode cL_law 451 = .ok (.if_icmp .eq 31, 3) := by decide +kernel
theorem dL_law_454 : decode cL_law 454 = .ok (.iconst 0, 1) := by decide +kernel
theorem dL_law_455 : decode cL_law 455 = .ok (.ireturn, 1) := by decide +kernel
theorem dL_law_456 : decode cL_law 456 = .ok (.aload_n 1, 1) := by decide +kernel
theorem dL_law_457 : decode cL_law 457 = .ok (.invokevirtual 76, 3) := by decide +kernel
theorem dL_law_460 : decode cL_law 460 = .ok (.aload_n 2, 1) := by decide +kernel
theorem dL_law_461 : decode cL_law 461 = .ok (.invokevirtual 79, 3) := by decide +kernel
theorem dL_law_464 : decode cL_law 464 = .ok (.if_icmp .eq 18, 3) := by decide +kernel
theorem dL_law_467 : decode cL_law 467 = .ok (.iconst 0, 1) := by decide +kernel
theorem dL_law_468 : decode cL_law 468 = .ok (.ireturn, 1) := by decide +kernel
theorem dL_law_469 : decode cL_law 469 = .ok (.aload_n 1, 1) := by decide +kernel
theorem dL_law_470 : decode cL_law 470 = .ok (.invokevirtual 80, 3) := by decide +kernel
theorem dL_law_473 : decode cL_law 473 = .ok (.aload_n 2, 1) := by decide +kernel
theorem dL_law_474 : decode cL_law 474 = .ok (.invokevirtual 83, 3) := by decide +kernel
theorem dL_law_477 : decode cL_law 477 = .ok (.if_icmp .eq 5, 3) := by decide +kernel
theorem dL_law_480 : decode cL_law 480 = .ok (.iconst 0, 1) := by decide +kernel
theorem dL_law_481 : decode cL_law 481 = .ok (.ireturn, 1) := by decide +kernel
theorem dL_law_482 : decode cL_law 482 = .ok (.iinc 3 4, 3) := by decide +kernel
theorem dL_law_485 : decode cL_law 485 = .ok (.goto (-467), 3) := by decide +kernel
theorem dL_law_488 : decode cL_law 488 = .ok (.iconst 1, 1) := by decide +kernel
theorem dL_law_489 : decode cL_law 489 = .ok (.ireturn, 1) := by decide +kernel
