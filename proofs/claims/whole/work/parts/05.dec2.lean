theorem dX7_isSide_71 : decode cX7_isSide 71 = .ok (.if_icmp .ne 27, 3) := by decide +kernel
theorem dX7_isSide_74 : decode cX7_isSide 74 = .ok (.lload_n 2, 1) := by decide +kernel
theorem dX7_isSide_75 : decode cX7_isSide 75 = .ok (.iload 6, 2) := by decide +kernel
theorem dX7_isSide_77 : decode cX7_isSide 77 = .ok (.invokestatic 83, 3) := by decide +kernel
theorem dX7_isSide_80 : decode cX7_isSide 80 = .ok (.iconst 2, 1) := by decide +kernel
theorem dX7_isSide_81 : decode cX7_isSide 81 = .ok (.if_icmp .ne 17, 3) := by decide +kernel
theorem dX7_isSide_84 : decode cX7_isSide 84 = .ok (.lload_n 2, 1) := by decide +kernel
theorem dX7_isSide_85 : decode cX7_isSide 85 = .ok (.iload 7, 2) := by decide +kernel
theorem dX7_isSide_87 : decode cX7_isSide 87 = .ok (.invokestatic 83, 3) := by decide +kernel
theorem dX7_isSide_90 : decode cX7_isSide 90 = .ok (.iconst 3, 1) := by decide +kernel
theorem dX7_isSide_91 : decode cX7_isSide 91 = .ok (.if_icmp .ne 7, 3) := by decide +kernel
theorem dX7_isSide_94 : decode cX7_isSide 94 = .ok (.iconst 1, 1) := by decide +kernel
theorem dX7_isSide_95 : decode cX7_isSide 95 = .ok (.goto 4, 3) := by decide +kernel
theorem dX7_isSide_98 : decode cX7_isSide 98 = .ok (.iconst 0, 1) := by decide +kernel
theorem dX7_isSide_99 : decode cX7_isSide 99 = .ok (.ireturn, 1) := by decide +kernel
theorem dX7_isType_0 : decode cX7_isType 0 = .ok (.lload_n 0, 1) := by decide +kernel
theorem dX7_isType_1 : decode cX7_isType 1 = .ok (.bipush 48, 2) := by decide +kernel
theorem dX7_isType_3 : decode cX7_isType 3 = .ok (.lshr, 1) := by decide +kernel
theorem dX7_isType_4 : decode cX7_isType 4 = .ok (.lconst 0, 1) := by decide +kernel
theorem dX7_isType_5 : decode cX7_isType 5 = .ok (.lcmp, 1) := by decide +kernel
theorem dX7_isType_6 : decode cX7_isType 6 = .ok (.ifCond .ne 7, 3) := by decide +kernel
theorem dX7_isType_9 : decode cX7_isType 9 = .ok (.iconst 1, 1) := by decide +kernel
theorem dX7_isType_10 : decode cX7_isType 10 = .ok (.goto 4, 3) := by decide +kernel
theorem dX7_isType_13 : decode cX7_isType 13 = .ok (.iconst 0, 1) := by decide +kernel
theorem dX7_isType_14 : decode cX7_isType 14 = .ok (.istore 6, 2) := by decide +kernel
theorem dX7_isType_16 : decode cX7_isType 16 = .ok (.iconst 0, 1) := by decide +kernel
theorem dX7_isType_17 : decode cX7_isType 17 = .ok (.istore 7, 2) := by decide +kernel
theorem dX7_isType_19 : decode cX7_isType 19 = .ok (.iconst 0, 1) := by decide +kernel
theorem dX7_isType_20 : decode cX7_isType 20 = .ok (.istore 8, 2) := by decide +kernel
theorem dX7_isType_22 : decode cX7_isType 22 = .ok (.iload 8, 2) := by decide +kernel
theorem dX7_isType_24 : decode cX7_isType 24 = .ok (.bipush 8, 2) := by decide +kernel
theorem dX7_isType_26 : decode cX7_isType 26 = .ok (.if_icmp .ge 60, 3) := by decide +kernel
theorem dX7_isType_29 : decode cX7_isType 29 = .ok (.iload 6, 2) := by decide +kernel
theorem dX7_isType_31 : decode cX7_isType 31 = .ok (.ifCond .eq 25, 3) := by decide +kernel
theorem dX7_isType_34 : decode cX7_isType 34 = .ok (.lload_n 2, 1) := by decide +kernel
theorem dX7_isType_35 : decode cX7_isType 35 = .ok (.bipush 8, 2) := by decide +kernel
theorem dX7_isType_37 : decode cX7_isType 37 = .ok (.iload 8, 2) := by decide +kernel
theorem dX7_isType_39 : decode cX7_isType 39 = .ok (.imul, 1) := by decide +kernel
theorem dX7_isType_40 : decode cX7_isType 40 = .ok (.lshr, 1) := by decide +kernel
theorem dX7_isType_41 : decode cX7_isType 41 = .ok (.ldc2_w 75, 3) := by decide +kernel
theorem dX7_isType_44 : decode cX7_isType 44 = .ok (.land, 1) := by decide +kernel
theorem dX7_isType_45 : decode cX7_isType 45 = .ok (.l2i, 1) := by decide +kernel
theorem dX7_isType_46 : decode cX7_isType 46 = .ok (.invokestatic 86, 3) := by decide +kernel
theorem dX7_isType_49 : decode cX7_isType 49 = .ok (.ifCond .eq 7, 3) := by decide +kernel
theorem dX7_isType_52 : decode cX7_isType 52 = .ok (.iconst 1, 1) := by decide +kernel
theorem dX7_isType_53 : decode cX7_isType 53 = .ok (.goto 4, 3) := by decide +kernel
theorem dX7_isType_56 : decode cX7_isType 56 = .ok (.iconst 0, 1) := by decide +kernel
theorem dX7_isType_57 : decode cX7_isType 57 = .ok (.istore 6, 2) := by decide +kernel
theorem dX7_isType_59 : decode cX7_isType 59 = .ok (.lload_n 2, 1) := by decide +kernel
theorem dX7_isType_60 : decode cX7_isType 60 = .ok (.iload 8, 2) := by decide +kernel
theorem dX7_isType_62 : decode cX7_isType 62 = .ok (.invokestatic 83, 3) := by decide +kernel
theorem dX7_isType_65 : decode cX7_isType 65 = .ok (.iconst 4, 1) := by decide +kernel
theorem dX7_isType_66 : decode cX7_isType 66 = .ok (.if_icmp .ne 10, 3) := by decide +kernel
theorem dX7_isType_69 : decode cX7_isType 69 = .ok (.iload 7, 2) := by decide +kernel
theorem dX7_isType_71 : decode cX7_isType 71 = .ok (.iconst 1, 1) := by decide +kernel
theorem dX7_isType_72 : decode cX7_isType 72 = .ok (.iadd, 1) := by decide +kernel
theorem dX7_isType_73 : decode cX7_isType 73 = .ok (.goto 5, 3) := by decide +kernel
theorem dX7_isType_76 : decode cX7_isType 76 = .ok (.iload 7, 2) := by decide +kernel
theorem dX7_isType_78 : decode cX7_isType 78 = .ok (.istore 7, 2) := by decide +kernel
theorem dX7_isType_80 : decode cX7_isType 80 = .ok (.iinc 8 1, 3) := by decide +kernel
theorem dX7_isType_83 : decode cX7_isType 83 = .ok (.goto (-61), 3) := by decide +kernel
theorem dX7_isType_86 : decode cX7_isType 86 = .ok (.iconst 0, 1) := by decide +kernel
theorem dX7_isType_87 : decode cX7_isType 87 = .ok (.istore 8, 2) := by decide +kernel
theorem dX7_isType_89 : decode cX7_isType 89 = .ok (.iload 8, 2) := by decide +kernel
theorem dX7_isType_91 : decode cX7_isType 91 = .ok (.bipush 12, 2) := by decide +kernel
theorem dX7_isType_93 : decode cX7_isType 93 = .ok (.if_icmp .ge 55, 3) := by decide +kernel
theorem dX7_isType_96 : decode cX7_isType 96 = .ok (.iload 6, 2) := by decide +kernel
theorem dX7_isType_98 : decode cX7_isType 98 = .ok (.ifCond .eq 50, 3) := by decide +kernel
theorem dX7_isType_101 : decode cX7_isType 101 = .ok (.lload_n 0, 1) := by decide +kernel
theorem dX7_isType_102 : decode cX7_isType 102 = .ok (.iload 8, 2) := by decide +kernel
theorem dX7_isType_104 : decode cX7_isType 104 = .ok (.invokestatic 79, 3) := by decide +kernel
theorem dX7_isType_107 : decode cX7_isType 107 = .ok (.istore 9, 2) := by decide +kernel
theorem dX7_isType_109 : decode cX7_isType 109 = .ok (.iload 9, 2) := by decide +kernel
theorem dX7_isType_111 : decode cX7_isType 111 = .ok (.bipush 8, 2) := by decide +kernel
theorem dX7_isType_113 : decode cX7_isType 113 = .ok (.if_icmp .ge 26, 3) := by decide +kernel
theorem dX7_isType_116 : decode cX7_isType 116 = .ok (.lload_n 2, 1) := by decide +kernel
theorem dX7_isType_117 : decode cX7_isType 117 = .ok (.iload 9, 2) := by decide +kernel
theorem dX7_isType_119 : decode cX7_isType 119 = .ok (.invokestatic 83, 3) := by decide +kernel
theorem dX7_isType_122 : decode cX7_isType 122 = .ok (.ifCond .le 17, 3) := by decide +kernel
theorem dX7_isType_125 : decode cX7_isType 125 = .ok (.lload_n 2, 1) := by decide +kernel
theorem dX7_isType_126 : decode cX7_isType 126 = .ok (.iload 9, 2) := by decide +kernel
theorem dX7_isType_128 : decode cX7_isType 128 = .ok (.invokestatic 83, 3) := by decide +kernel
theorem dX7_isType_131 : decode cX7_isType 131 = .ok (.iconst 4, 1) := by decide +kernel
theorem dX7_isType_132 : decode cX7_isType 132 = .ok (.if_icmp .ge 7, 3) := by decide +kernel
theorem dX7_isType_135 : decode cX7_isType 135 = .ok (.iconst 1, 1) := by decide +kernel
theorem dX7_isType_136 : decode cX7_isType 136 = .ok (.goto 4, 3) := by decide +kernel
theorem dX7_isType_139 : decode cX7_isType 139 = .ok (.iconst 0, 1) := by decide +kernel
theorem dX7_isType_140 : decode cX7_isType 140 = .ok (.istore 6, 2) := by decide +kernel
theorem dX7_isType_142 : decode cX7_isType 142 = .ok (.iinc 8 1, 3) := by decide +kernel
theorem dX7_isType_145 : decode cX7_isType 145 = .ok (.goto (-56), 3) := by decide +kernel
theorem dX7_isType_148 : decode cX7_isType 148 = .ok (.iconst 0, 1) := by decide +kernel
theorem dX7_isType_149 : decode cX7_isType 149 = .ok (.istore 8, 2) := by decide +kernel
theorem dX7_isType_151 : decode cX7_isType 151 = .ok (.iload 8, 2) := by decide +kernel
theorem dX7_isType_153 : decode cX7_isType 153 = .ok (.bipush 12, 2) := by decide +kernel
theorem dX7_isType_155 : decode cX7_isType 155 = .ok (.if_icmp .ge 23, 3) := by decide +kernel
theorem dX7_isType_158 : decode cX7_isType 158 = .ok (.iload 6, 2) := by decide +kernel
theorem dX7_isType_160 : decode cX7_isType 160 = .ok (.ifCond .eq 18, 3) := by decide +kernel
theorem dX7_isType_163 : decode cX7_isType 163 = .ok (.lload_n 0, 1) := by decide +kernel
theorem dX7_isType_164 : decode cX7_isType 164 = .ok (.lload_n 2, 1) := by decide +kernel
theorem dX7_isType_165 : decode cX7_isType 165 = .ok (.iload 8, 2) := by decide +kernel
theorem dX7_isType_167 : decode cX7_isType 167 = .ok (.invokestatic 90, 3) := by decide +kernel
theorem dX7_isType_170 : decode cX7_isType 170 = .ok (.istore 6, 2) := by decide +kernel
theorem dX7_isType_172 : decode cX7_isType 172 = .ok (.iinc 8 3, 3) := by decide +kernel
theorem dX7_isType_175 : decode cX7_isType 175 = .ok (.goto (-24), 3) := by decide +kernel
theorem dX7_isType_178 : decode cX7_isType 178 = .ok (.iconst 0, 1) := by decide +kernel
theorem dX7_isType_179 : decode cX7_isType 179 = .ok (.istore 8, 2) := by decide +kernel
theorem dX7_isType_181 : decode cX7_isType 181 = .ok (.iload 8, 2) := by decide +kernel
theorem dX7_isType_183 : decode cX7_isType 183 = .ok (.bipush 8, 2) := by decide +kernel
theorem dX7_isType_185 : decode cX7_isType 185 = .ok (.if_icmp .ge 165, 3) := by decide +kernel
theorem dX7_isType_188 : decode cX7_isType 188 = .ok (.iload 6, 2) := by decide +kernel
theorem dX7_isType_190 : decode cX7_isType 190 = .ok (.ifCond .eq 160, 3) := by decide +kernel
theorem dX7_isType_193 : decode cX7_isType 193 = .ok (.lload_n 2, 1) := by decide +kernel
theorem dX7_isType_194 : decode cX7_isType 194 = .ok (.iload 8, 2) := by decide +kernel
theorem dX7_isType_196 : decode cX7_isType 196 = .ok (.invokestatic 83, 3) := by decide +kernel
theorem dX7_isType_199 : decode cX7_isType 199 = .ok (.istore 9, 2) := by decide +kernel
theorem dX7_isType_201 : decode cX7_isType 201 = .ok (.iload 9, 2) := by decide +kernel
theorem dX7_isType_203 : decode cX7_isType 203 = .ok (.ifCond .eq 9, 3) := by decide +kernel
theorem dX7_isType_206 : decode cX7_isType 206 = .ok (.iload 9, 2) := by decide +kernel
theorem dX7_isType_208 : decode cX7_isType 208 = .ok (.iconst 4, 1) := by decide +kernel
theorem dX7_isType_209 : decode cX7_isType 209 = .ok (.if_icmp .ne 7, 3) := by decide +kernel
theorem dX7_isType_212 : decode cX7_isType 212 = .ok (.iconst 1, 1) := by decide +kernel
theorem dX7_isType_213 : decode cX7_isType 213 = .ok (.goto 4, 3) := by decide +kernel
theorem dX7_isType_216 : decode cX7_isType 216 = .ok (.iconst 0, 1) := by decide +kernel
theorem dX7_isType_217 : decode cX7_isType 217 = .ok (.istore 10, 2) := by decide +kernel
theorem dX7_isType_219 : decode cX7_isType 219 = .ok (.iconst 0, 1) := by decide +kernel
theorem dX7_isType_220 : decode cX7_isType 220 = .ok (.istore 11, 2) := by decide +kernel
theorem dX7_isType_222 : decode cX7_isType 222 = .ok (.iload 11, 2) := by decide +kernel
theorem dX7_isType_224 : decode cX7_isType 224 = .ok (.bipush 12, 2) := by decide +kernel
theorem dX7_isType_226 : decode cX7_isType 226 = .ok (.if_icmp .ge 32, 3) := by decide +kernel
theorem dX7_isType_229 : decode cX7_isType 229 = .ok (.iload 10, 2) := by decide +kernel
theorem dX7_isType_231 : decode cX7_isType 231 = .ok (.ifCond .ne 14, 3) := by decide +kernel
theorem dX7_isType_234 : decode cX7_isType 234 = .ok (.lload_n 0, 1) := by decide +kernel
theorem dX7_isType_235 : decode cX7_isType 235 = .ok (.iload 11, 2) := by decide +kernel
theorem dX7_isType_237 : decode cX7_isType 237 = .ok (.invokestatic 79, 3) := by decide +kernel
theorem dX7_isType_240 : decode cX7_isType 240 = .ok (.iload 8, 2) := by decide +kernel
theorem dX7_isType_242 : decode cX7_isType 242 = .ok (.if_icmp .ne 7, 3) := by decide +kernel
theorem dX7_isType_245 : decode cX7_isType 245 = .ok (.iconst 1, 1) := by decide +kernel
theorem dX7_isType_246 : decode cX7_isType 246 = .ok (.goto 4, 3) := by decide +kernel
theorem dX7_isType_249 : decode cX7_isType 249 = .ok (.iconst 0, 1) := by decide +kernel
theorem dX7_isType_250 : decode cX7_isType 250 = .ok (.istore 10, 2) := by decide +kernel
theorem dX7_isType_252 : decode cX7_isType 252 = .ok (.iinc 11 1, 3) := by decide +kernel
theorem dX7_isType_255 : decode cX7_isType 255 = .ok (.goto (-33), 3) := by decide +kernel
theorem dX7_isType_258 : decode cX7_isType 258 = .ok (.lload 4, 2) := by decide +kernel
theorem dX7_isType_260 : decode cX7_isType 260 = .ok (.bipush 8, 2) := by decide +kernel
theorem dX7_isType_262 : decode cX7_isType 262 = .ok (.iload 8, 2) := by decide +kernel
theorem dX7_isType_264 : decode cX7_isType 264 = .ok (.imul, 1) := by decide +kernel
theorem dX7_isType_265 : decode cX7_isType 265 = .ok (.lshr, 1) := by decide +kernel
theorem dX7_isType_266 : decode cX7_isType 266 = .ok (.ldc2_w 75, 3) := by decide +kernel
theorem dX7_isType_269 : decode cX7_isType 269 = .ok (.land, 1) := by decide +kernel
theorem dX7_isType_270 : decode cX7_isType 270 = .ok (.l2i, 1) := by decide +kernel
theorem dX7_isType_271 : decode cX7_isType 271 = .ok (.istore 11, 2) := by decide +kernel
theorem dX7_isType_273 : decode cX7_isType 273 = .ok (.iload 10, 2) := by decide +kernel
theorem dX7_isType_275 : decode cX7_isType 275 = .ok (.ifCond .eq 18, 3) := by decide +kernel
theorem dX7_isType_278 : decode cX7_isType 278 = .ok (.iload 11, 2) := by decide +kernel
theorem dX7_isType_280 : decode cX7_isType 280 = .ok (.ifCond .eq 9, 3) := by decide +kernel
theorem dX7_isType_283 : decode cX7_isType 283 = .ok (.iload 9, 2) := by decide +kernel
theorem dX7_isType_285 : decode cX7_isType 285 = .ok (.iconst 3, 1) := by decide +kernel
theorem dX7_isType_286 : decode cX7_isType 286 = .ok (.if_icmp .ne 7, 3) := by decide +kernel
theorem dX7_isType_289 : decode cX7_isType 289 = .ok (.iconst 1, 1) := by decide +kernel
theorem dX7_isType_290 : decode cX7_isType 290 = .ok (.goto 4, 3) := by decide +kernel
theorem dX7_isType_293 : decode cX7_isType 293 = .ok (.iconst 0, 1) := by decide +kernel
theorem dX7_isType_294 : decode cX7_isType 294 = .ok (.istore 6, 2) := by decide +kernel
theorem dX7_isType_296 : decode cX7_isType 296 = .ok (.iconst 0, 1) := by decide +kernel
theorem dX7_isType_297 : decode cX7_isType 297 = .ok (.istore 12, 2) := by decide +kernel
theorem dX7_isType_299 : decode cX7_isType 299 = .ok (.iload 12, 2) := by decide +kernel
theorem dX7_isType_301 : decode cX7_isType 301 = .ok (.bipush 8, 2) := by decide +kernel
theorem dX7_isType_303 : decode cX7_isType 303 = .ok (.if_icmp .ge 41, 3) := by decide +kernel
theorem dX7_isType_306 : decode cX7_isType 306 = .ok (.iload 6, 2) := by decide +kernel
theorem dX7_isType_308 : decode cX7_isType 308 = .ok (.ifCond .eq 27, 3) := by decide +kernel
theorem dX7_isType_311 : decode cX7_isType 311 = .ok (.iload 11, 2) := by decide +kernel
theorem dX7_isType_313 : decode cX7_isType 313 = .ok (.iload 12, 2) := by decide +kernel
theorem dX7_isType_315 : decode cX7_isType 315 = .ok (.ishr, 1) := by decide +kernel
theorem dX7_isType_316 : decode cX7_isType 316 = .ok (.iconst 1, 1) := by decide +kernel
theorem dX7_isType_317 : decode cX7_isType 317 = .ok (.iand, 1) := by decide +kernel
theorem dX7_isType_318 : decode cX7_isType 318 = .ok (.ifCond .eq 13, 3) := by decide +kernel
theorem dX7_isType_321 : decode cX7_isType 321 = .ok (.lload_n 2, 1) := by decide +kernel
theorem dX7_isType_322 : decode cX7_isType 322 = .ok (.iload 12, 2) := by decide +kernel
theorem dX7_isType_324 : decode cX7_isType 324 = .ok (.invokestatic 83, 3) := by decide +kernel
theorem dX7_isType_327 : decode cX7_isType 327 = .ok (.iconst 1, 1) := by decide +kernel
theorem dX7_isType_328 : decode cX7_isType 328 = .ok (.if_icmp .ne 7, 3) := by decide +kernel
theorem dX7_isType_331 : decode cX7_isType 331 = .ok (.iconst 1, 1) := by decide +kernel
theorem dX7_isType_332 : decode cX7_isType 332 = .ok (.goto 4, 3) := by decide +kernel
theorem dX7_isType_335 : decode cX7_isType 335 = .ok (.iconst 0, 1) := by decide +kernel
theorem dX7_isType_336 : decode cX7_isType 336 = .ok (.istore 6, 2) := by decide +kernel
theorem dX7_isType_338 : decode cX7_isType 338 = .ok (.iinc 12 1, 3) := by decide +kernel
theorem dX7_isType_341 : decode cX7_isType 341 = .ok (.goto (-42), 3) := by decide +kernel
theorem dX7_isType_344 : decode cX7_isType 344 = .ok (.iinc 8 1, 3) := by decide +kernel
theorem dX7_isType_347 : decode cX7_isType 347 = .ok (.goto (-166), 3) := by decide +kernel
theorem dX7_isType_350 : decode cX7_isType 350 = .ok (.iload 6, 2) := by decide +kernel
theorem dX7_isType_352 : decode cX7_isType 352 = .ok (.ifCond .eq 13, 3) := by decide +kernel
theorem dX7_isType_355 : decode cX7_isType 355 = .ok (.iload 7, 2) := by decide +kernel
theorem dX7_isType_357 : decode cX7_isType 357 = .ok (.iconst 2, 1) := by decide +kernel
theorem dX7_isType_358 : decode cX7_isType 358 = .ok (.if_icmp .ge 7, 3) := by decide +kernel
theorem dX7_isType_361 : decode cX7_isType 361 = .ok (.iconst 1, 1) := by decide +kernel
theorem dX7_isType_362 : decode cX7_isType 362 = .ok (.goto 4, 3) := by decide +kernel
theorem dX7_isType_365 : decode cX7_isType 365 = .ok (.iconst 0, 1) := by decide +kernel
theorem dX7_isType_366 : decode cX7_isType 366 = .ok (.ireturn, 1) := by decide +kernel
theorem dX7_type_0 : decode cX7_type 0 = .ok (.lload_n 1, 1) := by decide +kernel
theorem dX7_type_1 : decode cX7_type 1 = .ok (.lload_n 3, 1) := by decide +kernel
theorem dX7_type_2 : decode cX7_type 2 = .ok (.lload 5, 2) := by decide +kernel
theorem dX7_type_4 : decode cX7_type 4 = .ok (.invokestatic 94, 3) := by decide +kernel
theorem dX7_type_7 : decode cX7_type 7 = .ok (.ifCond .ne 6, 3) := by decide +kernel
theorem dX7_type_10 : decode cX7_type 10 = .ok (.bipush (-2), 2) := by decide +kernel
theorem dX7_type_12 : decode cX7_type 12 = .ok (.ireturn, 1) := by decide +kernel
theorem dX7_type_13 : decode cX7_type 13 = .ok (.aload_n 0, 1) := by decide +kernel
theorem dX7_type_14 : decode cX7_type 14 = .ok (.getfield 98, 3) := by decide +kernel
theorem dX7_type_17 : decode cX7_type 17 = .ok (.bipush 12, 2) := by decide +kernel
theorem dX7_type_19 : decode cX7_type 19 = .ok (.if_icmp .eq 10, 3) := by decide +kernel
theorem dX7_type_22 : decode cX7_type 22 = .ok (.aload_n 0, 1) := by decide +kernel
theorem dX7_type_23 : decode cX7_type 23 = .ok (.getfield 101, 3) := by decide +kernel
theorem dX7_type_26 : decode cX7_type 26 = .ok (.ifCond .eq 6, 3) := by decide +kernel
theorem dX7_type_29 : decode cX7_type 29 = .ok (.bipush (-3), 2) := by decide +kernel
theorem dX7_type_31 : decode cX7_type 31 = .ok (.ireturn, 1) := by decide +kernel
theorem dX7_type_32 : decode cX7_type 32 = .ok (.iconst 0, 1) := by decide +kernel
theorem dX7_type_33 : decode cX7_type 33 = .ok (.istore 7, 2) := by decide +kernel
theorem dX7_type_35 : decode cX7_type 35 = .ok (.iload 7, 2) := by decide +kernel
theorem dX7_type_37 : decode cX7_type 37 = .ok (.bipush 12, 2) := by decide +kernel
theorem dX7_type_39 : decode cX7_type 39 = .ok (.if_icmp .ge 30, 3) := by decide +kernel
theorem dX7_type_42 : decode cX7_type 42 = .ok (.aload_n 0, 1) := by decide +kernel
theorem dX7_type_43 : decode cX7_type 43 = .ok (.getfield 7, 3) := by decide +kernel
theorem dX7_type_46 : decode cX7_type 46 = .ok (.bipush 12, 2) := by decide +kernel
theorem dX7_type_48 : decode cX7_type 48 = .ok (.aload_n 0, 1) := by decide +kernel
theorem dX7_type_49 : decode cX7_type 49 = .ok (.getfield 98, 3) := by decide +kernel
theorem dX7_type_52 : decode cX7_type 52 = .ok (.imul, 1) := by decide +kernel
theorem dX7_type_53 : decode cX7_type 53 = .ok (.iload 7, 2) := by decide +kernel
theorem dX7_type_55 : decode cX7_type 55 = .ok (.iadd, 1) := by decide +kernel
theorem dX7_type_56 : decode cX7_type 56 = .ok (.lload_n 1, 1) := by decide +kernel
theorem dX7_type_57 : decode cX7_type 57 = .ok (.iload 7, 2) := by decide +kernel
theorem dX7_type_59 : decode cX7_type 59 = .ok (.invokestatic 79, 3) := by decide +kernel
theorem dX7_type_62 : decode cX7_type 62 = .ok (.iastore, 1) := by decide +kernel
theorem dX7_type_63 : decode cX7_type 63 = .ok (.iinc 7 1, 3) := by decide +kernel
theorem dX7_type_66 : decode cX7_type 66 = .ok (.goto (-31), 3) := by decide +kernel
theorem dX7_type_69 : decode cX7_type 69 = .ok (.iconst 0, 1) := by decide +kernel
theorem dX7_type_70 : decode cX7_type 70 = .ok (.istore 7, 2) := by decide +kernel
theorem dX7_type_72 : decode cX7_type 72 = .ok (.iload 7, 2) := by decide +kernel
theorem dX7_type_74 : decode cX7_type 74 = .ok (.bipush 8, 2) := by decide +kernel
theorem dX7_type_76 : decode cX7_type 76 = .ok (.if_icmp .ge 96, 3) := by decide +kernel
theorem dX7_type_79 : decode cX7_type 79 = .ok (.aload_n 0, 1) := by decide +kernel
theorem dX7_type_80 : decode cX7_type 80 = .ok (.getfield 13, 3) := by decide +kernel
theorem dX7_type_83 : decode cX7_type 83 = .ok (.bipush 8, 2) := by decide +kernel
theorem dX7_type_85 : decode cX7_type 85 = .ok (.aload_n 0, 1) := by decide +kernel
theorem dX7_type_86 : decode cX7_type 86 = .ok (.getfield 98, 3) := by decide +kernel
theorem dX7_type_89 : decode cX7_type 89 = .ok (.imul, 1) := by decide +kernel
theorem dX7_type_90 : decode cX7_type 90 = .ok (.iload 7, 2) := by decide +kernel
theorem dX7_type_92 : decode cX7_type 92 = .ok (.iadd, 1) := by decide +kernel
theorem dX7_type_93 : decode cX7_type 93 = .ok (.lload_n 3, 1) := by decide +kernel
theorem dX7_type_94 : decode cX7_type 94 = .ok (.iload 7, 2) := by decide +kernel
theorem dX7_type_96 : decode cX7_type 96 = .ok (.invokestatic 83, 3) := by decide +kernel
theorem dX7_type_99 : decode cX7_type 99 = .ok (.iastore, 1) := by decide +kernel
theorem dX7_type_100 : decode cX7_type 100 = .ok (.aload_n 0, 1) := by decide +kernel
theorem dX7_type_101 : decode cX7_type 101 = .ok (.getfield 16, 3) := by decide +kernel
theorem dX7_type_104 : decode cX7_type 104 = .ok (.bipush 8, 2) := by decide +kernel
theorem dX7_type_106 : decode cX7_type 106 = .ok (.aload_n 0, 1) := by decide +kernel
theorem dX7_type_107 : decode cX7_type 107 = .ok (.getfield 98, 3) := by decide +kernel
theorem dX7_type_110 : decode cX7_type 110 = .ok (.imul, 1) := by decide +kernel
theorem dX7_type_111 : decode cX7_type 111 = .ok (.iload 7, 2) := by decide +kernel
theorem dX7_type_113 : decode cX7_type 113 = .ok (.iadd, 1) := by decide +kernel
theorem dX7_type_114 : decode cX7_type 114 = .ok (.lload_n 3, 1) := by decide +kernel
theorem dX7_type_115 : decode cX7_type 115 = .ok (.bipush 8, 2) := by decide +kernel
theorem dX7_type_117 : decode cX7_type 117 = .ok (.iload 7, 2) := by decide +kernel
theorem dX7_type_119 : decode cX7_type 119 = .ok (.imul, 1) := by decide +kernel
theorem dX7_type_120 : decode cX7_type 120 = .ok (.lshr, 1) := by decide +kernel
theorem dX7_type_121 : decode cX7_type 121 = .ok (.ldc2_w 75, 3) := by decide +kernel
theorem dX7_type_124 : decode cX7_type 124 = .ok (.land, 1) := by decide +kernel
theorem dX7_type_125 : decode cX7_type 125 = .ok (.ldc2_w 105, 3) := by decide +kernel
theorem dX7_type_128 : decode cX7_type 128 = .ok (.lcmp, 1) := by decide +kernel
theorem dX7_type_129 : decode cX7_type 129 = .ok (.ifCond .ne 7, 3) := by decide +kernel
theorem dX7_type_132 : decode cX7_type 132 = .ok (.iconst 1, 1) := by decide +kernel
theorem dX7_type_133 : decode cX7_type 133 = .ok (.goto 4, 3) := by decide +kernel
theorem dX7_type_136 : decode cX7_type 136 = .ok (.iconst 0, 1) := by decide +kernel
theorem dX7_type_137 : decode cX7_type 137 = .ok (.bastore, 1) := by decide +kernel
theorem dX7_type_138 : decode cX7_type 138 = .ok (.aload_n 0, 1) := by decide +kernel
theorem dX7_type_139 : decode cX7_type 139 = .ok (.getfield 20, 3) := by decide +kernel
theorem dX7_type_142 : decode cX7_type 142 = .ok (.bipush 8, 2) := by decide +kernel
theorem dX7_type_144 : decode cX7_type 144 = .ok (.aload_n 0, 1) := by decide +kernel
theorem dX7_type_145 : decode cX7_type 145 = .ok (.getfield 98, 3) := by decide +kernel
theorem dX7_type_148 : decode cX7_type 148 = .ok (.imul, 1) := by decide +kernel
theorem dX7_type_149 : decode cX7_type 149 = .ok (.iload 7, 2) := by decide +kernel
theorem dX7_type_151 : decode cX7_type 151 = .ok (.iadd, 1) := by decide +kernel
theorem dX7_type_152 : decode cX7_type 152 = .ok (.lload 5, 2) := by decide +kernel
theorem dX7_type_154 : decode cX7_type 154 = .ok (.bipush 8, 2) := by decide +kernel
theorem dX7_type_156 : decode cX7_type 156 = .ok (.iload 7, 2) := by decide +kernel
theorem dX7_type_158 : decode cX7_type 158 = .ok (.imul, 1) := by decide +kernel
theorem dX7_type_159 : decode cX7_type 159 = .ok (.lshr, 1) := by decide +kernel
theorem dX7_type_160 : decode cX7_type 160 = .ok (.ldc2_w 75, 3) := by decide +kernel
theorem dX7_type_163 : decode cX7_type 163 = .ok (.land, 1) := by decide +kernel
theorem dX7_type_164 : decode cX7_type 164 = .ok (.l2i, 1) := by decide +kernel
theorem dX7_type_165 : decode cX7_type 165 = .ok (.iastore, 1) := by decide +kernel
theorem dX7_type_166 : decode cX7_type 166 = .ok (.iinc 7 1, 3) := by decide +kernel
theorem dX7_type_169 : decode cX7_type 169 = .ok (.goto (-97), 3) := by decide +kernel
theorem dX7_type_172 : decode cX7_type 172 = .ok (.aload_n 0, 1) := by decide +kernel
theorem dX7_type_173 : decode cX7_type 173 = .ok (.dup, 1) := by decide +kernel
theorem dX7_type_174 : decode cX7_type 174 = .ok (.getfield 98, 3) := by decide +kernel
theorem dX7_type_177 : decode cX7_type 177 = .ok (.iconst 1, 1) := by decide +kernel
theorem dX7_type_178 : decode cX7_type 178 = .ok (.iadd, 1) := by decide +kernel
theorem dX7_type_179 : decode cX7_type 179 = .ok (.putfield 98, 3) := by decide +kernel
theorem dX7_type_182 : decode cX7_type 182 = .ok (.aload_n 0, 1) := by decide +kernel
theorem dX7_type_183 : decode cX7_type 183 = .ok (.getfield 98, 3) := by decide +kernel
theorem dX7_type_186 : decode cX7_type 186 = .ok (.iconst 1, 1) := by decide +kernel
theorem dX7_type_187 : decode cX7_type 187 = .ok (.isub, 1) := by decide +kernel
theorem dX7_type_188 : decode cX7_type 188 = .ok (.ireturn, 1) := by decide +kernel
theorem dX7_draw_0 : decode cX7_draw 0 = .ok (.iload_n 1, 1) := by decide +kernel
theorem dX7_draw_1 : decode cX7_draw 1 = .ok (.ifCond .lt 11, 3) := by decide +kernel
theorem dX7_draw_4 : decode cX7_draw 4 = .ok (.iload_n 1, 1) := by decide +kernel
theorem dX7_draw_5 : decode cX7_draw 5 = .ok (.aload_n 0, 1) := by decide +kernel
theorem dX7_draw_6 : decode cX7_draw 6 = .ok (.getfield 98, 3) := by decide +kernel
theorem dX7_draw_9 : decode cX7_draw 9 = .ok (.if_icmp .lt 6, 3) := by decide +kernel
theorem dX7_draw_12 : decode cX7_draw 12 = .ok (.bipush (-2), 2) := by decide +kernel
theorem dX7_draw_14 : decode cX7_draw 14 = .ok (.ireturn, 1) := by decide +kernel
theorem dX7_draw_15 : decode cX7_draw 15 = .ok (.aload_n 0, 1) := by decide +kernel
theorem dX7_draw_16 : decode cX7_draw 16 = .ok (.getfield 107, 3) := by decide +kernel
theorem dX7_draw_19 : decode cX7_draw 19 = .ok (.bipush 24, 2) := by decide +kernel
theorem dX7_draw_21 : decode cX7_draw 21 = .ok (.if_icmp .eq 10, 3) := by decide +kernel
theorem dX7_draw_24 : decode cX7_draw 24 = .ok (.aload_n 0, 1) := by decide +kernel
theorem dX7_draw_25 : decode cX7_draw 25 = .ok (.getfield 101, 3) := by decide +kernel
theorem dX7_draw_28 : decode cX7_draw 28 = .ok (.ifCond .eq 6, 3) := by decide +kernel
theorem dX7_draw_31 : decode cX7_draw 31 = .ok (.bipush (-3), 2) := by decide +kernel
theorem dX7_draw_33 : decode cX7_draw 33 = .ok (.ireturn, 1) := by decide +kernel
theorem dX7_draw_34 : decode cX7_draw 34 = .ok (.aload_n 0, 1) := by decide +kernel
theorem dX7_draw_35 : decode cX7_draw 35 = .ok (.getfield 23, 3) := by decide +kernel
theorem dX7_draw_38 : decode cX7_draw 38 = .ok (.aload_n 0, 1) := by decide +kernel
theorem dX7_draw_39 : decode cX7_draw 39 = .ok (.getfield 107, 3) := by decide +kernel
theorem dX7_draw_42 : decode cX7_draw 42 = .ok (.iload_n 1, 1) := by decide +kernel
theorem dX7_draw_43 : decode cX7_draw 43 = .ok (.iastore, 1) := by decide +kernel
theorem dX7_draw_44 : decode cX7_draw 44 = .ok (.aload_n 0, 1) := by decide +kernel
theorem dX7_draw_45 : decode cX7_draw 45 = .ok (.dup, 1) := by decide +kernel
theorem dX7_draw_46 : decode cX7_draw 46 = .ok (.getfield 107, 3) := by decide +kernel
theorem dX7_draw_49 : decode cX7_draw 49 = .ok (.iconst 1, 1) := by decide +kernel
theorem dX7_draw_50 : decode cX7_draw 50 = .ok (.iadd, 1) := by decide +kernel
theorem dX7_draw_51 : decode cX7_draw 51 = .ok (.putfield 107, 3) := by decide +kernel
theorem dX7_draw_54 : decode cX7_draw 54 = .ok (.aload_n 0, 1) := by decide +kernel
theorem dX7_draw_55 : decode cX7_draw 55 = .ok (.getfield 107, 3) := by decide +kernel
theorem dX7_draw_58 : decode cX7_draw 58 = .ok (.ireturn, 1) := by decide +kernel
theorem dX7_opposite_0 : decode cX7_opposite 0 = .ok (.iload_n 0, 1) := by decide +kernel
theorem dX7_opposite_1 : decode cX7_opposite 1 = .ok (.iconst 3, 1) := by decide +kernel
theorem dX7_opposite_2 : decode cX7_opposite 2 = .ok (.if_icmp .lt 14, 3) := by decide +kernel
theorem dX7_opposite_5 : decode cX7_opposite 5 = .ok (.iload_n 0, 1) := by decide +kernel
theorem dX7_opposite_6 : decode cX7_opposite 6 = .ok (.iconst 5, 1) := by decide +kernel
theorem dX7_opposite_7 : decode cX7_opposite 7 = .ok (.if_icmp .le 16, 3) := by decide +kernel
theorem dX7_opposite_10 : decode cX7_opposite 10 = .ok (.iload_n 0, 1) := by decide +kernel
theorem dX7_opposite_11 : decode cX7_opposite 11 = .ok (.bipush 9, 2) := by decide +kernel
theorem dX7_opposite_13 : decode cX7_opposite 13 = .ok (.if_icmp .ge 10, 3) := by decide +kernel
theorem dX7_opposite_16 : decode cX7_opposite 16 = .ok (.bipush 8, 2) := by decide +kernel
theorem dX7_opposite_18 : decode cX7_opposite 18 = .ok (.iload_n 0, 1) := by decide +kernel
theorem dX7_opposite_19 : decode cX7_opposite 19 = .ok (.isub, 1) := by decide +kernel
theorem dX7_opposite_20 : decode cX7_opposite 20 = .ok (.goto 7, 3) := by decide +kernel
theorem dX7_opposite_23 : decode cX7_opposite 23 = .ok (.bipush 14, 2) := by decide +kernel
theorem dX7_opposite_25 : decode cX7_opposite 25 = .ok (.iload_n 0, 1) := by decide +kernel
theorem dX7_opposite_26 : decode cX7_opposite 26 = .ok (.isub, 1) := by decide +kernel
theorem dX7_opposite_27 : decode cX7_opposite 27 = .ok (.ireturn, 1) := by decide +kernel
theorem dX7_partAt_0 : decode cX7_partAt 0 = .ok (.aload_n 0, 1) := by decide +kernel
theorem dX7_partAt_1 : decode cX7_partAt 1 = .ok (.getfield 7, 3) := by decide +kernel
theorem dX7_partAt_4 : decode cX7_partAt 4 = .ok (.bipush 12, 2) := by decide +kernel
theorem dX7_partAt_6 : decode cX7_partAt 6 = .ok (.iload_n 1, 1) := by decide +kernel
theorem dX7_partAt_7 : decode cX7_partAt 7 = .ok (.imul, 1) := by decide +kernel
theorem dX7_partAt_8 : decode cX7_partAt 8 = .ok (.iload_n 3, 1) := by decide +kernel
theorem dX7_partAt_9 : decode cX7_partAt 9 = .ok (.bipush 12, 2) := by decide +kernel
theorem dX7_partAt_11 : decode cX7_partAt 11 = .ok (.iadd, 1) := by decide +kernel
theorem dX7_partAt_12 : decode cX7_partAt 12 = .ok (.iconst 3, 1) := by decide +kernel
theorem dX7_partAt_13 : decode cX7_partAt 13 = .ok (.iload_n 2, 1) := by decide +kernel
theorem dX7_partAt_14 : decode cX7_partAt 14 = .ok (.imul, 1) := by decide +kernel
theorem dX7_partAt_15 : decode cX7_partAt 15 = .ok (.isub, 1) := by decide +kernel
theorem dX7_partAt_16 : decode cX7_partAt 16 = .ok (.bipush 12, 2) := by decide +kernel
theorem dX7_partAt_18 : decode cX7_partAt 18 = .ok (.irem, 1) := by decide +kernel
theorem dX7_partAt_19 : decode cX7_partAt 19 = .ok (.iadd, 1) := by decide +kernel
theorem dX7_partAt_20 : decode cX7_partAt 20 = .ok (.iaload, 1) := by decide +kernel
theorem dX7_partAt_21 : decode cX7_partAt 21 = .ok (.ireturn, 1) := by decide +kernel
theorem dX7_kindAt_0 : decode cX7_kindAt 0 = .ok (.aload_n 0, 1) := by decide +kernel
theorem dX7_kindAt_1 : decode cX7_kindAt 1 = .ok (.getfield 13, 3) := by decide +kernel
theorem dX7_kindAt_4 : decode cX7_kindAt 4 = .ok (.bipush 8, 2) := by decide +kernel
theorem dX7_kindAt_6 : decode cX7_kindAt 6 = .ok (.aload_n 0, 1) := by decide +kernel
theorem dX7_kindAt_7 : decode cX7_kindAt 7 = .ok (.getfield 32, 3) := by decide +kernel
theorem dX7_kindAt_10 : decode cX7_kindAt 10 = .ok (.iload_n 1, 1) := by decide +kernel
theorem dX7_kindAt_11 : decode cX7_kindAt 11 = .ok (.iaload, 1) := by decide +kernel
theorem dX7_kindAt_12 : decode cX7_kindAt 12 = .ok (.imul, 1) := by decide +kernel
theorem dX7_kindAt_13 : decode cX7_kindAt 13 = .ok (.aload_n 0, 1) := by decide +kernel
theorem dX7_kindAt_14 : decode cX7_kindAt 14 = .ok (.aload_n 0, 1) := by decide +kernel
theorem dX7_kindAt_15 : decode cX7_kindAt 15 = .ok (.getfield 32, 3) := by decide +kernel
theorem dX7_kindAt_18 : decode cX7_kindAt 18 = .ok (.iload_n 1, 1) := by decide +kernel
theorem dX7_kindAt_19 : decode cX7_kindAt 19 = .ok (.iaload, 1) := by decide +kernel
theorem dX7_kindAt_20 : decode cX7_kindAt 20 = .ok (.aload_n 0, 1) := by decide +kernel
theorem dX7_kindAt_21 : decode cX7_kindAt 21 = .ok (.getfield 35, 3) := by decide +kernel
theorem dX7_kindAt_24 : decode cX7_kindAt 24 = .ok (.iload_n 1, 1) := by decide +kernel
theorem dX7_kindAt_25 : decode cX7_kindAt 25 = .ok (.iaload, 1) := by decide +kernel
theorem dX7_kindAt_26 : decode cX7_kindAt 26 = .ok (.iload_n 2, 1) := by decide +kernel
theorem dX7_kindAt_27 : decode cX7_kindAt 27 = .ok (.invokevirtual 118, 3) := by decide +kernel
theorem dX7_kindAt_30 : decode cX7_kindAt 30 = .ok (.iadd, 1) := by decide +kernel
theorem dX7_kindAt_31 : decode cX7_kindAt 31 = .ok (.iaload, 1) := by decide +kernel
theorem dX7_kindAt_32 : decode cX7_kindAt 32 = .ok (.ireturn, 1) := by decide +kernel
theorem dX7_isPlace_0 : decode cX7_isPlace 0 = .ok (.iload_n 0, 1) := by decide +kernel
theorem dX7_isPlace_1 : decode cX7_isPlace 1 = .ok (.bipush (-9), 2) := by decide +kernel
theorem dX7_isPlace_3 : decode cX7_isPlace 3 = .ok (.if_icmp .lt 25, 3) := by decide +kernel
theorem dX7_isPlace_6 : decode cX7_isPlace 6 = .ok (.iload_n 0, 1) := by decide +kernel
theorem dX7_isPlace_7 : decode cX7_isPlace 7 = .ok (.bipush 9, 2) := by decide +kernel
theorem dX7_isPlace_9 : decode cX7_isPlace 9 = .ok (.if_icmp .gt 19, 3) := by decide +kernel
theorem dX7_isPlace_12 : decode cX7_isPlace 12 = .ok (.iload_n 1, 1) := by decide +kernel
theorem dX7_isPlace_13 : decode cX7_isPlace 13 = .ok (.bipush (-9), 2) := by decide +kernel
theorem dX7_isPlace_15 : decode cX7_isPlace 15 = .ok (.if_icmp .lt 13, 3) := by decide +kernel
theorem dX7_isPlace_18 : decode cX7_isPlace 18 = .ok (.iload_n 1, 1) := by decide +kernel
theorem dX7_isPlace_19 : decode cX7_isPlace 19 = .ok (.bipush 9, 2) := by decide +kernel
theorem dX7_isPlace_21 : decode cX7_isPlace 21 = .ok (.if_icmp .gt 7, 3) := by decide +kernel
theorem dX7_isPlace_24 : decode cX7_isPlace 24 = .ok (.iconst 1, 1) := by decide +kernel
theorem dX7_isPlace_25 : decode cX7_isPlace 25 = .ok (.goto 4, 3) := by decide +kernel
theorem dX7_isPlace_28 : decode cX7_isPlace 28 = .ok (.iconst 0, 1) := by decide +kernel
theorem dX7_isPlace_29 : decode cX7_isPlace 29 = .ok (.ireturn, 1) := by decide +kernel
theorem dX7_tileAt_0 : decode cX7_tileAt 0 = .ok (.iload_n 1, 1) := by decide +kernel
theorem dX7_tileAt_1 : decode cX7_tileAt 1 = .ok (.iload_n 2, 1) := by decide +kernel
theorem dX7_tileAt_2 : decode cX7_tileAt 2 = .ok (.invokestatic 110, 3) := by decide +kernel
theorem dX7_tileAt_5 : decode cX7_tileAt 5 = .ok (.ifCond .eq 21, 3) := by decide +kernel
theorem dX7_tileAt_8 : decode cX7_tileAt 8 = .ok (.aload_n 0, 1) := by decide +kernel
theorem dX7_tileAt_9 : decode cX7_tileAt 9 = .ok (.getfield 38, 3) := by decide +kernel
theorem dX7_tileAt_12 : decode cX7_tileAt 12 = .ok (.bipush 19, 2) := by decide +kernel
theorem dX7_tileAt_14 : decode cX7_tileAt 14 = .ok (.iload_n 2, 1) := by decide +kernel
theorem dX7_tileAt_15 : decode cX7_tileAt 15 = .ok (.imul, 1) := by decide +kernel
theorem dX7_tileAt_16 : decode cX7_tileAt 16 = .ok (.iload_n 1, 1) := by decide +kernel
theorem dX7_tileAt_17 : decode cX7_tileAt 17 = .ok (.iadd, 1) := by decide +kernel
theorem dX7_tileAt_18 : decode cX7_tileAt 18 = .ok (.sipush 180, 3) := by decide +kernel
theorem dX7_tileAt_21 : decode cX7_tileAt 21 = .ok (.iadd, 1) := by decide +kernel
theorem dX7_tileAt_22 : decode cX7_tileAt 22 = .ok (.iaload, 1) := by decide +kernel
theorem dX7_tileAt_23 : decode cX7_tileAt 23 = .ok (.goto 4, 3) := by decide +kernel
theorem dX7_tileAt_26 : decode cX7_tileAt 26 = .ok (.iconst (-1), 1) := by decide +kernel
theorem dX7_tileAt_27 : decode cX7_tileAt 27 = .ok (.ireturn, 1) := by decide +kernel
theorem dX7_beside_0 : decode cX7_beside 0 = .ok (.iload_n 3, 1) := by decide +kernel
theorem dX7_beside_1 : decode cX7_beside 1 = .ok (.iconst 3, 1) := by decide +kernel
theorem dX7_beside_2 : decode cX7_beside 2 = .ok (.idiv, 1) := by decide +kernel
theorem dX7_beside_3 : decode cX7_beside 3 = .ok (.istore 4, 2) := by decide +kernel
theorem dX7_beside_5 : decode cX7_beside 5 = .ok (.aload_n 0, 1) := by decide +kernel
theorem dX7_beside_6 : decode cX7_beside 6 = .ok (.iload 4, 2) := by decide +kernel
theorem dX7_beside_8 : decode cX7_beside 8 = .ok (.iconst 1, 1) := by decide +kernel
theorem dX7_beside_9 : decode cX7_beside 9 = .ok (.if_icmp .ne 9, 3) := by decide +kernel
theorem dX7_beside_12 : decode cX7_beside 12 = .ok (.iload_n 1, 1) := by decide +kernel
theorem dX7_beside_13 : decode cX7_beside 13 = .ok (.iconst 1, 1) := by decide +kernel
theorem dX7_beside_14 : decode cX7_beside 14 = .ok (.iadd, 1) := by decide +kernel
theorem dX7_beside_15 : decode cX7_beside 15 = .ok (.goto 16, 3) := by decide +kernel
theorem dX7_beside_18 : decode cX7_beside 18 = .ok (.iload 4, 2) := by decide +kernel
theorem dX7_beside_20 : decode cX7_beside 20 = .ok (.iconst 3, 1) := by decide +kernel
theorem dX7_beside_21 : decode cX7_beside 21 = .ok (.if_icmp .ne 9, 3) := by decide +kernel
theorem dX7_beside_24 : decode cX7_beside 24 = .ok (.iload_n 1, 1) := by decide +kernel
theorem dX7_beside_25 : decode cX7_beside 25 = .ok (.iconst 1, 1) := by decide +kernel
theorem dX7_beside_26 : decode cX7_beside 26 = .ok (.isub, 1) := by decide +kernel
theorem dX7_beside_27 : decode cX7_beside 27 = .ok (.goto 4, 3) := by decide +kernel
theorem dX7_beside_30 : decode cX7_beside 30 = .ok (.iload_n 1, 1) := by decide +kernel
theorem dX7_beside_31 : decode cX7_beside 31 = .ok (.iload 4, 2) := by decide +kernel
theorem dX7_beside_33 : decode cX7_beside 33 = .ok (.ifCond .ne 9, 3) := by decide +kernel
theorem dX7_beside_36 : decode cX7_beside 36 = .ok (.iload_n 2, 1) := by decide +kernel
theorem dX7_beside_37 : decode cX7_beside 37 = .ok (.iconst 1, 1) := by decide +kernel
theorem dX7_beside_38 : decode cX7_beside 38 = .ok (.isub, 1) := by decide +kernel
theorem dX7_beside_39 : decode cX7_beside 39 = .ok (.goto 16, 3) := by decide +kernel
theorem dX7_beside_42 : decode cX7_beside 42 = .ok (.iload 4, 2) := by decide +kernel
theorem dX7_beside_44 : decode cX7_beside 44 = .ok (.iconst 2, 1) := by decide +kernel
theorem dX7_beside_45 : decode cX7_beside 45 = .ok (.if_icmp .ne 9, 3) := by decide +kernel
theorem dX7_beside_48 : decode cX7_beside 48 = .ok (.iload_n 2, 1) := by decide +kernel
theorem dX7_beside_49 : decode cX7_beside 49 = .ok (.iconst 1, 1) := by decide +kernel
theorem dX7_beside_50 : decode cX7_beside 50 = .ok (.iadd, 1) := by decide +kernel
theorem dX7_beside_51 : decode cX7_beside 51 = .ok (.goto 4, 3) := by decide +kernel
theorem dX7_beside_54 : decode cX7_beside 54 = .ok (.iload_n 2, 1) := by decide +kernel
theorem dX7_beside_55 : decode cX7_beside 55 = .ok (.invokevirtual 114, 3) := by decide +kernel
theorem dX7_beside_58 : decode cX7_beside 58 = .ok (.ireturn, 1) := by decide +kernel
theorem dX7_fitsAt_0 : decode cX7_fitsAt 0 = .ok (.iload_n 2, 1) := by decide +kernel
theorem dX7_fitsAt_1 : decode cX7_fitsAt 1 = .ok (.iload_n 3, 1) := by decide +kernel
theorem dX7_fitsAt_2 : decode cX7_fitsAt 2 = .ok (.invokestatic 110, 3) := by decide +kernel
theorem dX7_fitsAt_5 : decode cX7_fitsAt 5 = .ok (.ifCond .eq 23, 3) := by decide +kernel
theorem dX7_fitsAt_8 : decode cX7_fitsAt 8 = .ok (.iload 4, 2) := by decide +kernel
theorem dX7_fitsAt_10 : decode cX7_fitsAt 10 = .ok (.ifCond .lt 18, 3) := by decide +kernel
theorem dX7_fitsAt_13 : decode cX7_fitsAt 13 = .ok (.iload 4, 2) := by decide +kernel
theorem dX7_fitsAt_15 : decode cX7_fitsAt 15 = .ok (.iconst 3, 1) := by decide +kernel
theorem dX7_fitsAt_16 : decode cX7_fitsAt 16 = .ok (.if_icmp .gt 12, 3) := by decide +kernel
theorem dX7_fitsAt_19 : decode cX7_fitsAt 19 = .ok (.aload_n 0, 1) := by decide +kernel
theorem dX7_fitsAt_20 : decode cX7_fitsAt 20 = .ok (.iload_n 2, 1) := by decide +kernel
theorem dX7_fitsAt_21 : decode cX7_fitsAt 21 = .ok (.iload_n 3, 1) := by decide +kernel
theorem dX7_fitsAt_22 : decode cX7_fitsAt 22 = .ok (.invokevirtual 114, 3) := by decide +kernel
theorem dX7_fitsAt_25 : decode cX7_fitsAt 25 = .ok (.ifCond .lt 5, 3) := by decide +kernel
theorem dX7_fitsAt_28 : decode cX7_fitsAt 28 = .ok (.iconst 0, 1) := by decide +kernel
theorem dX7_fitsAt_29 : decode cX7_fitsAt 29 = .ok (.ireturn, 1) := by decide +kernel
theorem dX7_fitsAt_30 : decode cX7_fitsAt 30 = .ok (.aload_n 0, 1) := by decide +kernel
theorem dX7_fitsAt_31 : decode cX7_fitsAt 31 = .ok (.getfield 122, 3) := by decide +kernel
theorem dX7_fitsAt_34 : decode cX7_fitsAt 34 = .ok (.ifCond .ne 15, 3) := by decide +kernel
theorem dX7_fitsAt_37 : decode cX7_fitsAt 37 = .ok (.iload_n 2, 1) := by decide +kernel
theorem dX7_fitsAt_38 : decode cX7_fitsAt 38 = .ok (.ifCond .ne 11, 3) := by decide +kernel
theorem dX7_fitsAt_41 : decode cX7_fitsAt 41 = .ok (.iload_n 3, 1) := by decide +kernel
theorem dX7_fitsAt_42 : decode cX7_fitsAt 42 = .ok (.ifCond .ne 7, 3) := by decide +kernel
theorem dX7_fitsAt_45 : decode cX7_fitsAt 45 = .ok (.iconst 1, 1) := by decide +kernel
theorem dX7_fitsAt_46 : decode cX7_fitsAt 46 = .ok (.goto 4, 3) := by decide +kernel
theorem dX7_fitsAt_49 : decode cX7_fitsAt 49 = .ok (.iconst 0, 1) := by decide +kernel
theorem dX7_fitsAt_50 : decode cX7_fitsAt 50 = .ok (.istore 5, 2) := by decide +kernel
theorem dX7_fitsAt_52 : decode cX7_fitsAt 52 = .ok (.iconst 1, 1) := by decide +kernel
theorem dX7_fitsAt_53 : decode cX7_fitsAt 53 = .ok (.istore 6, 2) := by decide +kernel
theorem dX7_fitsAt_55 : decode cX7_fitsAt 55 = .ok (.iconst 0, 1) := by decide +kernel
theorem dX7_fitsAt_56 : decode cX7_fitsAt 56 = .ok (.istore 7, 2) := by decide +kernel
theorem dX7_fitsAt_58 : decode cX7_fitsAt 58 = .ok (.iload 7, 2) := by decide +kernel
theorem dX7_fitsAt_60 : decode cX7_fitsAt 60 = .ok (.bipush 12, 2) := by decide +kernel
theorem dX7_fitsAt_62 : decode cX7_fitsAt 62 = .ok (.if_icmp .ge 86, 3) := by decide +kernel
theorem dX7_fitsAt_65 : decode cX7_fitsAt 65 = .ok (.aload_n 0, 1) := by decide +kernel
theorem dX7_fitsAt_66 : decode cX7_fitsAt 66 = .ok (.iload_n 2, 1) := by decide +kernel
theorem dX7_fitsAt_67 : decode cX7_fitsAt 67 = .ok (.iload_n 3, 1) := by decide +kernel
theorem dX7_fitsAt_68 : decode cX7_fitsAt 68 = .ok (.iload 7, 2) := by decide +kernel
theorem dX7_fitsAt_70 : decode cX7_fitsAt 70 = .ok (.invokevirtual 125, 3) := by decide +kernel
theorem dX7_fitsAt_73 : decode cX7_fitsAt 73 = .ok (.istore 8, 2) := by decide +kernel
theorem dX7_fitsAt_75 : decode cX7_fitsAt 75 = .ok (.iload 5, 2) := by decide +kernel
theorem dX7_fitsAt_77 : decode cX7_fitsAt 77 = .ok (.ifCond .ne 8, 3) := by decide +kernel
theorem dX7_fitsAt_80 : decode cX7_fitsAt 80 = .ok (.iload 8, 2) := by decide +kernel
theorem dX7_fitsAt_82 : decode cX7_fitsAt 82 = .ok (.ifCond .lt 7, 3) := by decide +kernel
theorem dX7_fitsAt_85 : decode cX7_fitsAt 85 = .ok (.iconst 1, 1) := by decide +kernel
theorem dX7_fitsAt_86 : decode cX7_fitsAt 86 = .ok (.goto 4, 3) := by decide +kernel
theorem dX7_fitsAt_89 : decode cX7_fitsAt 89 = .ok (.iconst 0, 1) := by decide +kernel
theorem dX7_fitsAt_90 : decode cX7_fitsAt 90 = .ok (.istore 5, 2) := by decide +kernel
theorem dX7_fitsAt_92 : decode cX7_fitsAt 92 = .ok (.iload 6, 2) := by decide +kernel
theorem dX7_fitsAt_94 : decode cX7_fitsAt 94 = .ok (.ifCond .eq 45, 3) := by decide +kernel
theorem dX7_fitsAt_97 : decode cX7_fitsAt 97 = .ok (.iload 8, 2) := by decide +kernel
theorem dX7_fitsAt_99 : decode cX7_fitsAt 99 = .ok (.ifCond .lt 36, 3) := by decide +kernel
theorem dX7_fitsAt_102 : decode cX7_fitsAt 102 = .ok (.aload_n 0, 1) := by decide +kernel
theorem dX7_fitsAt_103 : decode cX7_fitsAt 103 = .ok (.iload 8, 2) := by decide +kernel
theorem dX7_fitsAt_105 : decode cX7_fitsAt 105 = .ok (.iload 7, 2) := by decide +kernel
theorem dX7_fitsAt_107 : decode cX7_fitsAt 107 = .ok (.invokestatic 128, 3) := by decide +kernel
theorem dX7_fitsAt_110 : decode cX7_fitsAt 110 = .ok (.invokevirtual 132, 3) := by decide +kernel
theorem dX7_fitsAt_113 : decode cX7_fitsAt 113 = .ok (.aload_n 0, 1) := by decide +kernel
theorem dX7_fitsAt_114 : decode cX7_fitsAt 114 = .ok (.getfield 13, 3) := by decide +kernel
theorem dX7_fitsAt_117 : decode cX7_fitsAt 117 = .ok (.bipush 8, 2) := by decide +kernel
theorem dX7_fitsAt_119 : decode cX7_fitsAt 119 = .ok (.iload_n 1, 1) := by decide +kernel
theorem dX7_fitsAt_120 : decode cX7_fitsAt 120 = .ok (.imul, 1) := by decide +kernel
theorem dX7_fitsAt_121 : decode cX7_fitsAt 121 = .ok (.aload_n 0, 1) := by decide +kernel
theorem dX7_fitsAt_122 : decode cX7_fitsAt 122 = .ok (.iload_n 1, 1) := by decide +kernel
theorem dX7_fitsAt_123 : decode cX7_fitsAt 123 = .ok (.iload 4, 2) := by decide +kernel
theorem dX7_fitsAt_125 : decode cX7_fitsAt 125 = .ok (.iload 7, 2) := by decide +kernel
theorem dX7_fitsAt_127 : decode cX7_fitsAt 127 = .ok (.invokevirtual 118, 3) := by decide +kernel
theorem dX7_fitsAt_130 : decode cX7_fitsAt 130 = .ok (.iadd, 1) := by decide +kernel
theorem dX7_fitsAt_131 : decode cX7_fitsAt 131 = .ok (.iaload, 1) := by decide +kernel
theorem dX7_fitsAt_132 : decode cX7_fitsAt 132 = .ok (.if_icmp .ne 7, 3) := by decide +kernel
theorem dX7_fitsAt_135 : decode cX7_fitsAt 135 = .ok (.iconst 1, 1) := by decide +kernel
theorem dX7_fitsAt_136 : decode cX7_fitsAt 136 = .ok (.goto 4, 3) := by decide +kernel
theorem dX7_fitsAt_139 : decode cX7_fitsAt 139 = .ok (.iconst 0, 1) := by decide +kernel
theorem dX7_fitsAt_140 : decode cX7_fitsAt 140 = .ok (.istore 6, 2) := by decide +kernel
theorem dX7_fitsAt_142 : decode cX7_fitsAt 142 = .ok (.iinc 7 1, 3) := by decide +kernel
theorem dX7_fitsAt_145 : decode cX7_fitsAt 145 = .ok (.goto (-87), 3) := by decide +kernel
theorem dX7_fitsAt_148 : decode cX7_fitsAt 148 = .ok (.iload 5, 2) := by decide +kernel
theorem dX7_fitsAt_150 : decode cX7_fitsAt 150 = .ok (.ifCond .eq 12, 3) := by decide +kernel
theorem dX7_fitsAt_153 : decode cX7_fitsAt 153 = .ok (.iload 6, 2) := by decide +kernel
theorem dX7_fitsAt_155 : decode cX7_fitsAt 155 = .ok (.ifCond .eq 7, 3) := by decide +kernel
theorem dX7_fitsAt_158 : decode cX7_fitsAt 158 = .ok (.iconst 1, 1) := by decide +kernel
theorem dX7_fitsAt_159 : decode cX7_fitsAt 159 = .ok (.goto 4, 3) := by decide +kernel
theorem dX7_fitsAt_162 : decode cX7_fitsAt 162 = .ok (.iconst 0, 1) := by decide +kernel
theorem dX7_fitsAt_163 : decode cX7_fitsAt 163 = .ok (.ireturn, 1) := by decide +kernel
theorem dX7_fitting_0 : decode cX7_fitting 0 = .ok (.iload_n 2, 1) := by decide +kernel
theorem dX7_fitting_1 : decode cX7_fitting 1 = .ok (.istore_n 3, 1) := by decide +kernel
theorem dX7_fitting_2 : decode cX7_fitting 2 = .ok (.iconst 0, 1) := by decide +kernel
theorem dX7_fitting_3 : decode cX7_fitting 3 = .ok (.istore 4, 2) := by decide +kernel
theorem dX7_fitting_5 : decode cX7_fitting 5 = .ok (.iload 4, 2) := by decide +kernel
theorem dX7_fitting_7 : decode cX7_fitting 7 = .ok (.sipush 1444, 3) := by decide +kernel
theorem dX7_fitting_10 : decode cX7_fitting 10 = .ok (.if_icmp .ge 49, 3) := by decide +kernel
theorem dX7_fitting_13 : decode cX7_fitting 13 = .ok (.aload_n 0, 1) := by decide +kernel
theorem dX7_fitting_14 : decode cX7_fitting 14 = .ok (.iload_n 1, 1) := by decide +kernel
theorem dX7_fitting_15 : decode cX7_fitting 15 = .ok (.iload 4, 2) := by decide +kernel
theorem dX7_fitting_17 : decode cX7_fitting 17 = .ok (.iconst 4, 1) := by decide +kernel
theorem dX7_fitting_18 : decode cX7_fitting 18 = .ok (.idiv, 1) := by decide +kernel
theorem dX7_fitting_19 : decode cX7_fitting 19 = .ok (.bipush 19, 2) := by decide +kernel
theorem dX7_fitting_21 : decode cX7_fitting 21 = .ok (.irem, 1) := by decide +kernel
theorem dX7_fitting_22 : decode cX7_fitting 22 = .ok (.bipush 9, 2) := by decide +kernel
theorem dX7_fitting_24 : decode cX7_fitting 24 = .ok (.isub, 1) := by decide +kernel
theorem dX7_fitting_25 : decode cX7_fitting 25 = .ok (.iload 4, 2) := by decide +kernel
theorem dX7_fitting_27 : decode cX7_fitting 27 = .ok (.bipush 76, 2) := by decide +kernel
theorem dX7_fitting_29 : decode cX7_fitting 29 = .ok (.idiv, 1) := by decide +kernel
theorem dX7_fitting_30 : decode cX7_fitting 30 = .ok (.bipush 9, 2) := by decide +kernel
theorem dX7_fitting_32 : decode cX7_fitting 32 = .ok (.isub, 1) := by decide +kernel
theorem dX7_fitting_33 : decode cX7_fitting 33 = .ok (.iload 4, 2) := by decide +kernel
theorem dX7_fitting_35 : decode cX7_fitting 35 = .ok (.iconst 4, 1) := by decide +kernel
theorem dX7_fitting_36 : decode cX7_fitting 36 = .ok (.irem, 1) := by decide +kernel
theorem dX7_fitting_37 : decode cX7_fitting 37 = .ok (.invokevirtual 135, 3) := by decide +kernel
theorem dX7_fitting_40 : decode cX7_fitting 40 = .ok (.ifCond .eq 13, 3) := by decide +kernel
theorem dX7_fitting_43 : decode cX7_fitting 43 = .ok (.iload_n 3, 1) := by decide +kernel
theorem dX7_fitting_44 : decode cX7_fitting 44 = .ok (.ifCond .ne 6, 3) := by decide +kernel
theorem dX7_fitting_47 : decode cX7_fitting 47 = .ok (.iload 4, 2) := by decide +kernel
theorem dX7_fitting_49 : decode cX7_fitting 49 = .ok (.ireturn, 1) := by decide +kernel
theorem dX7_fitting_50 : decode cX7_fitting 50 = .ok (.iinc 3 (-1), 3) := by decide +kernel
theorem dX7_fitting_53 : decode cX7_fitting 53 = .ok (.iinc 4 1, 3) := by decide +kernel
theorem dX7_fitting_56 : decode cX7_fitting 56 = .ok (.goto (-51), 3) := by decide +kernel
theorem dX7_fitting_59 : decode cX7_fitting 59 = .ok (.iconst (-1), 1) := by decide +kernel
theorem dX7_fitting_60 : decode cX7_fitting 60 = .ok (.ireturn, 1) := by decide +kernel
theorem dX7_drawNext_0 : decode cX7_drawNext 0 = .ok (.aload_n 0, 1) := by decide +kernel
theorem dX7_drawNext_1 : decode cX7_drawNext 1 = .ok (.iconst (-1), 1) := by decide +kernel
theorem dX7_drawNext_2 : decode cX7_drawNext 2 = .ok (.putfield 50, 3) := by decide +kernel
theorem dX7_drawNext_5 : decode cX7_drawNext 5 = .ok (.aload_n 0, 1) := by decide +kernel
theorem dX7_drawNext_6 : decode cX7_drawNext 6 = .ok (.getfield 50, 3) := by decide +kernel
theorem dX7_drawNext_9 : decode cX7_drawNext 9 = .ok (.ifCond .ge 64, 3) := by decide +kernel
theorem dX7_drawNext_12 : decode cX7_drawNext 12 = .ok (.aload_n 0, 1) := by decide +kernel
theorem dX7_drawNext_13 : decode cX7_drawNext 13 = .ok (.getfield 139, 3) := by decide +kernel
theorem dX7_drawNext_16 : decode cX7_drawNext 16 = .ok (.aload_n 0, 1) := by decide +kernel
theorem dX7_drawNext_17 : decode cX7_drawNext 17 = .ok (.getfield 107, 3) := by decide +kernel
theorem dX7_drawNext_20 : decode cX7_drawNext 20 = .ok (.if_icmp .ge 53, 3) := by decide +kernel
theorem dX7_drawNext_23 : decode cX7_drawNext 23 = .ok (.aload_n 0, 1) := by decide +kernel
theorem dX7_drawNext_24 : decode cX7_drawNext 24 = .ok (.getfield 23, 3) := by decide +kernel
theorem dX7_drawNext_27 : decode cX7_drawNext 27 = .ok (.aload_n 0, 1) := by decide +kernel
theorem dX7_drawNext_28 : decode cX7_drawNext 28 = .ok (.getfield 139, 3) := by decide +kernel
theorem dX7_drawNext_31 : decode cX7_drawNext 31 = .ok (.iaload, 1) := by decide +kernel
theorem dX7_drawNext_32 : decode cX7_drawNext 32 = .ok (.istore_n 1, 1) := by decide +kernel
theorem dX7_drawNext_33 : decode cX7_drawNext 33 = .ok (.aload_n 0, 1) := by decide +kernel
theorem dX7_drawNext_34 : decode cX7_drawNext 34 = .ok (.dup, 1) := by decide +kernel
theorem dX7_drawNext_35 : decode cX7_drawNext 35 = .ok (.getfield 139, 3) := by decide +kernel
theorem dX7_drawNext_38 : decode cX7_drawNext 38 = .ok (.iconst 1, 1) := by decide +kernel
theorem dX7_drawNext_39 : decode cX7_drawNext 39 = .ok (.iadd, 1) := by decide +kernel
theorem dX7_drawNext_40 : decode cX7_drawNext 40 = .ok (.putfield 139, 3) := by decide +kernel
theorem dX7_drawNext_43 : decode cX7_drawNext 43 = .ok (.aload_n 0, 1) := by decide +kernel
theorem dX7_drawNext_44 : decode cX7_drawNext 44 = .ok (.iload_n 1, 1) := by decide +kernel
theorem dX7_drawNext_45 : decode cX7_drawNext 45 = .ok (.iconst 0, 1) := by decide +kernel
theorem dX7_drawNext_46 : decode cX7_drawNext 46 = .ok (.invokevirtual 142, 3) := by decide +kernel
theorem dX7_drawNext_49 : decode cX7_drawNext 49 = .ok (.ifCond .lt 11, 3) := by decide +kernel
theorem dX7_drawNext_52 : decode cX7_drawNext 52 = .ok (.aload_n 0, 1) := by decide +kernel
theorem dX7_drawNext_53 : decode cX7_drawNext 53 = .ok (.iload_n 1, 1) := by decide +kernel
theorem dX7_drawNext_54 : decode cX7_drawNext 54 = .ok (.putfield 50, 3) := by decide +kernel
theorem dX7_drawNext_57 : decode cX7_drawNext 57 = .ok (.goto 13, 3) := by decide +kernel
theorem dX7_drawNext_60 : decode cX7_drawNext 60 = .ok (.aload_n 0, 1) := by decide +kernel
theorem dX7_drawNext_61 : decode cX7_drawNext 61 = .ok (.dup, 1) := by decide +kernel
theorem dX7_drawNext_62 : decode cX7_drawNext 62 = .ok (.getfield 145, 3) := by decide +kernel
theorem dX7_drawNext_65 : decode cX7_drawNext 65 = .ok (.iconst 1, 1) := by decide +kernel
theorem dX7_drawNext_66 : decode cX7_drawNext 66 = .ok (.iadd, 1) := by decide +kernel
theorem dX7_drawNext_67 : decode cX7_drawNext 67 = .ok (.putfield 145, 3) := by decide +kernel
theorem dX7_drawNext_70 : decode cX7_drawNext 70 = .ok (.goto (-65), 3) := by decide +kernel
theorem dX7_drawNext_73 : decode cX7_drawNext 73 = .ok (.return_, 1) := by decide +kernel
theorem dX7_begin_0 : decode cX7_begin 0 = .ok (.iconst 0, 1) := by decide +kernel
theorem dX7_begin_1 : decode cX7_begin 1 = .ok (.istore_n 1, 1) := by decide +kernel
theorem dX7_begin_2 : decode cX7_begin 2 = .ok (.iload_n 1, 1) := by decide +kernel
theorem dX7_begin_3 : decode cX7_begin 3 = .ok (.sipush 361, 3) := by decide +kernel
theorem dX7_begin_6 : decode cX7_begin 6 = .ok (.if_icmp .ge 16, 3) := by decide +kernel
theorem dX7_begin_9 : decode cX7_begin 9 = .ok (.aload_n 0, 1) := by decide +kernel
theorem dX7_begin_10 : decode cX7_begin 10 = .ok (.getfield 38, 3) := by decide +kernel
theorem dX7_begin_13 : decode cX7_begin 13 = .ok (.iload_n 1, 1) := by decide +kernel
theorem dX7_begin_14 : decode cX7_begin 14 = .ok (.iconst (-1), 1) := by decide +kernel
theorem dX7_begin_15 : decode cX7_begin 15 = .ok (.iastore, 1) := by decide +kernel
theorem dX7_begin_16 : decode cX7_begin 16 = .ok (.iinc 1 1, 3) := by decide +kernel
theorem dX7_begin_19 : decode cX7_begin 19 = .ok (.goto (-17), 3) := by decide +kernel
theorem dX7_begin_22 : decode cX7_begin 22 = .ok (.iconst 0, 1) := by decide +kernel
theorem dX7_begin_23 : decode cX7_begin 23 = .ok (.istore_n 1, 1) := by decide +kernel
theorem dX7_begin_24 : decode cX7_begin 24 = .ok (.iload_n 1, 1) := by decide +kernel
theorem dX7_begin_25 : decode cX7_begin 25 = .ok (.sipush 192, 3) := by decide +kernel
theorem dX7_begin_28 : decode cX7_begin 28 = .ok (.if_icmp .ge 16, 3) := by decide +kernel
theorem dX7_begin_31 : decode cX7_begin 31 = .ok (.aload_n 0, 1) := by decide +kernel
theorem dX7_begin_32 : decode cX7_begin 32 = .ok (.getfield 41, 3) := by decide +kernel
theorem dX7_begin_35 : decode cX7_begin 35 = .ok (.iload_n 1, 1) := by decide +kernel
theorem dX7_begin_36 : decode cX7_begin 36 = .ok (.iconst (-1), 1) := by decide +kernel
theorem dX7_begin_37 : decode cX7_begin 37 = .ok (.iastore, 1) := by decide +kernel
theorem dX7_begin_38 : decode cX7_begin 38 = .ok (.iinc 1 1, 3) := by decide +kernel
theorem dX7_begin_41 : decode cX7_begin 41 = .ok (.goto (-17), 3) := by decide +kernel
theorem dX7_begin_44 : decode cX7_begin 44 = .ok (.iconst 0, 1) := by decide +kernel
theorem dX7_begin_45 : decode cX7_begin 45 = .ok (.istore_n 1, 1) := by decide +kernel
theorem dX7_begin_46 : decode cX7_begin 46 = .ok (.iload_n 1, 1) := by decide +kernel
theorem dX7_begin_47 : decode cX7_begin 47 = .ok (.iconst 3, 1) := by decide +kernel
theorem dX7_begin_48 : decode cX7_begin 48 = .ok (.if_icmp .ge 24, 3) := by decide +kernel
theorem dX7_begin_51 : decode cX7_begin 51 = .ok (.aload_n 0, 1) := by decide +kernel
theorem dX7_begin_52 : decode cX7_begin 52 = .ok (.getfield 44, 3) := by decide +kernel
theorem dX7_begin_55 : decode cX7_begin 55 = .ok (.iload_n 1, 1) := by decide +kernel
theorem dX7_begin_56 : decode cX7_begin 56 = .ok (.iconst 0, 1) := by decide +kernel
theorem dX7_begin_57 : decode cX7_begin 57 = .ok (.iastore, 1) := by decide +kernel
theorem dX7_begin_58 : decode cX7_begin 58 = .ok (.aload_n 0, 1) := by decide +kernel
theorem dX7_begin_59 : decode cX7_begin 59 = .ok (.getfield 47, 3) := by decide +kernel
theorem dX7_begin_62 : decode cX7_begin 62 = .ok (.iload_n 1, 1) := by decide +kernel
theorem dX7_begin_63 : decode cX7_begin 63 = .ok (.bipush 7, 2) := by decide +kernel
theorem dX7_begin_65 : decode cX7_begin 65 = .ok (.iastore, 1) := by decide +kernel
theorem dX7_begin_66 : decode cX7_begin 66 = .ok (.iinc 1 1, 3) := by decide +kernel
theorem dX7_begin_69 : decode cX7_begin 69 = .ok (.goto (-23), 3) := by decide +kernel
theorem dX7_begin_72 : decode cX7_begin 72 = .ok (.aload_n 0, 1) := by decide +kernel
theorem dX7_begin_73 : decode cX7_begin 73 = .ok (.iconst 0, 1) := by decide +kernel
theorem dX7_begin_74 : decode cX7_begin 74 = .ok (.putfield 122, 3) := by decide +kernel
theorem dX7_begin_77 : decode cX7_begin 77 = .ok (.aload_n 0, 1) := by decide +kernel
theorem dX7_begin_78 : decode cX7_begin 78 = .ok (.iconst 0, 1) := by decide +kernel
theorem dX7_begin_79 : decode cX7_begin 79 = .ok (.putfield 148, 3) := by decide +kernel
theorem dX7_begin_82 : decode cX7_begin 82 = .ok (.aload_n 0, 1) := by decide +kernel
theorem dX7_begin_83 : decode cX7_begin 83 = .ok (.iconst 0, 1) := by decide +kernel
theorem dX7_begin_84 : decode cX7_begin 84 = .ok (.putfield 139, 3) := by decide +kernel
theorem dX7_begin_87 : decode cX7_begin 87 = .ok (.aload_n 0, 1) := by decide +kernel
theorem dX7_begin_88 : decode cX7_begin 88 = .ok (.iconst 0, 1) := by decide +kernel
theorem dX7_begin_89 : decode cX7_begin 89 = .ok (.putfield 145, 3) := by decide +kernel
theorem dX7_begin_92 : decode cX7_begin 92 = .ok (.aload_n 0, 1) := by decide +kernel
theorem dX7_begin_93 : decode cX7_begin 93 = .ok (.iconst 0, 1) := by decide +kernel
theorem dX7_begin_94 : decode cX7_begin 94 = .ok (.putfield 151, 3) := by decide +kernel
theorem dX7_begin_97 : decode cX7_begin 97 = .ok (.aload_n 0, 1) := by decide +kernel
theorem dX7_begin_98 : decode cX7_begin 98 = .ok (.iconst 0, 1) := by decide +kernel
theorem dX7_begin_99 : decode cX7_begin 99 = .ok (.putfield 154, 3) := by decide +kernel
theorem dX7_begin_102 : decode cX7_begin 102 = .ok (.aload_n 0, 1) := by decide +kernel
theorem dX7_begin_103 : decode cX7_begin 103 = .ok (.invokevirtual 157, 3) := by decide +kernel
theorem dX7_begin_106 : decode cX7_begin 106 = .ok (.return_, 1) := by decide +kernel
theorem dX7_start_0 : decode cX7_start 0 = .ok (.iload_n 1, 1) := by decide +kernel
theorem dX7_start_1 : decode cX7_start 1 = .ok (.iconst 2, 1) := by decide +kernel
theorem dX7_start_2 : decode cX7_start 2 = .ok (.if_icmp .lt 15, 3) := by decide +kernel
theorem dX7_start_5 : decode cX7_start 5 = .ok (.iload_n 1, 1) := by decide +kernel
theorem dX7_start_6 : decode cX7_start 6 = .ok (.iconst 3, 1) := by decide +kernel
theorem dX7_start_7 : decode cX7_start 7 = .ok (.if_icmp .gt 10, 3) := by decide +kernel
theorem dX7_start_10 : decode cX7_start 10 = .ok (.aload_n 0, 1) := by decide +kernel
theorem dX7_start_11 : decode cX7_start 11 = .ok (.getfield 107, 3) := by decide +kernel
theorem dX7_start_14 : decode cX7_start 14 = .ok (.ifCond .ne 5, 3) := by decide +kernel
theorem dX7_start_17 : decode cX7_start 17 = .ok (.iconst 0, 1) := by decide +kernel
theorem dX7_start_18 : decode cX7_start 18 = .ok (.ireturn, 1) := by decide +kernel
theorem dX7_start_19 : decode cX7_start 19 = .ok (.aload_n 0, 1) := by decide +kernel
theorem dX7_start_20 : decode cX7_start 20 = .ok (.iconst 1, 1) := by decide +kernel
theorem dX7_start_21 : decode cX7_start 21 = .ok (.putfield 101, 3) := by decide +kernel
theorem dX7_start_24 : decode cX7_start 24 = .ok (.aload_n 0, 1) := by decide +kernel
theorem dX7_start_25 : decode cX7_start 25 = .ok (.iload_n 1, 1) := by decide +kernel
theorem dX7_start_26 : decode cX7_start 26 = .ok (.putfield 160, 3) := by decide +kernel
theorem dX7_start_29 : decode cX7_start 29 = .ok (.aload_n 0, 1) := by decide +kernel
theorem dX7_start_30 : decode cX7_start 30 = .ok (.iconst 0, 1) := by decide +kernel
theorem dX7_start_31 : decode cX7_start 31 = .ok (.putfield 163, 3) := by decide +kernel
theorem dX7_start_34 : decode cX7_start 34 = .ok (.aload_n 0, 1) := by decide +kernel
theorem dX7_start_35 : decode cX7_start 35 = .ok (.iconst 0, 1) := by decide +kernel
theorem dX7_start_36 : decode cX7_start 36 = .ok (.putfield 166, 3) := by decide +kernel
theorem dX7_start_39 : decode cX7_start 39 = .ok (.aload_n 0, 1) := by decide +kernel
theorem dX7_start_40 : decode cX7_start 40 = .ok (.invokevirtual 169, 3) := by decide +kernel
theorem dX7_start_43 : decode cX7_start 43 = .ok (.iconst 1, 1) := by decide +kernel
theorem dX7_start_44 : decode cX7_start 44 = .ok (.ireturn, 1) := by decide +kernel
theorem dX7_clear_0 : decode cX7_clear 0 = .ok (.aload_n 0, 1) := by decide +kernel
theorem dX7_clear_1 : decode cX7_clear 1 = .ok (.iconst 0, 1) := by decide +kernel
theorem dX7_clear_2 : decode cX7_clear 2 = .ok (.putfield 101, 3) := by decide +kernel
theorem dX7_clear_5 : decode cX7_clear 5 = .ok (.aload_n 0, 1) := by decide +kernel
theorem dX7_clear_6 : decode cX7_clear 6 = .ok (.iconst 0, 1) := by decide +kernel
theorem dX7_clear_7 : decode cX7_clear 7 = .ok (.putfield 98, 3) := by decide +kernel
theorem dX7_clear_10 : decode cX7_clear 10 = .ok (.aload_n 0, 1) := by decide +kernel
theorem dX7_clear_11 : decode cX7_clear 11 = .ok (.iconst 0, 1) := by decide +kernel
theorem dX7_clear_12 : decode cX7_clear 12 = .ok (.putfield 107, 3) := by decide +kernel
theorem dX7_clear_15 : decode cX7_clear 15 = .ok (.aload_n 0, 1) := by decide +kernel
theorem dX7_clear_16 : decode cX7_clear 16 = .ok (.iconst 0, 1) := by decide +kernel
theorem dX7_clear_17 : decode cX7_clear 17 = .ok (.putfield 166, 3) := by decide +kernel
theorem dX7_clear_20 : decode cX7_clear 20 = .ok (.return_, 1) := by decide +kernel
theorem dX7_drawn_0 : decode cX7_drawn 0 = .ok (.aload_n 0, 1) := by decide +kernel
theorem dX7_drawn_1 : decode cX7_drawn 1 = .ok (.getfield 101, 3) := by decide +kernel
theorem dX7_drawn_4 : decode cX7_drawn 4 = .ok (.ifCond .eq 17, 3) := by decide +kernel
theorem dX7_drawn_7 : decode cX7_drawn 7 = .ok (.aload_n 0, 1) := by decide +kernel
theorem dX7_drawn_8 : decode cX7_drawn 8 = .ok (.getfield 151, 3) := by decide +kernel
theorem dX7_drawn_11 : decode cX7_drawn 11 = .ok (.ifCond .ne 10, 3) := by decide +kernel
theorem dX7_drawn_14 : decode cX7_drawn 14 = .ok (.aload_n 0, 1) := by decide +kernel
theorem dX7_drawn_15 : decode cX7_drawn 15 = .ok (.getfield 50, 3) := by decide +kernel
theorem dX7_drawn_18 : decode cX7_drawn 18 = .ok (.goto 4, 3) := by decide +kernel
theorem dX7_drawn_21 : decode cX7_drawn 21 = .ok (.iconst (-1), 1) := by decide +kernel
theorem dX7_drawn_22 : decode cX7_drawn 22 = .ok (.ireturn, 1) := by decide +kernel
theorem dX7_game_0 : decode cX7_game 0 = .ok (.iload_n 1, 1) := by decide +kernel
theorem dX7_game_1 : decode cX7_game 1 = .ok (.ifCond .lt 8, 3) := by decide +kernel
theorem dX7_game_4 : decode cX7_game 4 = .ok (.iload_n 1, 1) := by decide +kernel
theorem dX7_game_5 : decode cX7_game 5 = .ok (.iconst 5, 1) := by decide +kernel
theorem dX7_game_6 : decode cX7_game 6 = .ok (.if_icmp .le 6, 3) := by decide +kernel
theorem dX7_game_9 : decode cX7_game 9 = .ok (.bipush (-2), 2) := by decide +kernel
theorem dX7_game_11 : decode cX7_game 11 = .ok (.ireturn, 1) := by decide +kernel
theorem dX7_game_12 : decode cX7_game 12 = .ok (.aload_n 0, 1) := by decide +kernel
theorem dX7_game_13 : decode cX7_game 13 = .ok (.getfield 101, 3) := by decide +kernel
theorem dX7_game_16 : decode cX7_game 16 = .ok (.ifCond .ne 25, 3) := by decide +kernel
theorem dX7_game_19 : decode cX7_game 19 = .ok (.iload_n 1, 1) := by decide +kernel
theorem dX7_game_20 : decode cX7_game 20 = .ok (.ifCond .ne 7, 3) := by decide +kernel
theorem dX7_game_23 : decode cX7_game 23 = .ok (.iconst (-1), 1) := by decide +kernel
theorem dX7_game_24 : decode cX7_game 24 = .ok (.goto 16, 3) := by decide +kernel
theorem dX7_game_27 : decode cX7_game 27 = .ok (.iload_n 1, 1) := by decide +kernel
theorem dX7_game_28 : decode cX7_game 28 = .ok (.iconst 5, 1) := by decide +kernel
theorem dX7_game_29 : decode cX7_game 29 = .ok (.if_icmp .ne 10, 3) := by decide +kernel
theorem dX7_game_32 : decode cX7_game 32 = .ok (.aload_n 0, 1) := by decide +kernel
theorem dX7_game_33 : decode cX7_game 33 = .ok (.getfield 107, 3) := by decide +kernel
theorem dX7_game_36 : decode cX7_game 36 = .ok (.goto 4, 3) := by decide +kernel
theorem dX7_game_39 : decode cX7_game 39 = .ok (.iconst 0, 1) := by decide +kernel
theorem dX7_game_40 : decode cX7_game 40 = .ok (.ireturn, 1) := by decide +kernel
theorem dX7_game_41 : decode cX7_game 41 = .ok (.iload_n 1, 1) := by decide +kernel
theorem dX7_game_42 : decode cX7_game 42 = .ok (.tableswitch 85 0 4 #[34, 57, 62, 67, 72], 34) := by decide +kernel
theorem dX7_game_76 : decode cX7_game 76 = .ok (.aload_n 0, 1) := by decide +kernel
theorem dX7_game_77 : decode cX7_game 77 = .ok (.getfield 151, 3) := by decide +kernel
theorem dX7_game_80 : decode cX7_game 80 = .ok (.ifCond .ne 10, 3) := by decide +kernel
theorem dX7_game_83 : decode cX7_game 83 = .ok (.aload_n 0, 1) := by decide +kernel
theorem dX7_game_84 : decode cX7_game 84 = .ok (.getfield 50, 3) := by decide +kernel
theorem dX7_game_87 : decode cX7_game 87 = .ok (.ifCond .lt 10, 3) := by decide +kernel
theorem dX7_game_90 : decode cX7_game 90 = .ok (.aload_n 0, 1) := by decide +kernel
theorem dX7_game_91 : decode cX7_game 91 = .ok (.getfield 148, 3) := by decide +kernel
theorem dX7_game_94 : decode cX7_game 94 = .ok (.goto 4, 3) := by decide +kernel
theorem dX7_game_97 : decode cX7_game 97 = .ok (.iconst (-1), 1) := by decide +kernel
theorem dX7_game_98 : decode cX7_game 98 = .ok (.ireturn, 1) := by decide +kernel
theorem dX7_game_99 : decode cX7_game 99 = .ok (.aload_n 0, 1) := by decide +kernel
theorem dX7_game_100 : decode cX7_game 100 = .ok (.getfield 122, 3) := by decide +kernel
theorem dX7_game_103 : decode cX7_game 103 = .ok (.ireturn, 1) := by decide +kernel
theorem dX7_game_104 : decode cX7_game 104 = .ok (.aload_n 0, 1) := by decide +kernel
theorem dX7_game_105 : decode cX7_game 105 = .ok (.getfield 145, 3) := by decide +kernel
theorem dX7_game_108 : decode cX7_game 108 = .ok (.ireturn, 1) := by decide +kernel
theorem dX7_game_109 : decode cX7_game 109 = .ok (.aload_n 0, 1) := by decide +kernel
theorem dX7_game_110 : decode cX7_game 110 = .ok (.getfield 163, 3) := by decide +kernel
theorem dX7_game_113 : decode cX7_game 113 = .ok (.ireturn, 1) := by decide +kernel
theorem dX7_game_114 : decode cX7_game 114 = .ok (.aload_n 0, 1) := by decide +kernel
theorem dX7_game_115 : decode cX7_game 115 = .ok (.getfield 151, 3) := by decide +kernel
theorem dX7_game_118 : decode cX7_game 118 = .ok (.ifCond .eq 7, 3) := by decide +kernel
theorem dX7_game_121 : decode cX7_game 121 = .ok (.iconst 1, 1) := by decide +kernel
theorem dX7_game_122 : decode cX7_game 122 = .ok (.goto 4, 3) := by decide +kernel
theorem dX7_game_125 : decode cX7_game 125 = .ok (.iconst 0, 1) := by decide +kernel
theorem dX7_game_126 : decode cX7_game 126 = .ok (.ireturn, 1) := by decide +kernel
theorem dX7_game_127 : decode cX7_game 127 = .ok (.aload_n 0, 1) := by decide +kernel
theorem dX7_game_128 : decode cX7_game 128 = .ok (.getfield 107, 3) := by decide +kernel
theorem dX7_game_131 : decode cX7_game 131 = .ok (.aload_n 0, 1) := by decide +kernel
theorem dX7_game_132 : decode cX7_game 132 = .ok (.getfield 139, 3) := by decide +kernel
theorem dX7_game_135 : decode cX7_game 135 = .ok (.isub, 1) := by decide +kernel
theorem dX7_game_136 : decode cX7_game 136 = .ok (.ireturn, 1) := by decide +kernel
theorem dX7_isToLay_0 : decode cX7_isToLay 0 = .ok (.aload_n 0, 1) := by decide +kernel
theorem dX7_isToLay_1 : decode cX7_isToLay 1 = .ok (.getfield 101, 3) := by decide +kernel
theorem dX7_isToLay_4 : decode cX7_isToLay 4 = .ok (.ifCond .eq 21, 3) := by decide +kernel
theorem dX7_isToLay_7 : decode cX7_isToLay 7 = .ok (.aload_n 0, 1) := by decide +kernel
theorem dX7_isToLay_8 : decode cX7_isToLay 8 = .ok (.getfield 151, 3) := by decide +kernel
theorem dX7_isToLay_11 : decode cX7_isToLay 11 = .ok (.ifCond .ne 14, 3) := by decide +kernel
theorem dX7_isToLay_14 : decode cX7_isToLay 14 = .ok (.aload_n 0, 1) := by decide +kernel
theorem dX7_isToLay_15 : decode cX7_isToLay 15 = .ok (.getfield 50, 3) := by decide +kernel
theorem dX7_isToLay_18 : decode cX7_isToLay 18 = .ok (.ifCond .lt 7, 3) := by decide +kernel
theorem dX7_isToLay_21 : decode cX7_isToLay 21 = .ok (.iconst 1, 1) := by decide +kernel
theorem dX7_isToLay_22 : decode cX7_isToLay 22 = .ok (.goto 4, 3) := by decide +kernel
theorem dX7_isToLay_25 : decode cX7_isToLay 25 = .ok (.iconst 0, 1) := by decide +kernel
theorem dX7_isToLay_26 : decode cX7_isToLay 26 = .ok (.ireturn, 1) := by decide +kernel
theorem dX7_fits_0 : decode cX7_fits 0 = .ok (.aload_n 0, 1) := by decide +kernel
theorem dX7_fits_1 : decode cX7_fits 1 = .ok (.invokevirtual 184, 3) := by decide +kernel
theorem dX7_fits_4 : decode cX7_fits 4 = .ok (.ifCond .eq 16, 3) := by decide +kernel
theorem dX7_fits_7 : decode cX7_fits 7 = .ok (.iload_n 1, 1) := by decide +kernel
theorem dX7_fits_8 : decode cX7_fits 8 = .ok (.ifCond .lt 12, 3) := by decide +kernel
theorem dX7_fits_11 : decode cX7_fits 11 = .ok (.iload_n 2, 1) := by decide +kernel
theorem dX7_fits_12 : decode cX7_fits 12 = .ok (.ifCond .lt 8, 3) := by decide +kernel
theorem dX7_fits_15 : decode cX7_fits 15 = .ok (.iload_n 2, 1) := by decide +kernel
theorem dX7_fits_16 : decode cX7_fits 16 = .ok (.iconst 2, 1) := by decide +kernel
theorem dX7_fits_17 : decode cX7_fits 17 = .ok (.if_icmp .le 6, 3) := by decide +kernel
theorem dX7_fits_20 : decode cX7_fits 20 = .ok (.bipush (-100), 2) := by decide +kernel
theorem dX7_fits_22 : decode cX7_fits 22 = .ok (.ireturn, 1) := by decide +kernel
theorem dX7_fits_23 : decode cX7_fits 23 = .ok (.aload_n 0, 1) := by decide +kernel
theorem dX7_fits_24 : decode cX7_fits 24 = .ok (.aload_n 0, 1) := by decide +kernel
theorem dX7_fits_25 : decode cX7_fits 25 = .ok (.getfield 50, 3) := by decide +kernel
theorem dX7_fits_28 : decode cX7_fits 28 = .ok (.iload_n 1, 1) := by decide +kernel
theorem dX7_fits_29 : decode cX7_fits 29 = .ok (.invokevirtual 142, 3) := by decide +kernel
theorem dX7_fits_32 : decode cX7_fits 32 = .ok (.istore_n 3, 1) := by decide +kernel
theorem dX7_fits_33 : decode cX7_fits 33 = .ok (.iload_n 3, 1) := by decide +kernel
theorem dX7_fits_34 : decode cX7_fits 34 = .ok (.ifCond .ge 8, 3) := by decide +kernel
theorem dX7_fits_37 : decode cX7_fits 37 = .ok (.bipush (-100), 2) := by decide +kernel
theorem dX7_fits_39 : decode cX7_fits 39 = .ok (.goto 37, 3) := by decide +kernel
theorem dX7_fits_42 : decode cX7_fits 42 = .ok (.iload_n 2, 1) := by decide +kernel
theorem dX7_fits_43 : decode cX7_fits 43 = .ok (.ifCond .ne 15, 3) := by decide +kernel
theorem dX7_fits_46 : decode cX7_fits 46 = .ok (.iload_n 3, 1) := by decide +kernel
theorem dX7_fits_47 : decode cX7_fits 47 = .ok (.iconst 4, 1) := by decide +kernel
theorem dX7_fits_48 : decode cX7_fits 48 = .ok (.idiv, 1) := by decide +kernel
theorem dX7_fits_49 : decode cX7_fits 49 = .ok (.bipush 19, 2) := by decide +kernel
theorem dX7_fits_51 : decode cX7_fits 51 = .ok (.irem, 1) := by decide +kernel
theorem dX7_fits_52 : decode cX7_fits 52 = .ok (.bipush 9, 2) := by decide +kernel
theorem dX7_fits_54 : decode cX7_fits 54 = .ok (.isub, 1) := by decide +kernel
theorem dX7_fits_55 : decode cX7_fits 55 = .ok (.goto 21, 3) := by decide +kernel
theorem dX7_fits_58 : decode cX7_fits 58 = .ok (.iload_n 2, 1) := by decide +kernel
theorem dX7_fits_59 : decode cX7_fits 59 = .ok (.iconst 1, 1) := by decide +kernel
theorem dX7_fits_60 : decode cX7_fits 60 = .ok (.if_icmp .ne 13, 3) := by decide +kernel
theorem dX7_fits_63 : decode cX7_fits 63 = .ok (.iload_n 3, 1) := by decide +kernel
theorem dX7_fits_64 : decode cX7_fits 64 = .ok (.bipush 76, 2) := by decide +kernel
theorem dX7_fits_66 : decode cX7_fits 66 = .ok (.idiv, 1) := by decide +kernel
theorem dX7_fits_67 : decode cX7_fits 67 = .ok (.bipush 9, 2) := by decide +kernel
theorem dX7_fits_69 : decode cX7_fits 69 = .ok (.isub, 1) := by decide +kernel
theorem dX7_fits_70 : decode cX7_fits 70 = .ok (.goto 6, 3) := by decide +kernel
theorem dX7_fits_73 : decode cX7_fits 73 = .ok (.iload_n 3, 1) := by decide +kernel
theorem dX7_fits_74 : decode cX7_fits 74 = .ok (.iconst 4, 1) := by decide +kernel
theorem dX7_fits_75 : decode cX7_fits 75 = .ok (.irem, 1) := by decide +kernel
theorem dX7_fits_76 : decode cX7_fits 76 = .ok (.ireturn, 1) := by decide +kernel
theorem dX7_lay_0 : decode cX7_lay 0 = .ok (.aload_n 0, 1) := by decide +kernel
theorem dX7_lay_1 : decode cX7_lay 1 = .ok (.getfield 26, 3) := by decide +kernel
theorem dX7_lay_4 : decode cX7_lay 4 = .ok (.aload_n 0, 1) := by decide +kernel
theorem dX7_lay_5 : decode cX7_lay 5 = .ok (.getfield 122, 3) := by decide +kernel
theorem dX7_lay_8 : decode cX7_lay 8 = .ok (.iload_n 1, 1) := by decide +kernel
theorem dX7_lay_9 : decode cX7_lay 9 = .ok (.iastore, 1) := by decide +kernel
theorem dX7_lay_10 : decode cX7_lay 10 = .ok (.aload_n 0, 1) := by decide +kernel
theorem dX7_lay_11 : decode cX7_lay 11 = .ok (.getfield 29, 3) := by decide +kernel
theorem dX7_lay_14 : decode cX7_lay 14 = .ok (.aload_n 0, 1) := by decide +kernel
theorem dX7_lay_15 : decode cX7_lay 15 = .ok (.getfield 122, 3) := by decide +kernel
theorem dX7_lay_18 : decode cX7_lay 18 = .ok (.iload_n 2, 1) := by decide +kernel
theorem dX7_lay_19 : decode cX7_lay 19 = .ok (.iastore, 1) := by decide +kernel
theorem dX7_lay_20 : decode cX7_lay 20 = .ok (.aload_n 0, 1) := by decide +kernel
theorem dX7_lay_21 : decode cX7_lay 21 = .ok (.getfield 32, 3) := by decide +kernel
theorem dX7_lay_24 : decode cX7_lay 24 = .ok (.aload_n 0, 1) := by decide +kernel
theorem dX7_lay_25 : decode cX7_lay 25 = .ok (.getfield 122, 3) := by decide +kernel
theorem dX7_lay_28 : decode cX7_lay 28 = .ok (.aload_n 0, 1) := by decide +kernel
theorem dX7_lay_29 : decode cX7_lay 29 = .ok (.getfield 50, 3) := by decide +kernel
theorem dX7_lay_32 : decode cX7_lay 32 = .ok (.iastore, 1) := by decide +kernel
theorem dX7_lay_33 : decode cX7_lay 33 = .ok (.aload_n 0, 1) := by decide +kernel
theorem dX7_lay_34 : decode cX7_lay 34 = .ok (.getfield 35, 3) := by decide +kernel
theorem dX7_lay_37 : decode cX7_lay 37 = .ok (.aload_n 0, 1) := by decide +kernel
theorem dX7_lay_38 : decode cX7_lay 38 = .ok (.getfield 122, 3) := by decide +kernel
theorem dX7_lay_41 : decode cX7_lay 41 = .ok (.iload_n 3, 1) := by decide +kernel
theorem dX7_lay_42 : decode cX7_lay 42 = .ok (.iastore, 1) := by decide +kernel
theorem dX7_lay_43 : decode cX7_lay 43 = .ok (.aload_n 0, 1) := by decide +kernel
theorem dX7_lay_44 : decode cX7_lay 44 = .ok (.getfield 38, 3) := by decide +kernel
theorem dX7_lay_47 : decode cX7_lay 47 = .ok (.bipush 19, 2) := by decide +kernel
theorem dX7_lay_49 : decode cX7_lay 49 = .ok (.iload_n 2, 1) := by decide +kernel
theorem dX7_lay_50 : decode cX7_lay 50 = .ok (.imul, 1) := by decide +kernel
theorem dX7_lay_51 : decode cX7_lay 51 = .ok (.iload_n 1, 1) := by decide +kernel
theorem dX7_lay_52 : decode cX7_lay 52 = .ok (.iadd, 1) := by decide +kernel
theorem dX7_lay_53 : decode cX7_lay 53 = .ok (.sipush 180, 3) := by decide +kernel
theorem dX7_lay_56 : decode cX7_lay 56 = .ok (.iadd, 1) := by decide +kernel
theorem dX7_lay_57 : decode cX7_lay 57 = .ok (.aload_n 0, 1) := by decide +kernel
theorem dX7_lay_58 : decode cX7_lay 58 = .ok (.getfield 122, 3) := by decide +kernel
theorem dX7_lay_61 : decode cX7_lay 61 = .ok (.iastore, 1) := by decide +kernel
theorem dX7_lay_62 : decode cX7_lay 62 = .ok (.aload_n 0, 1) := by decide +kernel
theorem dX7_lay_63 : decode cX7_lay 63 = .ok (.dup, 1) := by decide +kernel
theorem dX7_lay_64 : decode cX7_lay 64 = .ok (.getfield 122, 3) := by decide +kernel
theorem dX7_lay_67 : decode cX7_lay 67 = .ok (.iconst 1, 1) := by decide +kernel
theorem dX7_lay_68 : decode cX7_lay 68 = .ok (.iadd, 1) := by decide +kernel
theorem dX7_lay_69 : decode cX7_lay 69 = .ok (.putfield 122, 3) := by decide +kernel
theorem dX7_lay_72 : decode cX7_lay 72 = .ok (.aload_n 0, 1) := by decide +kernel
theorem dX7_lay_73 : decode cX7_lay 73 = .ok (.iconst 1, 1) := by decide +kernel
theorem dX7_lay_74 : decode cX7_lay 74 = .ok (.putfield 151, 3) := by decide +kernel
theorem dX7_lay_77 : decode cX7_lay 77 = .ok (.aload_n 0, 1) := by decide +kernel
theorem dX7_lay_78 : decode cX7_lay 78 = .ok (.iconst 0, 1) := by decide +kernel
theorem dX7_lay_79 : decode cX7_lay 79 = .ok (.putfield 154, 3) := by decide +kernel
theorem dX7_lay_82 : decode cX7_lay 82 = .ok (.return_, 1) := by decide +kernel
theorem dX7_note_0 : decode cX7_note 0 = .ok (.aload_n 0, 1) := by decide +kernel
theorem dX7_note_1 : decode cX7_note 1 = .ok (.getfield 54, 3) := by decide +kernel
theorem dX7_note_4 : decode cX7_note 4 = .ok (.iconst 4, 1) := by decide +kernel
theorem dX7_note_5 : decode cX7_note 5 = .ok (.aload_n 0, 1) := by decide +kernel
theorem dX7_note_6 : decode cX7_note 6 = .ok (.getfield 163, 3) := by decide +kernel
theorem dX7_note_9 : decode cX7_note 9 = .ok (.imul, 1) := by decide +kernel
theorem dX7_note_10 : decode cX7_note 10 = .ok (.iload_n 1, 1) := by decide +kernel
theorem dX7_note_11 : decode cX7_note 11 = .ok (.iastore, 1) := by decide +kernel
theorem dX7_note_12 : decode cX7_note 12 = .ok (.aload_n 0, 1) := by decide +kernel
theorem dX7_note_13 : decode cX7_note 13 = .ok (.getfield 54, 3) := by decide +kernel
theorem dX7_note_16 : decode cX7_note 16 = .ok (.iconst 4, 1) := by decide +kernel
theorem dX7_note_17 : decode cX7_note 17 = .ok (.aload_n 0, 1) := by decide +kernel
theorem dX7_note_18 : decode cX7_note 18 = .ok (.getfield 163, 3) := by decide +kernel
theorem dX7_note_21 : decode cX7_note 21 = .ok (.imul, 1) := by decide +kernel
theorem dX7_note_22 : decode cX7_note 22 = .ok (.iconst 1, 1) := by decide +kernel
theorem dX7_note_23 : decode cX7_note 23 = .ok (.iadd, 1) := by decide +kernel
theorem dX7_note_24 : decode cX7_note 24 = .ok (.iload_n 2, 1) := by decide +kernel
theorem dX7_note_25 : decode cX7_note 25 = .ok (.iastore, 1) := by decide +kernel
theorem dX7_note_26 : decode cX7_note 26 = .ok (.aload_n 0, 1) := by decide +kernel
theorem dX7_note_27 : decode cX7_note 27 = .ok (.getfield 54, 3) := by decide +kernel
theorem dX7_note_30 : decode cX7_note 30 = .ok (.iconst 4, 1) := by decide +kernel
theorem dX7_note_31 : decode cX7_note 31 = .ok (.aload_n 0, 1) := by decide +kernel
theorem dX7_note_32 : decode cX7_note 32 = .ok (.getfield 163, 3) := by decide +kernel
theorem dX7_note_35 : decode cX7_note 35 = .ok (.imul, 1) := by decide +kernel
theorem dX7_note_36 : decode cX7_note 36 = .ok (.iconst 2, 1) := by decide +kernel
theorem dX7_note_37 : decode cX7_note 37 = .ok (.iadd, 1) := by decide +kernel
theorem dX7_note_38 : decode cX7_note 38 = .ok (.iload_n 3, 1) := by decide +kernel
theorem dX7_note_39 : decode cX7_note 39 = .ok (.iastore, 1) := by decide +kernel
theorem dX7_note_40 : decode cX7_note 40 = .ok (.aload_n 0, 1) := by decide +kernel
theorem dX7_note_41 : decode cX7_note 41 = .ok (.getfield 54, 3) := by decide +kernel
theorem dX7_note_44 : decode cX7_note 44 = .ok (.iconst 4, 1) := by decide +kernel
theorem dX7_note_45 : decode cX7_note 45 = .ok (.aload_n 0, 1) := by decide +kernel
theorem dX7_note_46 : decode cX7_note 46 = .ok (.getfield 163, 3) := by decide +kernel
theorem dX7_note_49 : decode cX7_note 49 = .ok (.imul, 1) := by decide +kernel
theorem dX7_note_50 : decode cX7_note 50 = .ok (.iconst 3, 1) := by decide +kernel
theorem dX7_note_51 : decode cX7_note 51 = .ok (.iadd, 1) := by decide +kernel
theorem dX7_note_52 : decode cX7_note 52 = .ok (.iload 4, 2) := by decide +kernel
theorem dX7_note_54 : decode cX7_note 54 = .ok (.iastore, 1) := by decide +kernel
theorem dX7_note_55 : decode cX7_note 55 = .ok (.aload_n 0, 1) := by decide +kernel
theorem dX7_note_56 : decode cX7_note 56 = .ok (.dup, 1) := by decide +kernel
theorem dX7_note_57 : decode cX7_note 57 = .ok (.getfield 163, 3) := by decide +kernel
theorem dX7_note_60 : decode cX7_note 60 = .ok (.iconst 1, 1) := by decide +kernel
theorem dX7_note_61 : decode cX7_note 61 = .ok (.iadd, 1) := by decide +kernel
theorem dX7_note_62 : decode cX7_note 62 = .ok (.putfield 163, 3) := by decide +kernel
theorem dX7_note_65 : decode cX7_note 65 = .ok (.aload_n 0, 1) := by decide +kernel
theorem dX7_note_66 : decode cX7_note 66 = .ok (.iconst 0, 1) := by decide +kernel
theorem dX7_note_67 : decode cX7_note 67 = .ok (.putfield 166, 3) := by decide +kernel
theorem dX7_note_70 : decode cX7_note 70 = .ok (.return_, 1) := by decide +kernel
theorem dX7_place_0 : decode cX7_place 0 = .ok (.aload_n 0, 1) := by decide +kernel
theorem dX7_place_1 : decode cX7_place 1 = .ok (.invokevirtual 184, 3) := by decide +kernel
theorem dX7_place_4 : decode cX7_place 4 = .ok (.ifCond .eq 17, 3) := by decide +kernel
theorem dX7_place_7 : decode cX7_place 7 = .ok (.aload_n 0, 1) := by decide +kernel
theorem dX7_place_8 : decode cX7_place 8 = .ok (.aload_n 0, 1) := by decide +kernel
theorem dX7_place_9 : decode cX7_place 9 = .ok (.getfield 50, 3) := by decide +kernel
theorem dX7_place_12 : decode cX7_place 12 = .ok (.iload_n 1, 1) := by decide +kernel
theorem dX7_place_13 : decode cX7_place 13 = .ok (.iload_n 2, 1) := by decide +kernel
theorem dX7_place_14 : decode cX7_place 14 = .ok (.iload_n 3, 1) := by decide +kernel
theorem dX7_place_15 : decode cX7_place 15 = .ok (.invokevirtual 135, 3) := by decide +kernel
theorem dX7_place_18 : decode cX7_place 18 = .ok (.ifCond .ne 6, 3) := by decide +kernel
theorem dX7_place_21 : decode cX7_place 21 = .ok (.bipush (-2), 2) := by decide +kernel
theorem dX7_place_23 : decode cX7_place 23 = .ok (.ireturn, 1) := by decide +kernel
theorem dX7_place_24 : decode cX7_place 24 = .ok (.aload_n 0, 1) := by decide +kernel
theorem dX7_place_25 : decode cX7_place 25 = .ok (.iload_n 1, 1) := by decide +kernel
theorem dX7_place_26 : decode cX7_place 26 = .ok (.iload_n 2, 1) := by decide +kernel
theorem dX7_place_27 : decode cX7_place 27 = .ok (.iload_n 3, 1) := by decide +kernel
theorem dX7_place_28 : decode cX7_place 28 = .ok (.invokevirtual 209, 3) := by decide +kernel
theorem dX7_place_31 : decode cX7_place 31 = .ok (.aload_n 0, 1) := by decide +kernel
theorem dX7_place_32 : decode cX7_place 32 = .ok (.iconst 1, 1) := by decide +kernel
theorem dX7_place_33 : decode cX7_place 33 = .ok (.iload_n 1, 1) := by decide +kernel
theorem dX7_place_34 : decode cX7_place 34 = .ok (.iload_n 2, 1) := by decide +kernel
theorem dX7_place_35 : decode cX7_place 35 = .ok (.iload_n 3, 1) := by decide +kernel
theorem dX7_place_36 : decode cX7_place 36 = .ok (.invokevirtual 213, 3) := by decide +kernel
theorem dX7_place_39 : decode cX7_place 39 = .ok (.aload_n 0, 1) := by decide +kernel
theorem dX7_place_40 : decode cX7_place 40 = .ok (.getfield 122, 3) := by decide +kernel
theorem dX7_place_43 : decode cX7_place 43 = .ok (.iconst 1, 1) := by decide +kernel
theorem dX7_place_44 : decode cX7_place 44 = .ok (.isub, 1) := by decide +kernel
theorem dX7_place_45 : decode cX7_place 45 = .ok (.ireturn, 1) := by decide +kernel
theorem dX7_kindOfPiece_0 : decode cX7_kindOfPiece 0 = .ok (.aload_n 0, 1) := by decide +kernel
theorem dX7_kindOfPiece_1 : decode cX7_kindOfPiece 1 = .ok (.getfield 13, 3) := by decide +kernel
theorem dX7_kindOfPiece_4 : decode cX7_kindOfPiece 4 = .ok (.bipush 8, 2) := by decide +kernel
theorem dX7_kindOfPiece_6 : decode cX7_kindOfPiece 6 = .ok (.aload_n 0, 1) := by decide +kernel
theorem dX7_kindOfPiece_7 : decode cX7_kindOfPiece 7 = .ok (.getfield 32, 3) := by decide +kernel
theorem dX7_kindOfPiece_10 : decode cX7_kindOfPiece 10 = .ok (.iload_n 1, 1) := by decide +kernel
theorem dX7_kindOfPiece_11 : decode cX7_kindOfPiece 11 = .ok (.bipush 8, 2) := by decide +kernel
theorem dX7_kindOfPiece_13 : decode cX7_kindOfPiece 13 = .ok (.idiv, 1) := by decide +kernel
theorem dX7_kindOfPiece_14 : decode cX7_kindOfPiece 14 = .ok (.iaload, 1) := by decide +kernel
theorem dX7_kindOfPiece_15 : decode cX7_kindOfPiece 15 = .ok (.imul, 1) := by decide +kernel
theorem dX7_kindOfPiece_16 : decode cX7_kindOfPiece 16 = .ok (.iload_n 1, 1) := by decide +kernel
theorem dX7_kindOfPiece_17 : decode cX7_kindOfPiece 17 = .ok (.bipush 8, 2) := by decide +kernel
theorem dX7_kindOfPiece_19 : decode cX7_kindOfPiece 19 = .ok (.irem, 1) := by decide +kernel
theorem dX7_kindOfPiece_20 : decode cX7_kindOfPiece 20 = .ok (.iadd, 1) := by decide +kernel
theorem dX7_kindOfPiece_21 : decode cX7_kindOfPiece 21 = .ok (.iaload, 1) := by decide +kernel
theorem dX7_kindOfPiece_22 : decode cX7_kindOfPiece 22 = .ok (.ireturn, 1) := by decide +kernel
theorem dX7_followersOf_0 : decode cX7_followersOf 0 = .ok (.iconst 0, 1) := by decide +kernel
theorem dX7_followersOf_1 : decode cX7_followersOf 1 = .ok (.istore_n 3, 1) := by decide +kernel
theorem dX7_followersOf_2 : decode cX7_followersOf 2 = .ok (.iconst 0, 1) := by decide +kernel
theorem dX7_followersOf_3 : decode cX7_followersOf 3 = .ok (.istore 4, 2) := by decide +kernel
theorem dX7_followersOf_5 : decode cX7_followersOf 5 = .ok (.iload 4, 2) := by decide +kernel
theorem dX7_followersOf_7 : decode cX7_followersOf 7 = .ok (.bipush 8, 2) := by decide +kernel
theorem dX7_followersOf_9 : decode cX7_followersOf 9 = .ok (.aload_n 0, 1) := by decide +kernel
theorem dX7_followersOf_10 : decode cX7_followersOf 10 = .ok (.getfield 122, 3) := by decide +kernel
theorem dX7_followersOf_13 : decode cX7_followersOf 13 = .ok (.imul, 1) := by decide +kernel
theorem dX7_followersOf_14 : decode cX7_followersOf 14 = .ok (.if_icmp .ge 39, 3) := by decide +kernel
theorem dX7_followersOf_17 : decode cX7_followersOf 17 = .ok (.aload_n 0, 1) := by decide +kernel
theorem dX7_followersOf_18 : decode cX7_followersOf 18 = .ok (.getfield 57, 3) := by decide +kernel
theorem dX7_followersOf_21 : decode cX7_followersOf 21 = .ok (.iload 4, 2) := by decide +kernel
theorem dX7_followersOf_23 : decode cX7_followersOf 23 = .ok (.iaload, 1) := by decide +kernel
theorem dX7_followersOf_24 : decode cX7_followersOf 24 = .ok (.iload_n 1, 1) := by decide +kernel
theorem dX7_followersOf_25 : decode cX7_followersOf 25 = .ok (.if_icmp .ne 20, 3) := by decide +kernel
theorem dX7_followersOf_28 : decode cX7_followersOf 28 = .ok (.aload_n 0, 1) := by decide +kernel
theorem dX7_followersOf_29 : decode cX7_followersOf 29 = .ok (.getfield 41, 3) := by decide +kernel
theorem dX7_followersOf_32 : decode cX7_followersOf 32 = .ok (.iload 4, 2) := by decide +kernel
theorem dX7_followersOf_34 : decode cX7_followersOf 34 = .ok (.iaload, 1) := by decide +kernel
theorem dX7_followersOf_35 : decode cX7_followersOf 35 = .ok (.iload_n 2, 1) := by decide +kernel
theorem dX7_followersOf_36 : decode cX7_followersOf 36 = .ok (.if_icmp .ne 9, 3) := by decide +kernel
theorem dX7_followersOf_39 : decode cX7_followersOf 39 = .ok (.iload_n 3, 1) := by decide +kernel
theorem dX7_followersOf_40 : decode cX7_followersOf 40 = .ok (.iconst 1, 1) := by decide +kernel
theorem dX7_followersOf_41 : decode cX7_followersOf 41 = .ok (.iadd, 1) := by decide +kernel
theorem dX7_followersOf_42 : decode cX7_followersOf 42 = .ok (.goto 4, 3) := by decide +kernel
theorem dX7_followersOf_45 : decode cX7_followersOf 45 = .ok (.iload_n 3, 1) := by decide +kernel
theorem dX7_followersOf_46 : decode cX7_followersOf 46 = .ok (.istore_n 3, 1) := by decide +kernel
theorem dX7_followersOf_47 : decode cX7_followersOf 47 = .ok (.iinc 4 1, 3) := by decide +kernel
theorem dX7_followersOf_50 : decode cX7_followersOf 50 = .ok (.goto (-45), 3) := by decide +kernel
theorem dX7_followersOf_53 : decode cX7_followersOf 53 = .ok (.iload_n 3, 1) := by decide +kernel
theorem dX7_followersOf_54 : decode cX7_followersOf 54 = .ok (.ireturn, 1) := by decide +kernel
theorem dX7_isFirst_0 : decode cX7_isFirst 0 = .ok (.aload_n 0, 1) := by decide +kernel
theorem dX7_isFirst_1 : decode cX7_isFirst 1 = .ok (.iload_n 1, 1) := by decide +kernel
theorem dX7_isFirst_2 : decode cX7_isFirst 2 = .ok (.iload_n 2, 1) := by decide +kernel
theorem dX7_isFirst_3 : decode cX7_isFirst 3 = .ok (.invokevirtual 181, 3) := by decide +kernel
theorem dX7_isFirst_6 : decode cX7_isFirst 6 = .ok (.istore_n 3, 1) := by decide +kernel
theorem dX7_isFirst_7 : decode cX7_isFirst 7 = .ok (.iload_n 3, 1) := by decide +kernel
theorem dX7_isFirst_8 : decode cX7_isFirst 8 = .ok (.ifCond .le 7, 3) := by decide +kernel
theorem dX7_isFirst_11 : decode cX7_isFirst 11 = .ok (.iconst 1, 1) := by decide +kernel
theorem dX7_isFirst_12 : decode cX7_isFirst 12 = .ok (.goto 4, 3) := by decide +kernel
theorem dX7_isFirst_15 : decode cX7_isFirst 15 = .ok (.iconst 0, 1) := by decide +kernel
theorem dX7_isFirst_16 : decode cX7_isFirst 16 = .ok (.istore 4, 2) := by decide +kernel
theorem dX7_isFirst_18 : decode cX7_isFirst 18 = .ok (.iconst 0, 1) := by decide +kernel
theorem dX7_isFirst_19 : decode cX7_isFirst 19 = .ok (.istore 5, 2) := by decide +kernel
theorem dX7_isFirst_21 : decode cX7_isFirst 21 = .ok (.iload 5, 2) := by decide +kernel
theorem dX7_isFirst_23 : decode cX7_isFirst 23 = .ok (.aload_n 0, 1) := by decide +kernel
theorem dX7_isFirst_24 : decode cX7_isFirst 24 = .ok (.getfield 160, 3) := by decide +kernel
theorem dX7_isFirst_27 : decode cX7_isFirst 27 = .ok (.if_icmp .ge 32, 3) := by decide +kernel
theorem dX7_isFirst_30 : decode cX7_isFirst 30 = .ok (.iload 4, 2) := by decide +kernel
theorem dX7_isFirst_32 : decode cX7_isFirst 32 = .ok (.ifCond .eq 18, 3) := by decide +kernel
theorem dX7_isFirst_35 : decode cX7_isFirst 35 = .ok (.aload_n 0, 1) := by decide +kernel
theorem dX7_isFirst_36 : decode cX7_isFirst 36 = .ok (.iload_n 1, 1) := by decide +kernel
theorem dX7_isFirst_37 : decode cX7_isFirst 37 = .ok (.iload 5, 2) := by decide +kernel
theorem dX7_isFirst_39 : decode cX7_isFirst 39 = .ok (.invokevirtual 181, 3) := by decide +kernel
theorem dX7_isFirst_42 : decode cX7_isFirst 42 = .ok (.iload_n 3, 1) := by decide +kernel
theorem dX7_isFirst_43 : decode cX7_isFirst 43 = .ok (.if_icmp .gt 7, 3) := by decide +kernel
theorem dX7_isFirst_46 : decode cX7_isFirst 46 = .ok (.iconst 1, 1) := by decide +kernel
theorem dX7_isFirst_47 : decode cX7_isFirst 47 = .ok (.goto 4, 3) := by decide +kernel
theorem dX7_isFirst_50 : decode cX7_isFirst 50 = .ok (.iconst 0, 1) := by decide +kernel
theorem dX7_isFirst_51 : decode cX7_isFirst 51 = .ok (.istore 4, 2) := by decide +kernel
theorem dX7_isFirst_53 : decode cX7_isFirst 53 = .ok (.iinc 5 1, 3) := by decide +kernel
theorem dX7_isFirst_56 : decode cX7_isFirst 56 = .ok (.goto (-35), 3) := by decide +kernel
theorem dX7_isFirst_59 : decode cX7_isFirst 59 = .ok (.iload 4, 2) := by decide +kernel
theorem dX7_isFirst_61 : decode cX7_isFirst 61 = .ok (.ireturn, 1) := by decide +kernel
theorem dX7_openOf_0 : decode cX7_openOf 0 = .ok (.iconst 0, 1) := by decide +kernel
theorem dX7_openOf_1 : decode cX7_openOf 1 = .ok (.istore_n 2, 1) := by decide +kernel
theorem dX7_openOf_2 : decode cX7_openOf 2 = .ok (.iconst 0, 1) := by decide +kernel
theorem dX7_openOf_3 : decode cX7_openOf 3 = .ok (.istore_n 3, 1) := by decide +kernel
theorem dX7_openOf_4 : decode cX7_openOf 4 = .ok (.iload_n 3, 1) := by decide +kernel
theorem dX7_openOf_5 : decode cX7_openOf 5 = .ok (.aload_n 0, 1) := by decide +kernel
theorem dX7_openOf_6 : decode cX7_openOf 6 = .ok (.getfield 122, 3) := by decide +kernel
theorem dX7_openOf_9 : decode cX7_openOf 9 = .ok (.if_icmp .ge 98, 3) := by decide +kernel
theorem dX7_openOf_12 : decode cX7_openOf 12 = .ok (.iconst 0, 1) := by decide +kernel
theorem dX7_openOf_13 : decode cX7_openOf 13 = .ok (.istore 4, 2) := by decide +kernel
theorem dX7_openOf_15 : decode cX7_openOf 15 = .ok (.iload 4, 2) := by decide +kernel
theorem dX7_openOf_17 : decode cX7_openOf 17 = .ok (.bipush 12, 2) := by decide +kernel
theorem dX7_openOf_19 : decode cX7_openOf 19 = .ok (.if_icmp .ge 82, 3) := by decide +kernel
theorem dX7_openOf_22 : decode cX7_openOf 22 = .ok (.aload_n 0, 1) := by decide +kernel
theorem dX7_openOf_23 : decode cX7_openOf 23 = .ok (.getfield 57, 3) := by decide +kernel
theorem dX7_openOf_26 : decode cX7_openOf 26 = .ok (.bipush 8, 2) := by decide +kernel
theorem dX7_openOf_28 : decode cX7_openOf 28 = .ok (.iload_n 3, 1) := by decide +kernel
theorem dX7_openOf_29 : decode cX7_openOf 29 = .ok (.imul, 1) := by decide +kernel
theorem dX7_openOf_30 : decode cX7_openOf 30 = .ok (.aload_n 0, 1) := by decide +kernel
theorem dX7_openOf_31 : decode cX7_openOf 31 = .ok (.aload_n 0, 1) := by decide +kernel
theorem dX7_openOf_32 : decode cX7_openOf 32 = .ok (.getfield 32, 3) := by decide +kernel
theorem dX7_openOf_35 : decode cX7_openOf 35 = .ok (.iload_n 3, 1) := by decide +kernel
theorem dX7_openOf_36 : decode cX7_openOf 36 = .ok (.iaload, 1) := by decide +kernel
theorem dX7_openOf_37 : decode cX7_openOf 37 = .ok (.aload_n 0, 1) := by decide +kernel
theorem dX7_openOf_38 : decode cX7_openOf 38 = .ok (.getfield 35, 3) := by decide +kernel
theorem dX7_openOf_41 : decode cX7_openOf 41 = .ok (.iload_n 3, 1) := by decide +kernel
theorem dX7_openOf_42 : decode cX7_openOf 42 = .ok (.iaload, 1) := by decide +kernel
theorem dX7_openOf_43 : decode cX7_openOf 43 = .ok (.iload 4, 2) := by decide +kernel
theorem dX7_openOf_45 : decode cX7_openOf 45 = .ok (.invokevirtual 118, 3) := by decide +kernel
theorem dX7_openOf_48 : decode cX7_openOf 48 = .ok (.iadd, 1) := by decide +kernel
theorem dX7_openOf_49 : decode cX7_openOf 49 = .ok (.iaload, 1) := by decide +kernel
theorem dX7_openOf_50 : decode cX7_openOf 50 = .ok (.iload_n 1, 1) := by decide +kernel
theorem dX7_openOf_51 : decode cX7_openOf 51 = .ok (.if_icmp .ne 7, 3) := by decide +kernel
theorem dX7_openOf_54 : decode cX7_openOf 54 = .ok (.iconst 1, 1) := by decide +kernel
theorem dX7_openOf_55 : decode cX7_openOf 55 = .ok (.goto 4, 3) := by decide +kernel
theorem dX7_openOf_58 : decode cX7_openOf 58 = .ok (.iconst 0, 1) := by decide +kernel
theorem dX7_openOf_59 : decode cX7_openOf 59 = .ok (.istore 5, 2) := by decide +kernel
theorem dX7_openOf_61 : decode cX7_openOf 61 = .ok (.iload 5, 2) := by decide +kernel
theorem dX7_openOf_63 : decode cX7_openOf 63 = .ok (.ifCond .eq 30, 3) := by decide +kernel
theorem dX7_openOf_66 : decode cX7_openOf 66 = .ok (.aload_n 0, 1) := by decide +kernel
theorem dX7_openOf_67 : decode cX7_openOf 67 = .ok (.aload_n 0, 1) := by decide +kernel
theorem dX7_openOf_68 : decode cX7_openOf 68 = .ok (.getfield 26, 3) := by decide +kernel
theorem dX7_openOf_71 : decode cX7_openOf 71 = .ok (.iload_n 3, 1) := by decide +kernel
theorem dX7_openOf_72 : decode cX7_openOf 72 = .ok (.iaload, 1) := by decide +kernel
theorem dX7_openOf_73 : decode cX7_openOf 73 = .ok (.aload_n 0, 1) := by decide +kernel
theorem dX7_openOf_74 : decode cX7_openOf 74 = .ok (.getfield 29, 3) := by decide +kernel
theorem dX7_openOf_77 : decode cX7_openOf 77 = .ok (.iload_n 3, 1) := by decide +kernel
theorem dX7_openOf_78 : decode cX7_openOf 78 = .ok (.iaload, 1) := by decide +kernel
theorem dX7_openOf_79 : decode cX7_openOf 79 = .ok (.iload 4, 2) := by decide +kernel
theorem dX7_openOf_81 : decode cX7_openOf 81 = .ok (.invokevirtual 125, 3) := by decide +kernel
theorem dX7_openOf_84 : decode cX7_openOf 84 = .ok (.ifCond .ge 9, 3) := by decide +kernel
theorem dX7_openOf_87 : decode cX7_openOf 87 = .ok (.iload_n 2, 1) := by decide +kernel
theorem dX7_openOf_88 : decode cX7_openOf 88 = .ok (.iconst 1, 1) := by decide +kernel
theorem dX7_openOf_89 : decode cX7_openOf 89 = .ok (.iadd, 1) := by decide +kernel
theorem dX7_openOf_90 : decode cX7_openOf 90 = .ok (.goto 4, 3) := by decide +kernel
theorem dX7_openOf_93 : decode cX7_openOf 93 = .ok (.iload_n 2, 1) := by decide +kernel
theorem dX7_openOf_94 : decode cX7_openOf 94 = .ok (.istore_n 2, 1) := by decide +kernel
theorem dX7_openOf_95 : decode cX7_openOf 95 = .ok (.iinc 4 1, 3) := by decide +kernel
theorem dX7_openOf_98 : decode cX7_openOf 98 = .ok (.goto (-83), 3) := by decide +kernel
theorem dX7_openOf_101 : decode cX7_openOf 101 = .ok (.iinc 3 1, 3) := by decide +kernel
theorem dX7_openOf_104 : decode cX7_openOf 104 = .ok (.goto (-100), 3) := by decide +kernel
theorem dX7_openOf_107 : decode cX7_openOf 107 = .ok (.iload_n 2, 1) := by decide +kernel
theorem dX7_openOf_108 : decode cX7_openOf 108 = .ok (.ireturn, 1) := by decide +kernel
theorem dX7_around_0 : decode cX7_around 0 = .ok (.iconst 0, 1) := by decide +kernel
theorem dX7_around_1 : decode cX7_around 1 = .ok (.istore_n 2, 1) := by decide +kernel
theorem dX7_around_2 : decode cX7_around 2 = .ok (.iconst 0, 1) := by decide +kernel
theorem dX7_around_3 : decode cX7_around 3 = .ok (.istore_n 3, 1) := by decide +kernel
theorem dX7_around_4 : decode cX7_around 4 = .ok (.iload_n 3, 1) := by decide +kernel
theorem dX7_around_5 : decode cX7_around 5 = .ok (.bipush 9, 2) := by decide +kernel
theorem dX7_around_7 : decode cX7_around 7 = .ok (.if_icmp .ge 53, 3) := by decide +kernel
theorem dX7_around_10 : decode cX7_around 10 = .ok (.iload_n 3, 1) := by decide +kernel
theorem dX7_around_11 : decode cX7_around 11 = .ok (.iconst 4, 1) := by decide +kernel
theorem dX7_around_12 : decode cX7_around 12 = .ok (.if_icmp .eq 40, 3) := by decide +kernel
theorem dX7_around_15 : decode cX7_around 15 = .ok (.aload_n 0, 1) := by decide +kernel
theorem dX7_around_16 : decode cX7_around 16 = .ok (.aload_n 0, 1) := by decide +kernel
theorem dX7_around_17 : decode cX7_around 17 = .ok (.getfield 26, 3) := by decide +kernel
theorem dX7_around_20 : decode cX7_around 20 = .ok (.iload_n 1, 1) := by decide +kernel
theorem dX7_around_21 : decode cX7_around 21 = .ok (.iaload, 1) := by decide +kernel
theorem dX7_around_22 : decode cX7_around 22 = .ok (.iload_n 3, 1) := by decide +kernel
theorem dX7_around_23 : decode cX7_around 23 = .ok (.iconst 3, 1) := by decide +kernel
theorem dX7_around_24 : decode cX7_around 24 = .ok (.irem, 1) := by decide +kernel
theorem dX7_around_25 : decode cX7_around 25 = .ok (.iadd, 1) := by decide +kernel
theorem dX7_around_26 : decode cX7_around 26 = .ok (.iconst 1, 1) := by decide +kernel
theorem dX7_around_27 : decode cX7_around 27 = .ok (.isub, 1) := by decide +kernel
theorem dX7_around_28 : decode cX7_around 28 = .ok (.aload_n 0, 1) := by decide +kernel
theorem dX7_around_29 : decode cX7_around 29 = .ok (.getfield 29, 3) := by decide +kernel
theorem dX7_around_32 : decode cX7_around 32 = .ok (.iload_n 1, 1) := by decide +kernel
theorem dX7_around_33 : decode cX7_around 33 = .ok (.iaload, 1) := by decide +kernel
theorem dX7_around_34 : decode cX7_around 34 = .ok (.iload_n 3, 1) := by decide +kernel
theorem dX7_around_35 : decode cX7_around 35 = .ok (.iconst 3, 1) := by decide +kernel
theorem dX7_around_36 : decode cX7_around 36 = .ok (.idiv, 1) := by decide +kernel
theorem dX7_around_37 : decode cX7_around 37 = .ok (.iadd, 1) := by decide +kernel
theorem dX7_around_38 : decode cX7_around 38 = .ok (.iconst 1, 1) := by decide +kernel
theorem dX7_around_39 : decode cX7_around 39 = .ok (.isub, 1) := by decide +kernel
theorem dX7_around_40 : decode cX7_around 40 = .ok (.invokevirtual 114, 3) := by decide +kernel
theorem dX7_around_43 : decode cX7_around 43 = .ok (.ifCond .lt 9, 3) := by decide +kernel
theorem dX7_around_46 : decode cX7_around 46 = .ok (.iload_n 2, 1) := by decide +kernel
theorem dX7_around_47 : decode cX7_around 47 = .ok (.iconst 1, 1) := by decide +kernel
theorem dX7_around_48 : decode cX7_around 48 = .ok (.iadd, 1) := by decide +kernel
theorem dX7_around_49 : decode cX7_around 49 = .ok (.goto 4, 3) := by decide +kernel
theorem dX7_around_52 : decode cX7_around 52 = .ok (.iload_n 2, 1) := by decide +kernel
theorem dX7_around_53 : decode cX7_around 53 = .ok (.istore_n 2, 1) := by decide +kernel
theorem dX7_around_54 : decode cX7_around 54 = .ok (.iinc 3 1, 3) := by decide +kernel
theorem dX7_around_57 : decode cX7_around 57 = .ok (.goto (-53), 3) := by decide +kernel
theorem dX7_around_60 : decode cX7_around 60 = .ok (.iload_n 2, 1) := by decide +kernel
theorem dX7_around_61 : decode cX7_around 61 = .ok (.ireturn, 1) := by decide +kernel
theorem dX7_isFinished_0 : decode cX7_isFinished 0 = .ok (.aload_n 0, 1) := by decide +kernel
theorem dX7_isFinished_1 : decode cX7_isFinished 1 = .ok (.iload_n 1, 1) := by decide +kernel
theorem dX7_isFinished_2 : decode cX7_isFinished 2 = .ok (.invokevirtual 172, 3) := by decide +kernel
theorem dX7_isFinished_5 : decode cX7_isFinished 5 = .ok (.istore_n 2, 1) := by decide +kernel
theorem dX7_isFinished_6 : decode cX7_isFinished 6 = .ok (.iload_n 2, 1) := by decide +kernel
theorem dX7_isFinished_7 : decode cX7_isFinished 7 = .ok (.iconst 4, 1) := by decide +kernel
theorem dX7_isFinished_8 : decode cX7_isFinished 8 = .ok (.if_icmp .ne 24, 3) := by decide +kernel
theorem dX7_isFinished_11 : decode cX7_isFinished 11 = .ok (.aload_n 0, 1) := by decide +kernel
theorem dX7_isFinished_12 : decode cX7_isFinished 12 = .ok (.iload_n 1, 1) := by decide +kernel
theorem dX7_isFinished_13 : decode cX7_isFinished 13 = .ok (.bipush 8, 2) := by decide +kernel
theorem dX7_isFinished_15 : decode cX7_isFinished 15 = .ok (.idiv, 1) := by decide +kernel
theorem dX7_isFinished_16 : decode cX7_isFinished 16 = .ok (.invokevirtual 175, 3) := by decide +kernel
theorem dX7_isFinished_19 : decode cX7_isFinished 19 = .ok (.bipush 8, 2) := by decide +kernel
theorem dX7_isFinished_21 : decode cX7_isFinished 21 = .ok (.if_icmp .ne 7, 3) := by decide +kernel
theorem dX7_isFinished_24 : decode cX7_isFinished 24 = .ok (.iconst 1, 1) := by decide +kernel
theorem dX7_isFinished_25 : decode cX7_isFinished 25 = .ok (.goto 25, 3) := by decide +kernel
theorem dX7_isFinished_28 : decode cX7_isFinished 28 = .ok (.iconst 0, 1) := by decide +kernel
theorem dX7_isFinished_29 : decode cX7_isFinished 29 = .ok (.goto 21, 3) := by decide +kernel
theorem dX7_isFinished_32 : decode cX7_isFinished 32 = .ok (.iload_n 2, 1) := by decide +kernel
theorem dX7_isFinished_33 : decode cX7_isFinished 33 = .ok (.iconst 3, 1) := by decide +kernel
theorem dX7_isFinished_34 : decode cX7_isFinished 34 = .ok (.if_icmp .eq 15, 3) := by decide +kernel
theorem dX7_isFinished_37 : decode cX7_isFinished 37 = .ok (.aload_n 0, 1) := by decide +kernel
theorem dX7_isFinished_38 : decode cX7_isFinished 38 = .ok (.iload_n 1, 1) := by decide +kernel
theorem dX7_isFinished_39 : decode cX7_isFinished 39 = .ok (.invokevirtual 178, 3) := by decide +kernel
theorem dX7_isFinished_42 : decode cX7_isFinished 42 = .ok (.ifCond .ne 7, 3) := by decide +kernel
theorem dX7_isFinished_45 : decode cX7_isFinished 45 = .ok (.iconst 1, 1) := by decide +kernel
theorem dX7_isFinished_46 : decode cX7_isFinished 46 = .ok (.goto 4, 3) := by decide +kernel
theorem dX7_isFinished_49 : decode cX7_isFinished 49 = .ok (.iconst 0, 1) := by decide +kernel
theorem dX7_isFinished_50 : decode cX7_isFinished 50 = .ok (.ireturn, 1) := by decide +kernel
theorem dX7_hasFollowers_0 : decode cX7_hasFollowers 0 = .ok (.iconst 0, 1) := by decide +kernel
theorem dX7_hasFollowers_1 : decode cX7_hasFollowers 1 = .ok (.istore_n 2, 1) := by decide +kernel
theorem dX7_hasFollowers_2 : decode cX7_hasFollowers 2 = .ok (.iconst 0, 1) := by decide +kernel
theorem dX7_hasFollowers_3 : decode cX7_hasFollowers 3 = .ok (.istore_n 3, 1) := by decide +kernel
theorem dX7_hasFollowers_4 : decode cX7_hasFollowers 4 = .ok (.iload_n 3, 1) := by decide +kernel
theorem dX7_hasFollowers_5 : decode cX7_hasFollowers 5 = .ok (.bipush 8, 2) := by decide +kernel
theorem dX7_hasFollowers_7 : decode cX7_hasFollowers 7 = .ok (.aload_n 0, 1) := by decide +kernel
theorem dX7_hasFollowers_8 : decode cX7_hasFollowers 8 = .ok (.getfield 122, 3) := by decide +kernel
theorem dX7_hasFollowers_11 : decode cX7_hasFollowers 11 = .ok (.imul, 1) := by decide +kernel
theorem dX7_hasFollowers_12 : decode cX7_hasFollowers 12 = .ok (.if_icmp .ge 38, 3) := by decide +kernel
theorem dX7_hasFollowers_15 : decode cX7_hasFollowers 15 = .ok (.iload_n 2, 1) := by decide +kernel
theorem dX7_hasFollowers_16 : decode cX7_hasFollowers 16 = .ok (.ifCond .ne 22, 3) := by decide +kernel
theorem dX7_hasFollowers_19 : decode cX7_hasFollowers 19 = .ok (.aload_n 0, 1) := by decide +kernel
theorem dX7_hasFollowers_20 : decode cX7_hasFollowers 20 = .ok (.getfield 57, 3) := by decide +kernel
theorem dX7_hasFollowers_23 : decode cX7_hasFollowers 23 = .ok (.iload_n 3, 1) := by decide +kernel
theorem dX7_hasFollowers_24 : decode cX7_hasFollowers 24 = .ok (.iaload, 1) := by decide +kernel
theorem dX7_hasFollowers_25 : decode cX7_hasFollowers 25 = .ok (.iload_n 1, 1) := by decide +kernel
theorem dX7_hasFollowers_26 : decode cX7_hasFollowers 26 = .ok (.if_icmp .ne 16, 3) := by decide +kernel
theorem dX7_hasFollowers_29 : decode cX7_hasFollowers 29 = .ok (.aload_n 0, 1) := by decide +kernel
theorem dX7_hasFollowers_30 : decode cX7_hasFollowers 30 = .ok (.getfield 41, 3) := by decide +kernel
theorem dX7_hasFollowers_33 : decode cX7_hasFollowers 33 = .ok (.iload_n 3, 1) := by decide +kernel
theorem dX7_hasFollowers_34 : decode cX7_hasFollowers 34 = .ok (.iaload, 1) := by decide +kernel
theorem dX7_hasFollowers_35 : decode cX7_hasFollowers 35 = .ok (.ifCond .lt 7, 3) := by decide +kernel
theorem dX7_hasFollowers_38 : decode cX7_hasFollowers 38 = .ok (.iconst 1, 1) := by decide +kernel
theorem dX7_hasFollowers_39 : decode cX7_hasFollowers 39 = .ok (.goto 4, 3) := by decide +kernel
theorem dX7_hasFollowers_42 : decode cX7_hasFollowers 42 = .ok (.iconst 0, 1) := by decide +kernel
theorem dX7_hasFollowers_43 : decode cX7_hasFollowers 43 = .ok (.istore_n 2, 1) := by decide +kernel
theorem dX7_hasFollowers_44 : decode cX7_hasFollowers 44 = .ok (.iinc 3 1, 3) := by decide +kernel
theorem dX7_hasFollowers_47 : decode cX7_hasFollowers 47 = .ok (.goto (-43), 3) := by decide +kernel
theorem dX7_hasFollowers_50 : decode cX7_hasFollowers 50 = .ok (.iload_n 2, 1) := by decide +kernel
theorem dX7_hasFollowers_51 : decode cX7_hasFollowers 51 = .ok (.ireturn, 1) := by decide +kernel
theorem dX7_tilesOf_0 : decode cX7_tilesOf 0 = .ok (.iconst 0, 1) := by decide +kernel
theorem dX7_tilesOf_1 : decode cX7_tilesOf 1 = .ok (.istore_n 2, 1) := by decide +kernel
theorem dX7_tilesOf_2 : decode cX7_tilesOf 2 = .ok (.iconst 0, 1) := by decide +kernel
theorem dX7_tilesOf_3 : decode cX7_tilesOf 3 = .ok (.istore_n 3, 1) := by decide +kernel
theorem dX7_tilesOf_4 : decode cX7_tilesOf 4 = .ok (.iload_n 3, 1) := by decide +kernel
theorem dX7_tilesOf_5 : decode cX7_tilesOf 5 = .ok (.aload_n 0, 1) := by decide +kernel
theorem dX7_tilesOf_6 : decode cX7_tilesOf 6 = .ok (.getfield 122, 3) := by decide +kernel
theorem dX7_tilesOf_9 : decode cX7_tilesOf 9 = .ok (.if_icmp .ge 69, 3) := by decide +kernel
theorem dX7_tilesOf_12 : decode cX7_tilesOf 12 = .ok (.iconst 0, 1) := by decide +kernel
theorem dX7_tilesOf_13 : decode cX7_tilesOf 13 = .ok (.istore 4, 2) := by decide +kernel
theorem dX7_tilesOf_15 : decode cX7_tilesOf 15 = .ok (.iconst 0, 1) := by decide +kernel
theorem dX7_tilesOf_16 : decode cX7_tilesOf 16 = .ok (.istore 5, 2) := by decide +kernel
theorem dX7_tilesOf_18 : decode cX7_tilesOf 18 = .ok (.iload 5, 2) := by decide +kernel
theorem dX7_tilesOf_20 : decode cX7_tilesOf 20 = .ok (.bipush 8, 2) := by decide +kernel
theorem dX7_tilesOf_22 : decode cX7_tilesOf 22 = .ok (.if_icmp .ge 37, 3) := by decide +kernel
theorem dX7_tilesOf_25 : decode cX7_tilesOf 25 = .ok (.iload 4, 2) := by decide +kernel
theorem dX7_tilesOf_27 : decode cX7_tilesOf 27 = .ok (.ifCond .ne 19, 3) := by decide +kernel
theorem dX7_tilesOf_30 : decode cX7_tilesOf 30 = .ok (.aload_n 0, 1) := by decide +kernel
theorem dX7_tilesOf_31 : decode cX7_tilesOf 31 = .ok (.getfield 57, 3) := by decide +kernel
theorem dX7_tilesOf_34 : decode cX7_tilesOf 34 = .ok (.bipush 8, 2) := by decide +kernel
theorem dX7_tilesOf_36 : decode cX7_tilesOf 36 = .ok (.iload_n 3, 1) := by decide +kernel
theorem dX7_tilesOf_37 : decode cX7_tilesOf 37 = .ok (.imul, 1) := by decide +kernel
theorem dX7_tilesOf_38 : decode cX7_tilesOf 38 = .ok (.iload 5, 2) := by decide +kernel
theorem dX7_tilesOf_40 : decode cX7_tilesOf 40 = .ok (.iadd, 1) := by decide +kernel
theorem dX7_tilesOf_41 : decode cX7_tilesOf 41 = .ok (.iaload, 1) := by decide +kernel
theorem dX7_tilesOf_42 : decode cX7_tilesOf 42 = .ok (.iload_n 1, 1) := by decide +kernel
theorem dX7_tilesOf_43 : decode cX7_tilesOf 43 = .ok (.if_icmp .ne 7, 3) := by decide +kernel
theorem dX7_tilesOf_46 : decode cX7_tilesOf 46 = .ok (.iconst 1, 1) := by decide +kernel
theorem dX7_tilesOf_47 : decode cX7_tilesOf 47 = .ok (.goto 4, 3) := by decide +kernel
theorem dX7_tilesOf_50 : decode cX7_tilesOf 50 = .ok (.iconst 0, 1) := by decide +kernel
theorem dX7_tilesOf_51 : decode cX7_tilesOf 51 = .ok (.istore 4, 2) := by decide +kernel
theorem dX7_tilesOf_53 : decode cX7_tilesOf 53 = .ok (.iinc 5 1, 3) := by decide +kernel
theorem dX7_tilesOf_56 : decode cX7_tilesOf 56 = .ok (.goto (-38), 3) := by decide +kernel
theorem dX7_tilesOf_59 : decode cX7_tilesOf 59 = .ok (.iload 4, 2) := by decide +kernel
theorem dX7_tilesOf_61 : decode cX7_tilesOf 61 = .ok (.ifCond .eq 9, 3) := by decide +kernel
theorem dX7_tilesOf_64 : decode cX7_tilesOf 64 = .ok (.iload_n 2, 1) := by decide +kernel
theorem dX7_tilesOf_65 : decode cX7_tilesOf 65 = .ok (.iconst 1, 1) := by decide +kernel
theorem dX7_tilesOf_66 : decode cX7_tilesOf 66 = .ok (.iadd, 1) := by decide +kernel
theorem dX7_tilesOf_67 : decode cX7_tilesOf 67 = .ok (.goto 4, 3) := by decide +kernel
theorem dX7_tilesOf_70 : decode cX7_tilesOf 70 = .ok (.iload_n 2, 1) := by decide +kernel
theorem dX7_tilesOf_71 : decode cX7_tilesOf 71 = .ok (.istore_n 2, 1) := by decide +kernel
theorem dX7_tilesOf_72 : decode cX7_tilesOf 72 = .ok (.iinc 3 1, 3) := by decide +kernel
theorem dX7_tilesOf_75 : decode cX7_tilesOf 75 = .ok (.goto (-71), 3) := by decide +kernel
theorem dX7_tilesOf_78 : decode cX7_tilesOf 78 = .ok (.iload_n 2, 1) := by decide +kernel
theorem dX7_tilesOf_79 : decode cX7_tilesOf 79 = .ok (.ireturn, 1) := by decide +kernel
theorem dX7_shieldsOf_0 : decode cX7_shieldsOf 0 = .ok (.iconst 0, 1) := by decide +kernel
theorem dX7_shieldsOf_1 : decode cX7_shieldsOf 1 = .ok (.istore_n 2, 1) := by decide +kernel
theorem dX7_shieldsOf_2 : decode cX7_shieldsOf 2 = .ok (.iconst 0, 1) := by decide +kernel
theorem dX7_shieldsOf_3 : decode cX7_shieldsOf 3 = .ok (.istore_n 3, 1) := by decide +kernel
theorem dX7_shieldsOf_4 : decode cX7_shieldsOf 4 = .ok (.iload_n 3, 1) := by decide +kernel
theorem dX7_shieldsOf_5 : decode cX7_shieldsOf 5 = .ok (.bipush 8, 2) := by decide +kernel
theorem dX7_shieldsOf_7 : decode cX7_shieldsOf 7 = .ok (.aload_n 0, 1) := by decide +kernel
theorem dX7_shieldsOf_8 : decode cX7_shieldsOf 8 = .ok (.getfield 122, 3) := by decide +kernel
theorem dX7_shieldsOf_11 : decode cX7_shieldsOf 11 = .ok (.imul, 1) := by decide +kernel
theorem dX7_shieldsOf_12 : decode cX7_shieldsOf 12 = .ok (.if_icmp .ge 52, 3) := by decide +kernel
theorem dX7_shieldsOf_15 : decode cX7_shieldsOf 15 = .ok (.aload_n 0, 1) := by decide +kernel
theorem dX7_shieldsOf_16 : decode cX7_shieldsOf 16 = .ok (.getfield 57, 3) := by decide +kernel
theorem dX7_shieldsOf_19 : decode cX7_shieldsOf 19 = .ok (.iload_n 3, 1) := by decide +kernel
theorem dX7_shieldsOf_20 : decode cX7_shieldsOf 20 = .ok (.iaload, 1) := by decide +kernel
theorem dX7_shieldsOf_21 : decode cX7_shieldsOf 21 = .ok (.iload_n 1, 1) := by decide +kernel
theorem dX7_shieldsOf_22 : decode cX7_shieldsOf 22 = .ok (.if_icmp .ne 34, 3) := by decide +kernel
theorem dX7_shieldsOf_25 : decode cX7_shieldsOf 25 = .ok (.aload_n 0, 1) := by decide +kernel
theorem dX7_shieldsOf_26 : decode cX7_shieldsOf 26 = .ok (.getfield 16, 3) := by decide +kernel
theorem dX7_shieldsOf_29 : decode cX7_shieldsOf 29 = .ok (.bipush 8, 2) := by decide +kernel
theorem dX7_shieldsOf_31 : decode cX7_shieldsOf 31 = .ok (.aload_n 0, 1) := by decide +kernel
theorem dX7_shieldsOf_32 : decode cX7_shieldsOf 32 = .ok (.getfield 32, 3) := by decide +kernel
theorem dX7_shieldsOf_35 : decode cX7_shieldsOf 35 = .ok (.iload_n 3, 1) := by decide +kernel
theorem dX7_shieldsOf_36 : decode cX7_shieldsOf 36 = .ok (.bipush 8, 2) := by decide +kernel
theorem dX7_shieldsOf_38 : decode cX7_shieldsOf 38 = .ok (.idiv, 1) := by decide +kernel
theorem dX7_shieldsOf_39 : decode cX7_shieldsOf 39 = .ok (.iaload, 1) := by decide +kernel
theorem dX7_shieldsOf_40 : decode cX7_shieldsOf 40 = .ok (.imul, 1) := by decide +kernel
theorem dX7_shieldsOf_41 : decode cX7_shieldsOf 41 = .ok (.iload_n 3, 1) := by decide +kernel
theorem dX7_shieldsOf_42 : decode cX7_shieldsOf 42 = .ok (.bipush 8, 2) := by decide +kernel
theorem dX7_shieldsOf_44 : decode cX7_shieldsOf 44 = .ok (.irem, 1) := by decide +kernel
theorem dX7_shieldsOf_45 : decode cX7_shieldsOf 45 = .ok (.iadd, 1) := by decide +kernel
theorem dX7_shieldsOf_46 : decode cX7_shieldsOf 46 = .ok (.baload, 1) := by decide +kernel
theorem dX7_shieldsOf_47 : decode cX7_shieldsOf 47 = .ok (.ifCond .eq 9, 3) := by decide +kernel
theorem dX7_shieldsOf_50 : decode cX7_shieldsOf 50 = .ok (.iload_n 2, 1) := by decide +kernel
theorem dX7_shieldsOf_51 : decode cX7_shieldsOf 51 = .ok (.iconst 1, 1) := by decide +kernel
theorem dX7_shieldsOf_52 : decode cX7_shieldsOf 52 = .ok (.iadd, 1) := by decide +kernel
theorem dX7_shieldsOf_53 : decode cX7_shieldsOf 53 = .ok (.goto 4, 3) := by decide +kernel
theorem dX7_shieldsOf_56 : decode cX7_shieldsOf 56 = .ok (.iload_n 2, 1) := by decide +kernel
theorem dX7_shieldsOf_57 : decode cX7_shieldsOf 57 = .ok (.istore_n 2, 1) := by decide +kernel
theorem dX7_shieldsOf_58 : decode cX7_shieldsOf 58 = .ok (.iinc 3 1, 3) := by decide +kernel
theorem dX7_shieldsOf_61 : decode cX7_shieldsOf 61 = .ok (.goto (-57), 3) := by decide +kernel
theorem dX7_shieldsOf_64 : decode cX7_shieldsOf 64 = .ok (.iload_n 2, 1) := by decide +kernel
theorem dX7_shieldsOf_65 : decode cX7_shieldsOf 65 = .ok (.ireturn, 1) := by decide +kernel
theorem dX7_score_0 : decode cX7_score 0 = .ok (.aload_n 0, 1) := by decide +kernel
theorem dX7_score_1 : decode cX7_score 1 = .ok (.iload_n 1, 1) := by decide +kernel
theorem dX7_score_2 : decode cX7_score 2 = .ok (.invokevirtual 194, 3) := by decide +kernel
theorem dX7_score_5 : decode cX7_score 5 = .ok (.ifCond .eq 11, 3) := by decide +kernel
theorem dX7_score_8 : decode cX7_score 8 = .ok (.aload_n 0, 1) := by decide +kernel
theorem dX7_score_9 : decode cX7_score 9 = .ok (.iload_n 1, 1) := by decide +kernel
theorem dX7_score_10 : decode cX7_score 10 = .ok (.invokevirtual 191, 3) := by decide +kernel
theorem dX7_score_13 : decode cX7_score 13 = .ok (.ifCond .ne 5, 3) := by decide +kernel
theorem dX7_score_16 : decode cX7_score 16 = .ok (.iconst 0, 1) := by decide +kernel
theorem dX7_score_17 : decode cX7_score 17 = .ok (.ireturn, 1) := by decide +kernel
theorem dX7_score_18 : decode cX7_score 18 = .ok (.aload_n 0, 1) := by decide +kernel
theorem dX7_score_19 : decode cX7_score 19 = .ok (.iload_n 1, 1) := by decide +kernel
theorem dX7_score_20 : decode cX7_score 20 = .ok (.invokevirtual 172, 3) := by decide +kernel
theorem dX7_score_23 : decode cX7_score 23 = .ok (.istore_n 2, 1) := by decide +kernel
theorem dX7_score_24 : decode cX7_score 24 = .ok (.iload_n 2, 1) := by decide +kernel
theorem dX7_score_25 : decode cX7_score 25 = .ok (.iconst 1, 1) := by decide +kernel
theorem dX7_score_26 : decode cX7_score 26 = .ok (.if_icmp .ne 19, 3) := by decide +kernel
theorem dX7_score_29 : decode cX7_score 29 = .ok (.iconst 2, 1) := by decide +kernel
theorem dX7_score_30 : decode cX7_score 30 = .ok (.aload_n 0, 1) := by decide +kernel
theorem dX7_score_31 : decode cX7_score 31 = .ok (.iload_n 1, 1) := by decide +kernel
theorem dX7_score_32 : decode cX7_score 32 = .ok (.invokevirtual 197, 3) := by decide +kernel
theorem dX7_score_35 : decode cX7_score 35 = .ok (.aload_n 0, 1) := by decide +kernel
theorem dX7_score_36 : decode cX7_score 36 = .ok (.iload_n 1, 1) := by decide +kernel
theorem dX7_score_37 : decode cX7_score 37 = .ok (.invokevirtual 200, 3) := by decide +kernel
theorem dX7_score_40 : decode cX7_score 40 = .ok (.iadd, 1) := by decide +kernel
theorem dX7_score_41 : decode cX7_score 41 = .ok (.imul, 1) := by decide +kernel
theorem dX7_score_42 : decode cX7_score 42 = .ok (.goto 18, 3) := by decide +kernel
theorem dX7_score_45 : decode cX7_score 45 = .ok (.iload_n 2, 1) := by decide +kernel
theorem dX7_score_46 : decode cX7_score 46 = .ok (.iconst 2, 1) := by decide +kernel
theorem dX7_score_47 : decode cX7_score 47 = .ok (.if_icmp .ne 11, 3) := by decide +kernel
theorem dX7_score_50 : decode cX7_score 50 = .ok (.aload_n 0, 1) := by decide +kernel
theorem dX7_score_51 : decode cX7_score 51 = .ok (.iload_n 1, 1) := by decide +kernel
theorem dX7_score_52 : decode cX7_score 52 = .ok (.invokevirtual 197, 3) := by decide +kernel
theorem dX7_score_55 : decode cX7_score 55 = .ok (.goto 5, 3) := by decide +kernel
theorem dX7_score_58 : decode cX7_score 58 = .ok (.bipush 9, 2) := by decide +kernel
theorem dX7_score_60 : decode cX7_score 60 = .ok (.istore_n 3, 1) := by decide +kernel
theorem dX7_score_61 : decode cX7_score 61 = .ok (.iconst 0, 1) := by decide +kernel
theorem dX7_score_62 : decode cX7_score 62 = .ok (.istore 4, 2) := by decide +kernel
theorem dX7_score_64 : decode cX7_score 64 = .ok (.iconst 0, 1) := by decide +kernel
theorem dX7_score_65 : decode cX7_score 65 = .ok (.istore 5, 2) := by decide +kernel
theorem dX7_score_67 : decode cX7_score 67 = .ok (.iload 5, 2) := by decide +kernel
theorem dX7_score_69 : decode cX7_score 69 = .ok (.aload_n 0, 1) := by decide +kernel
theorem dX7_score_70 : decode cX7_score 70 = .ok (.getfield 160, 3) := by decide +kernel
theorem dX7_score_73 : decode cX7_score 73 = .ok (.if_icmp .ge 41, 3) := by decide +kernel
theorem dX7_score_76 : decode cX7_score 76 = .ok (.aload_n 0, 1) := by decide +kernel
theorem dX7_score_77 : decode cX7_score 77 = .ok (.iload_n 1, 1) := by decide +kernel
theorem dX7_score_78 : decode cX7_score 78 = .ok (.iload 5, 2) := by decide +kernel
theorem dX7_score_80 : decode cX7_score 80 = .ok (.invokevirtual 203, 3) := by decide +kernel
theorem dX7_score_83 : decode cX7_score 83 = .ok (.ifCond .eq 25, 3) := by decide +kernel
theorem dX7_score_86 : decode cX7_score 86 = .ok (.aload_n 0, 1) := by decide +kernel
theorem dX7_score_87 : decode cX7_score 87 = .ok (.getfield 44, 3) := by decide +kernel
theorem dX7_score_90 : decode cX7_score 90 = .ok (.iload 5, 2) := by decide +kernel
theorem dX7_score_92 : decode cX7_score 92 = .ok (.aload_n 0, 1) := by decide +kernel
theorem dX7_score_93 : decode cX7_score 93 = .ok (.getfield 44, 3) := by decide +kernel
theorem dX7_score_96 : decode cX7_score 96 = .ok (.iload 5, 2) := by decide +kernel
theorem dX7_score_98 : decode cX7_score 98 = .ok (.iaload, 1) := by decide +kernel
theorem dX7_score_99 : decode cX7_score 99 = .ok (.iload_n 3, 1) := by decide +kernel
theorem dX7_score_100 : decode cX7_score 100 = .ok (.iadd, 1) := by decide +kernel
theorem dX7_score_101 : decode cX7_score 101 = .ok (.iastore, 1) := by decide +kernel
theorem dX7_score_102 : decode cX7_score 102 = .ok (.iload 4, 2) := by decide +kernel
theorem dX7_score_104 : decode cX7_score 104 = .ok (.iload_n 3, 1) := by decide +kernel
theorem dX7_score_105 : decode cX7_score 105 = .ok (.iadd, 1) := by decide +kernel
theorem dX7_score_106 : decode cX7_score 106 = .ok (.istore 4, 2) := by decide +kernel
theorem dX7_score_108 : decode cX7_score 108 = .ok (.iinc 5 1, 3) := by decide +kernel
theorem dX7_score_111 : decode cX7_score 111 = .ok (.goto (-44), 3) := by decide +kernel
theorem dX7_score_114 : decode cX7_score 114 = .ok (.iconst 0, 1) := by decide +kernel
theorem dX7_score_115 : decode cX7_score 115 = .ok (.istore 5, 2) := by decide +kernel
theorem dX7_score_117 : decode cX7_score 117 = .ok (.iload 5, 2) := by decide +kernel
theorem dX7_score_119 : decode cX7_score 119 = .ok (.bipush 8, 2) := by decide +kernel
theorem dX7_score_121 : decode cX7_score 121 = .ok (.aload_n 0, 1) := by decide +kernel
theorem dX7_score_122 : decode cX7_score 122 = .ok (.getfield 122, 3) := by decide +kernel
theorem dX7_score_125 : decode cX7_score 125 = .ok (.imul, 1) := by decide +kernel
theorem dX7_score_126 : decode cX7_score 126 = .ok (.if_icmp .ge 54, 3) := by decide +kernel
theorem dX7_score_129 : decode cX7_score 129 = .ok (.aload_n 0, 1) := by decide +kernel
theorem dX7_score_130 : decode cX7_score 130 = .ok (.getfield 57, 3) := by decide +kernel
theorem dX7_score_133 : decode cX7_score 133 = .ok (.iload 5, 2) := by decide +kernel
theorem dX7_score_135 : decode cX7_score 135 = .ok (.iaload, 1) := by decide +kernel
theorem dX7_score_136 : decode cX7_score 136 = .ok (.iload_n 1, 1) := by decide +kernel
theorem dX7_score_137 : decode cX7_score 137 = .ok (.if_icmp .ne 37, 3) := by decide +kernel
theorem dX7_score_140 : decode cX7_score 140 = .ok (.aload_n 0, 1) := by decide +kernel
theorem dX7_score_141 : decode cX7_score 141 = .ok (.getfield 41, 3) := by decide +kernel
theorem dX7_score_144 : decode cX7_score 144 = .ok (.iload 5, 2) := by decide +kernel
theorem dX7_score_146 : decode cX7_score 146 = .ok (.iaload, 1) := by decide +kernel
theorem dX7_score_147 : decode cX7_score 147 = .ok (.ifCond .lt 27, 3) := by decide +kernel
theorem dX7_score_150 : decode cX7_score 150 = .ok (.aload_n 0, 1) := by decide +kernel
theorem dX7_score_151 : decode cX7_score 151 = .ok (.getfield 47, 3) := by decide +kernel
theorem dX7_score_154 : decode cX7_score 154 = .ok (.aload_n 0, 1) := by decide +kernel
theorem dX7_score_155 : decode cX7_score 155 = .ok (.getfield 41, 3) := by decide +kernel
theorem dX7_score_158 : decode cX7_score 158 = .ok (.iload 5, 2) := by decide +kernel
theorem dX7_score_160 : decode cX7_score 160 = .ok (.iaload, 1) := by decide +kernel
theorem dX7_score_161 : decode cX7_score 161 = .ok (.dup2, 1) := by decide +kernel
theorem dX7_score_162 : decode cX7_score 162 = .ok (.iaload, 1) := by decide +kernel
theorem dX7_score_163 : decode cX7_score 163 = .ok (.iconst 1, 1) := by decide +kernel
theorem dX7_score_164 : decode cX7_score 164 = .ok (.iadd, 1) := by decide +kernel
theorem dX7_score_165 : decode cX7_score 165 = .ok (.iastore, 1) := by decide +kernel
theorem dX7_score_166 : decode cX7_score 166 = .ok (.aload_n 0, 1) := by decide +kernel
theorem dX7_score_167 : decode cX7_score 167 = .ok (.getfield 41, 3) := by decide +kernel
theorem dX7_score_170 : decode cX7_score 170 = .ok (.iload 5, 2) := by decide +kernel
theorem dX7_score_172 : decode cX7_score 172 = .ok (.iconst (-1), 1) := by decide +kernel
theorem dX7_score_173 : decode cX7_score 173 = .ok (.iastore, 1) := by decide +kernel
theorem dX7_score_174 : decode cX7_score 174 = .ok (.iinc 5 1, 3) := by decide +kernel
theorem dX7_score_177 : decode cX7_score 177 = .ok (.goto (-60), 3) := by decide +kernel
theorem dX7_score_180 : decode cX7_score 180 = .ok (.iload 4, 2) := by decide +kernel
theorem dX7_score_182 : decode cX7_score 182 = .ok (.ireturn, 1) := by decide +kernel
theorem dX7_giveLabels_0 : decode cX7_giveLabels 0 = .ok (.aload_n 0, 1) := by decide +kernel
theorem dX7_giveLabels_1 : decode cX7_giveLabels 1 = .ok (.getfield 154, 3) := by decide +kernel
theorem dX7_giveLabels_4 : decode cX7_giveLabels 4 = .ok (.ifCond .eq 4, 3) := by decide +kernel
theorem dX7_giveLabels_7 : decode cX7_giveLabels 7 = .ok (.return_, 1) := by decide +kernel
theorem dX7_giveLabels_8 : decode cX7_giveLabels 8 = .ok (.iconst 0, 1) := by decide +kernel
theorem dX7_giveLabels_9 : decode cX7_giveLabels 9 = .ok (.istore_n 1, 1) := by decide +kernel
theorem dX7_giveLabels_10 : decode cX7_giveLabels 10 = .ok (.iload_n 1, 1) := by decide +kernel
theorem dX7_giveLabels_11 : decode cX7_giveLabels 11 = .ok (.sipush 192, 3) := by decide +kernel
theorem dX7_giveLabels_14 : decode cX7_giveLabels 14 = .ok (.if_icmp .ge 16, 3) := by decide +kernel
theorem dX7_giveLabels_17 : decode cX7_giveLabels 17 = .ok (.aload_n 0, 1) := by decide +kernel
theorem dX7_giveLabels_18 : decode cX7_giveLabels 18 = .ok (.getfield 57, 3) := by decide +kernel
theorem dX7_giveLabels_21 : decode cX7_giveLabels 21 = .ok (.iload_n 1, 1) := by decide +kernel
theorem dX7_giveLabels_22 : decode cX7_giveLabels 22 = .ok (.iload_n 1, 1) := by decide +kernel
theorem dX7_giveLabels_23 : decode cX7_giveLabels 23 = .ok (.iastore, 1) := by decide +kernel
theorem dX7_giveLabels_24 : decode cX7_giveLabels 24 = .ok (.iinc 1 1, 3) := by decide +kernel
theorem dX7_giveLabels_27 : decode cX7_giveLabels 27 = .ok (.goto (-17), 3) := by decide +kernel
theorem dX7_giveLabels_30 : decode cX7_giveLabels 30 = .ok (.iconst 0, 1) := by decide +kernel
theorem dX7_giveLabels_31 : decode cX7_giveLabels 31 = .ok (.istore_n 1, 1) := by decide +kernel
theorem dX7_giveLabels_32 : decode cX7_giveLabels 32 = .ok (.iload_n 1, 1) := by decide +kernel
theorem dX7_giveLabels_33 : decode cX7_giveLabels 33 = .ok (.aload_n 0, 1) := by decide +kernel
theorem dX7_giveLabels_34 : decode cX7_giveLabels 34 = .ok (.getfield 122, 3) := by decide +kernel
theorem dX7_giveLabels_37 : decode cX7_giveLabels 37 = .ok (.if_icmp .ge 185, 3) := by decide +kernel
theorem dX7_giveLabels_40 : decode cX7_giveLabels 40 = .ok (.iconst 0, 1) := by decide +kernel
theorem dX7_giveLabels_41 : decode cX7_giveLabels 41 = .ok (.istore_n 2, 1) := by decide +kernel
theorem dX7_giveLabels_42 : decode cX7_giveLabels 42 = .ok (.iload_n 2, 1) := by decide +kernel
theorem dX7_giveLabels_43 : decode cX7_giveLabels 43 = .ok (.bipush 12, 2) := by decide +kernel
theorem dX7_giveLabels_45 : decode cX7_giveLabels 45 = .ok (.if_icmp .ge 171, 3) := by decide +kernel
theorem dX7_giveLabels_48 : decode cX7_giveLabels 48 = .ok (.aload_n 0, 1) := by decide +kernel
theorem dX7_giveLabels_49 : decode cX7_giveLabels 49 = .ok (.aload_n 0, 1) := by decide +kernel
theorem dX7_giveLabels_50 : decode cX7_giveLabels 50 = .ok (.getfield 26, 3) := by decide +kernel
theorem dX7_giveLabels_53 : decode cX7_giveLabels 53 = .ok (.iload_n 1, 1) := by decide +kernel
theorem dX7_giveLabels_54 : decode cX7_giveLabels 54 = .ok (.iaload, 1) := by decide +kernel
theorem dX7_giveLabels_55 : decode cX7_giveLabels 55 = .ok (.aload_n 0, 1) := by decide +kernel
theorem dX7_giveLabels_56 : decode cX7_giveLabels 56 = .ok (.getfield 29, 3) := by decide +kernel
theorem dX7_giveLabels_59 : decode cX7_giveLabels 59 = .ok (.iload_n 1, 1) := by decide +kernel
theorem dX7_giveLabels_60 : decode cX7_giveLabels 60 = .ok (.iaload, 1) := by decide +kernel
theorem dX7_giveLabels_61 : decode cX7_giveLabels 61 = .ok (.iload_n 2, 1) := by decide +kernel
theorem dX7_giveLabels_62 : decode cX7_giveLabels 62 = .ok (.invokevirtual 125, 3) := by decide +kernel
theorem dX7_giveLabels_65 : decode cX7_giveLabels 65 = .ok (.istore_n 3, 1) := by decide +kernel
theorem dX7_giveLabels_66 : decode cX7_giveLabels 66 = .ok (.iload_n 3, 1) := by decide +kernel
theorem dX7_giveLabels_67 : decode cX7_giveLabels 67 = .ok (.ifCond .lt 143, 3) := by decide +kernel
theorem dX7_giveLabels_70 : decode cX7_giveLabels 70 = .ok (.aload_n 0, 1) := by decide +kernel
theorem dX7_giveLabels_71 : decode cX7_giveLabels 71 = .ok (.getfield 57, 3) := by decide +kernel
theorem dX7_giveLabels_74 : decode cX7_giveLabels 74 = .ok (.bipush 8, 2) := by decide +kernel
theorem dX7_giveLabels_76 : decode cX7_giveLabels 76 = .ok (.iload_n 1, 1) := by decide +kernel
theorem dX7_giveLabels_77 : decode cX7_giveLabels 77 = .ok (.imul, 1) := by decide +kernel
theorem dX7_giveLabels_78 : decode cX7_giveLabels 78 = .ok (.aload_n 0, 1) := by decide +kernel
theorem dX7_giveLabels_79 : decode cX7_giveLabels 79 = .ok (.aload_n 0, 1) := by decide +kernel
theorem dX7_giveLabels_80 : decode cX7_giveLabels 80 = .ok (.getfield 32, 3) := by decide +kernel
theorem dX7_giveLabels_83 : decode cX7_giveLabels 83 = .ok (.iload_n 1, 1) := by decide +kernel
theorem dX7_giveLabels_84 : decode cX7_giveLabels 84 = .ok (.iaload, 1) := by decide +kernel
theorem dX7_giveLabels_85 : decode cX7_giveLabels 85 = .ok (.aload_n 0, 1) := by decide +kernel
theorem dX7_giveLabels_86 : decode cX7_giveLabels 86 = .ok (.getfield 35, 3) := by decide +kernel
theorem dX7_giveLabels_89 : decode cX7_giveLabels 89 = .ok (.iload_n 1, 1) := by decide +kernel
theorem dX7_giveLabels_90 : decode cX7_giveLabels 90 = .ok (.iaload, 1) := by decide +kernel
theorem dX7_giveLabels_91 : decode cX7_giveLabels 91 = .ok (.iload_n 2, 1) := by decide +kernel
theorem dX7_giveLabels_92 : decode cX7_giveLabels 92 = .ok (.invokevirtual 118, 3) := by decide +kernel
theorem dX7_giveLabels_95 : decode cX7_giveLabels 95 = .ok (.iadd, 1) := by decide +kernel
theorem dX7_giveLabels_96 : decode cX7_giveLabels 96 = .ok (.iaload, 1) := by decide +kernel
theorem dX7_giveLabels_97 : decode cX7_giveLabels 97 = .ok (.istore 4, 2) := by decide +kernel
theorem dX7_giveLabels_99 : decode cX7_giveLabels 99 = .ok (.aload_n 0, 1) := by decide +kernel
theorem dX7_giveLabels_100 : decode cX7_giveLabels 100 = .ok (.getfield 57, 3) := by decide +kernel
theorem dX7_giveLabels_103 : decode cX7_giveLabels 103 = .ok (.bipush 8, 2) := by decide +kernel
theorem dX7_giveLabels_105 : decode cX7_giveLabels 105 = .ok (.iload_n 3, 1) := by decide +kernel
theorem dX7_giveLabels_106 : decode cX7_giveLabels 106 = .ok (.imul, 1) := by decide +kernel
theorem dX7_giveLabels_107 : decode cX7_giveLabels 107 = .ok (.aload_n 0, 1) := by decide +kernel
theorem dX7_giveLabels_108 : decode cX7_giveLabels 108 = .ok (.aload_n 0, 1) := by decide +kernel
theorem dX7_giveLabels_109 : decode cX7_giveLabels 109 = .ok (.getfield 32, 3) := by decide +kernel
theorem dX7_giveLabels_112 : decode cX7_giveLabels 112 = .ok (.iload_n 3, 1) := by decide +kernel
theorem dX7_giveLabels_113 : decode cX7_giveLabels 113 = .ok (.iaload, 1) := by decide +kernel
theorem dX7_giveLabels_114 : decode cX7_giveLabels 114 = .ok (.aload_n 0, 1) := by decide +kernel
theorem dX7_giveLabels_115 : decode cX7_giveLabels 115 = .ok (.getfield 35, 3) := by decide +kernel
theorem dX7_giveLabels_118 : decode cX7_giveLabels 118 = .ok (.iload_n 3, 1) := by decide +kernel
theorem dX7_giveLabels_119 : decode cX7_giveLabels 119 = .ok (.iaload, 1) := by decide +kernel
theorem dX7_giveLabels_120 : decode cX7_giveLabels 120 = .ok (.iload_n 2, 1) := by decide +kernel
theorem dX7_giveLabels_121 : decode cX7_giveLabels 121 = .ok (.invokestatic 128, 3) := by decide +kernel
theorem dX7_giveLabels_124 : decode cX7_giveLabels 124 = .ok (.invokevirtual 118, 3) := by decide +kernel
theorem dX7_giveLabels_127 : decode cX7_giveLabels 127 = .ok (.iadd, 1) := by decide +kernel
theorem dX7_giveLabels_128 : decode cX7_giveLabels 128 = .ok (.iaload, 1) := by decide +kernel
theorem dX7_giveLabels_129 : decode cX7_giveLabels 129 = .ok (.istore 5, 2) := by decide +kernel
theorem dX7_giveLabels_131 : decode cX7_giveLabels 131 = .ok (.iconst 0, 1) := by decide +kernel
theorem dX7_giveLabels_132 : decode cX7_giveLabels 132 = .ok (.istore 6, 2) := by decide +kernel
theorem dX7_giveLabels_134 : decode cX7_giveLabels 134 = .ok (.iload 6, 2) := by decide +kernel
theorem dX7_giveLabels_136 : decode cX7_giveLabels 136 = .ok (.sipush 192, 3) := by decide +kernel
theorem dX7_giveLabels_139 : decode cX7_giveLabels 139 = .ok (.if_icmp .ge 71, 3) := by decide +kernel
theorem dX7_giveLabels_142 : decode cX7_giveLabels 142 = .ok (.iload 4, 2) := by decide +kernel
theorem dX7_giveLabels_144 : decode cX7_giveLabels 144 = .ok (.iload 5, 2) := by decide +kernel
theorem dX7_giveLabels_146 : decode cX7_giveLabels 146 = .ok (.if_icmp .eq 64, 3) := by decide +kernel
theorem dX7_giveLabels_149 : decode cX7_giveLabels 149 = .ok (.aload_n 0, 1) := by decide +kernel
theorem dX7_giveLabels_150 : decode cX7_giveLabels 150 = .ok (.getfield 57, 3) := by decide +kernel
