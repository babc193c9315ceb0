theorem dX7_endPerson_207 : decode cX7_endPerson 207 = .ok (.iload_n 3, 1) := by decide +kernel
theorem dX7_endPerson_208 : decode cX7_endPerson 208 = .ok (.if_icmp .ge 7, 3) := by decide +kernel
theorem dX7_endPerson_211 : decode cX7_endPerson 211 = .ok (.iconst 2, 1) := by decide +kernel
theorem dX7_endPerson_212 : decode cX7_endPerson 212 = .ok (.goto 4, 3) := by decide +kernel
theorem dX7_endPerson_215 : decode cX7_endPerson 215 = .ok (.iconst 0, 1) := by decide +kernel
theorem dX7_endPerson_216 : decode cX7_endPerson 216 = .ok (.iastore, 1) := by decide +kernel
theorem dX7_endPerson_217 : decode cX7_endPerson 217 = .ok (.iinc 8 1, 3) := by decide +kernel
theorem dX7_endPerson_220 : decode cX7_endPerson 220 = .ok (.goto (-31), 3) := by decide +kernel
theorem dX7_endPerson_223 : decode cX7_endPerson 223 = .ok (.aload_n 0, 1) := by decide +kernel
theorem dX7_endPerson_224 : decode cX7_endPerson 224 = .ok (.getfield 49, 3) := by decide +kernel
theorem dX7_endPerson_227 : decode cX7_endPerson 227 = .ok (.iload_n 1, 1) := by decide +kernel
theorem dX7_endPerson_228 : decode cX7_endPerson 228 = .ok (.dup2, 1) := by decide +kernel
theorem dX7_endPerson_229 : decode cX7_endPerson 229 = .ok (.iaload, 1) := by decide +kernel
theorem dX7_endPerson_230 : decode cX7_endPerson 230 = .ok (.iconst 1, 1) := by decide +kernel
theorem dX7_endPerson_231 : decode cX7_endPerson 231 = .ok (.iadd, 1) := by decide +kernel
theorem dX7_endPerson_232 : decode cX7_endPerson 232 = .ok (.iastore, 1) := by decide +kernel
theorem dX7_endPerson_233 : decode cX7_endPerson 233 = .ok (.return_, 1) := by decide +kernel
theorem dX7_read_0 : decode cX7_read 0 = .ok (.aload_n 0, 1) := by decide +kernel
theorem dX7_read_1 : decode cX7_read 1 = .ok (.getfield 34, 3) := by decide +kernel
theorem dX7_read_4 : decode cX7_read 4 = .ok (.iload_n 1, 1) := by decide +kernel
theorem dX7_read_5 : decode cX7_read 5 = .ok (.iconst 0, 1) := by decide +kernel
theorem dX7_read_6 : decode cX7_read 6 = .ok (.iastore, 1) := by decide +kernel
theorem dX7_read_7 : decode cX7_read 7 = .ok (.aload_n 0, 1) := by decide +kernel
theorem dX7_read_8 : decode cX7_read 8 = .ok (.getfield 49, 3) := by decide +kernel
theorem dX7_read_11 : decode cX7_read 11 = .ok (.iload_n 1, 1) := by decide +kernel
theorem dX7_read_12 : decode cX7_read 12 = .ok (.iconst 0, 1) := by decide +kernel
theorem dX7_read_13 : decode cX7_read 13 = .ok (.iastore, 1) := by decide +kernel
theorem dX7_read_14 : decode cX7_read 14 = .ok (.aload_n 0, 1) := by decide +kernel
theorem dX7_read_15 : decode cX7_read 15 = .ok (.iload_n 2, 1) := by decide +kernel
theorem dX7_read_16 : decode cX7_read 16 = .ok (.iconst 0, 1) := by decide +kernel
theorem dX7_read_17 : decode cX7_read 17 = .ok (.invokevirtual 125, 3) := by decide +kernel
theorem dX7_read_20 : decode cX7_read 20 = .ok (.istore_n 3, 1) := by decide +kernel
theorem dX7_read_21 : decode cX7_read 21 = .ok (.iload_n 3, 1) := by decide +kernel
theorem dX7_read_22 : decode cX7_read 22 = .ok (.iconst (-1), 1) := by decide +kernel
theorem dX7_read_23 : decode cX7_read 23 = .ok (.if_icmp .ne 7, 3) := by decide +kernel
theorem dX7_read_26 : decode cX7_read 26 = .ok (.iconst 0, 1) := by decide +kernel
theorem dX7_read_27 : decode cX7_read 27 = .ok (.goto 9, 3) := by decide +kernel
theorem dX7_read_30 : decode cX7_read 30 = .ok (.aload_n 0, 1) := by decide +kernel
theorem dX7_read_31 : decode cX7_read 31 = .ok (.getfield 19, 3) := by decide +kernel
theorem dX7_read_34 : decode cX7_read 34 = .ok (.iload_n 3, 1) := by decide +kernel
theorem dX7_read_35 : decode cX7_read 35 = .ok (.iaload, 1) := by decide +kernel
theorem dX7_read_36 : decode cX7_read 36 = .ok (.istore 4, 2) := by decide +kernel
theorem dX7_read_38 : decode cX7_read 38 = .ok (.bipush 80, 2) := by decide +kernel
theorem dX7_read_40 : decode cX7_read 40 = .ok (.iload_n 1, 1) := by decide +kernel
theorem dX7_read_41 : decode cX7_read 41 = .ok (.imul, 1) := by decide +kernel
theorem dX7_read_42 : decode cX7_read 42 = .ok (.istore 5, 2) := by decide +kernel
theorem dX7_read_44 : decode cX7_read 44 = .ok (.iconst 0, 1) := by decide +kernel
theorem dX7_read_45 : decode cX7_read 45 = .ok (.istore 6, 2) := by decide +kernel
theorem dX7_read_47 : decode cX7_read 47 = .ok (.iload 6, 2) := by decide +kernel
theorem dX7_read_49 : decode cX7_read 49 = .ok (.iload 4, 2) := by decide +kernel
theorem dX7_read_51 : decode cX7_read 51 = .ok (.if_icmp .ge 31, 3) := by decide +kernel
theorem dX7_read_54 : decode cX7_read 54 = .ok (.aload_n 0, 1) := by decide +kernel
theorem dX7_read_55 : decode cX7_read 55 = .ok (.getfield 31, 3) := by decide +kernel
theorem dX7_read_58 : decode cX7_read 58 = .ok (.iload 5, 2) := by decide +kernel
theorem dX7_read_60 : decode cX7_read 60 = .ok (.iload 6, 2) := by decide +kernel
theorem dX7_read_62 : decode cX7_read 62 = .ok (.iadd, 1) := by decide +kernel
theorem dX7_read_63 : decode cX7_read 63 = .ok (.aload_n 0, 1) := by decide +kernel
theorem dX7_read_64 : decode cX7_read 64 = .ok (.getfield 22, 3) := by decide +kernel
theorem dX7_read_67 : decode cX7_read 67 = .ok (.bipush 80, 2) := by decide +kernel
theorem dX7_read_69 : decode cX7_read 69 = .ok (.iload_n 3, 1) := by decide +kernel
theorem dX7_read_70 : decode cX7_read 70 = .ok (.imul, 1) := by decide +kernel
theorem dX7_read_71 : decode cX7_read 71 = .ok (.iload 6, 2) := by decide +kernel
theorem dX7_read_73 : decode cX7_read 73 = .ok (.iadd, 1) := by decide +kernel
theorem dX7_read_74 : decode cX7_read 74 = .ok (.iaload, 1) := by decide +kernel
theorem dX7_read_75 : decode cX7_read 75 = .ok (.iastore, 1) := by decide +kernel
theorem dX7_read_76 : decode cX7_read 76 = .ok (.iinc 6 1, 3) := by decide +kernel
theorem dX7_read_79 : decode cX7_read 79 = .ok (.goto (-32), 3) := by decide +kernel
theorem dX7_read_82 : decode cX7_read 82 = .ok (.iconst 0, 1) := by decide +kernel
theorem dX7_read_83 : decode cX7_read 83 = .ok (.istore 6, 2) := by decide +kernel
theorem dX7_read_85 : decode cX7_read 85 = .ok (.iconst (-1), 1) := by decide +kernel
theorem dX7_read_86 : decode cX7_read 86 = .ok (.istore 7, 2) := by decide +kernel
theorem dX7_read_88 : decode cX7_read 88 = .ok (.iconst 0, 1) := by decide +kernel
theorem dX7_read_89 : decode cX7_read 89 = .ok (.istore 8, 2) := by decide +kernel
theorem dX7_read_91 : decode cX7_read 91 = .ok (.iload 8, 2) := by decide +kernel
theorem dX7_read_93 : decode cX7_read 93 = .ok (.iload 4, 2) := by decide +kernel
theorem dX7_read_95 : decode cX7_read 95 = .ok (.if_icmp .ge 268, 3) := by decide +kernel
theorem dX7_read_98 : decode cX7_read 98 = .ok (.aload_n 0, 1) := by decide +kernel
theorem dX7_read_99 : decode cX7_read 99 = .ok (.getfield 31, 3) := by decide +kernel
theorem dX7_read_102 : decode cX7_read 102 = .ok (.iload 5, 2) := by decide +kernel
theorem dX7_read_104 : decode cX7_read 104 = .ok (.iload 8, 2) := by decide +kernel
theorem dX7_read_106 : decode cX7_read 106 = .ok (.iadd, 1) := by decide +kernel
theorem dX7_read_107 : decode cX7_read 107 = .ok (.iaload, 1) := by decide +kernel
theorem dX7_read_108 : decode cX7_read 108 = .ok (.bipush 32, 2) := by decide +kernel
theorem dX7_read_110 : decode cX7_read 110 = .ok (.if_icmp .ne 9, 3) := by decide +kernel
theorem dX7_read_113 : decode cX7_read 113 = .ok (.iinc 8 1, 3) := by decide +kernel
theorem dX7_read_116 : decode cX7_read 116 = .ok (.goto (-25), 3) := by decide +kernel
theorem dX7_read_119 : decode cX7_read 119 = .ok (.iload 8, 2) := by decide +kernel
theorem dX7_read_121 : decode cX7_read 121 = .ok (.istore 9, 2) := by decide +kernel
theorem dX7_read_123 : decode cX7_read 123 = .ok (.iload 9, 2) := by decide +kernel
theorem dX7_read_125 : decode cX7_read 125 = .ok (.iload 4, 2) := by decide +kernel
theorem dX7_read_127 : decode cX7_read 127 = .ok (.if_icmp .ge 24, 3) := by decide +kernel
theorem dX7_read_130 : decode cX7_read 130 = .ok (.aload_n 0, 1) := by decide +kernel
theorem dX7_read_131 : decode cX7_read 131 = .ok (.getfield 31, 3) := by decide +kernel
theorem dX7_read_134 : decode cX7_read 134 = .ok (.iload 5, 2) := by decide +kernel
theorem dX7_read_136 : decode cX7_read 136 = .ok (.iload 9, 2) := by decide +kernel
theorem dX7_read_138 : decode cX7_read 138 = .ok (.iadd, 1) := by decide +kernel
theorem dX7_read_139 : decode cX7_read 139 = .ok (.iaload, 1) := by decide +kernel
theorem dX7_read_140 : decode cX7_read 140 = .ok (.bipush 32, 2) := by decide +kernel
theorem dX7_read_142 : decode cX7_read 142 = .ok (.if_icmp .eq 9, 3) := by decide +kernel
theorem dX7_read_145 : decode cX7_read 145 = .ok (.iinc 9 1, 3) := by decide +kernel
theorem dX7_read_148 : decode cX7_read 148 = .ok (.goto (-25), 3) := by decide +kernel
theorem dX7_read_151 : decode cX7_read 151 = .ok (.iload 9, 2) := by decide +kernel
theorem dX7_read_153 : decode cX7_read 153 = .ok (.iload 8, 2) := by decide +kernel
theorem dX7_read_155 : decode cX7_read 155 = .ok (.iconst 3, 1) := by decide +kernel
theorem dX7_read_156 : decode cX7_read 156 = .ok (.iadd, 1) := by decide +kernel
theorem dX7_read_157 : decode cX7_read 157 = .ok (.if_icmp .ne 56, 3) := by decide +kernel
theorem dX7_read_160 : decode cX7_read 160 = .ok (.aload_n 0, 1) := by decide +kernel
theorem dX7_read_161 : decode cX7_read 161 = .ok (.getfield 31, 3) := by decide +kernel
theorem dX7_read_164 : decode cX7_read 164 = .ok (.iload 5, 2) := by decide +kernel
theorem dX7_read_166 : decode cX7_read 166 = .ok (.iload 8, 2) := by decide +kernel
theorem dX7_read_168 : decode cX7_read 168 = .ok (.iadd, 1) := by decide +kernel
theorem dX7_read_169 : decode cX7_read 169 = .ok (.iaload, 1) := by decide +kernel
theorem dX7_read_170 : decode cX7_read 170 = .ok (.bipush 97, 2) := by decide +kernel
theorem dX7_read_172 : decode cX7_read 172 = .ok (.if_icmp .ne 41, 3) := by decide +kernel
theorem dX7_read_175 : decode cX7_read 175 = .ok (.aload_n 0, 1) := by decide +kernel
theorem dX7_read_176 : decode cX7_read 176 = .ok (.getfield 31, 3) := by decide +kernel
theorem dX7_read_179 : decode cX7_read 179 = .ok (.iload 5, 2) := by decide +kernel
theorem dX7_read_181 : decode cX7_read 181 = .ok (.iload 8, 2) := by decide +kernel
theorem dX7_read_183 : decode cX7_read 183 = .ok (.iadd, 1) := by decide +kernel
theorem dX7_read_184 : decode cX7_read 184 = .ok (.iconst 1, 1) := by decide +kernel
theorem dX7_read_185 : decode cX7_read 185 = .ok (.iadd, 1) := by decide +kernel
theorem dX7_read_186 : decode cX7_read 186 = .ok (.iaload, 1) := by decide +kernel
theorem dX7_read_187 : decode cX7_read 187 = .ok (.bipush 110, 2) := by decide +kernel
theorem dX7_read_189 : decode cX7_read 189 = .ok (.if_icmp .ne 24, 3) := by decide +kernel
theorem dX7_read_192 : decode cX7_read 192 = .ok (.aload_n 0, 1) := by decide +kernel
theorem dX7_read_193 : decode cX7_read 193 = .ok (.getfield 31, 3) := by decide +kernel
theorem dX7_read_196 : decode cX7_read 196 = .ok (.iload 5, 2) := by decide +kernel
theorem dX7_read_198 : decode cX7_read 198 = .ok (.iload 8, 2) := by decide +kernel
theorem dX7_read_200 : decode cX7_read 200 = .ok (.iadd, 1) := by decide +kernel
theorem dX7_read_201 : decode cX7_read 201 = .ok (.iconst 2, 1) := by decide +kernel
theorem dX7_read_202 : decode cX7_read 202 = .ok (.iadd, 1) := by decide +kernel
theorem dX7_read_203 : decode cX7_read 203 = .ok (.iaload, 1) := by decide +kernel
theorem dX7_read_204 : decode cX7_read 204 = .ok (.bipush 100, 2) := by decide +kernel
theorem dX7_read_206 : decode cX7_read 206 = .ok (.if_icmp .ne 7, 3) := by decide +kernel
theorem dX7_read_209 : decode cX7_read 209 = .ok (.iconst 1, 1) := by decide +kernel
theorem dX7_read_210 : decode cX7_read 210 = .ok (.goto 4, 3) := by decide +kernel
theorem dX7_read_213 : decode cX7_read 213 = .ok (.iconst 0, 1) := by decide +kernel
theorem dX7_read_214 : decode cX7_read 214 = .ok (.istore 10, 2) := by decide +kernel
theorem dX7_read_216 : decode cX7_read 216 = .ok (.iload 10, 2) := by decide +kernel
theorem dX7_read_218 : decode cX7_read 218 = .ok (.ifCond .eq 26, 3) := by decide +kernel
theorem dX7_read_221 : decode cX7_read 221 = .ok (.aload_n 0, 1) := by decide +kernel
theorem dX7_read_222 : decode cX7_read 222 = .ok (.iload_n 1, 1) := by decide +kernel
theorem dX7_read_223 : decode cX7_read 223 = .ok (.iload 6, 2) := by decide +kernel
theorem dX7_read_225 : decode cX7_read 225 = .ok (.iload 7, 2) := by decide +kernel
theorem dX7_read_227 : decode cX7_read 227 = .ok (.invokevirtual 129, 3) := by decide +kernel
theorem dX7_read_230 : decode cX7_read 230 = .ok (.aload_n 0, 1) := by decide +kernel
theorem dX7_read_231 : decode cX7_read 231 = .ok (.getfield 34, 3) := by decide +kernel
theorem dX7_read_234 : decode cX7_read 234 = .ok (.iload_n 1, 1) := by decide +kernel
theorem dX7_read_235 : decode cX7_read 235 = .ok (.iaload, 1) := by decide +kernel
theorem dX7_read_236 : decode cX7_read 236 = .ok (.istore 6, 2) := by decide +kernel
theorem dX7_read_238 : decode cX7_read 238 = .ok (.iconst (-1), 1) := by decide +kernel
theorem dX7_read_239 : decode cX7_read 239 = .ok (.istore 7, 2) := by decide +kernel
theorem dX7_read_241 : decode cX7_read 241 = .ok (.goto 115, 3) := by decide +kernel
theorem dX7_read_244 : decode cX7_read 244 = .ok (.iload 8, 2) := by decide +kernel
theorem dX7_read_246 : decode cX7_read 246 = .ok (.istore 11, 2) := by decide +kernel
theorem dX7_read_248 : decode cX7_read 248 = .ok (.iload 8, 2) := by decide +kernel
theorem dX7_read_250 : decode cX7_read 250 = .ok (.istore 12, 2) := by decide +kernel
theorem dX7_read_252 : decode cX7_read 252 = .ok (.iload 12, 2) := by decide +kernel
theorem dX7_read_254 : decode cX7_read 254 = .ok (.iload 9, 2) := by decide +kernel
theorem dX7_read_256 : decode cX7_read 256 = .ok (.if_icmp .gt 100, 3) := by decide +kernel
theorem dX7_read_259 : decode cX7_read 259 = .ok (.iload 12, 2) := by decide +kernel
theorem dX7_read_261 : decode cX7_read 261 = .ok (.iload 9, 2) := by decide +kernel
theorem dX7_read_263 : decode cX7_read 263 = .ok (.if_icmp .ge 22, 3) := by decide +kernel
theorem dX7_read_266 : decode cX7_read 266 = .ok (.aload_n 0, 1) := by decide +kernel
theorem dX7_read_267 : decode cX7_read 267 = .ok (.getfield 31, 3) := by decide +kernel
theorem dX7_read_270 : decode cX7_read 270 = .ok (.iload 5, 2) := by decide +kernel
theorem dX7_read_272 : decode cX7_read 272 = .ok (.iload 12, 2) := by decide +kernel
theorem dX7_read_274 : decode cX7_read 274 = .ok (.iadd, 1) := by decide +kernel
theorem dX7_read_275 : decode cX7_read 275 = .ok (.iaload, 1) := by decide +kernel
theorem dX7_read_276 : decode cX7_read 276 = .ok (.bipush 44, 2) := by decide +kernel
theorem dX7_read_278 : decode cX7_read 278 = .ok (.if_icmp .ne 7, 3) := by decide +kernel
theorem dX7_read_281 : decode cX7_read 281 = .ok (.iconst 1, 1) := by decide +kernel
theorem dX7_read_282 : decode cX7_read 282 = .ok (.goto 4, 3) := by decide +kernel
theorem dX7_read_285 : decode cX7_read 285 = .ok (.iconst 0, 1) := by decide +kernel
theorem dX7_read_286 : decode cX7_read 286 = .ok (.istore 13, 2) := by decide +kernel
theorem dX7_read_288 : decode cX7_read 288 = .ok (.iload 13, 2) := by decide +kernel
theorem dX7_read_290 : decode cX7_read 290 = .ok (.ifCond .ne 10, 3) := by decide +kernel
theorem dX7_read_293 : decode cX7_read 293 = .ok (.iload 12, 2) := by decide +kernel
theorem dX7_read_295 : decode cX7_read 295 = .ok (.iload 9, 2) := by decide +kernel
theorem dX7_read_297 : decode cX7_read 297 = .ok (.if_icmp .ne 31, 3) := by decide +kernel
theorem dX7_read_300 : decode cX7_read 300 = .ok (.iload 12, 2) := by decide +kernel
theorem dX7_read_302 : decode cX7_read 302 = .ok (.iload 11, 2) := by decide +kernel
theorem dX7_read_304 : decode cX7_read 304 = .ok (.if_icmp .le 18, 3) := by decide +kernel
theorem dX7_read_307 : decode cX7_read 307 = .ok (.aload_n 0, 1) := by decide +kernel
theorem dX7_read_308 : decode cX7_read 308 = .ok (.iload_n 1, 1) := by decide +kernel
theorem dX7_read_309 : decode cX7_read 309 = .ok (.iload 5, 2) := by decide +kernel
theorem dX7_read_311 : decode cX7_read 311 = .ok (.iload 11, 2) := by decide +kernel
theorem dX7_read_313 : decode cX7_read 313 = .ok (.iadd, 1) := by decide +kernel
theorem dX7_read_314 : decode cX7_read 314 = .ok (.iload 5, 2) := by decide +kernel
theorem dX7_read_316 : decode cX7_read 316 = .ok (.iload 12, 2) := by decide +kernel
theorem dX7_read_318 : decode cX7_read 318 = .ok (.iadd, 1) := by decide +kernel
theorem dX7_read_319 : decode cX7_read 319 = .ok (.invokevirtual 133, 3) := by decide +kernel
theorem dX7_read_322 : decode cX7_read 322 = .ok (.iload 12, 2) := by decide +kernel
theorem dX7_read_324 : decode cX7_read 324 = .ok (.iconst 1, 1) := by decide +kernel
theorem dX7_read_325 : decode cX7_read 325 = .ok (.iadd, 1) := by decide +kernel
theorem dX7_read_326 : decode cX7_read 326 = .ok (.istore 11, 2) := by decide +kernel
theorem dX7_read_328 : decode cX7_read 328 = .ok (.iload 13, 2) := by decide +kernel
theorem dX7_read_330 : decode cX7_read 330 = .ok (.ifCond .eq 20, 3) := by decide +kernel
theorem dX7_read_333 : decode cX7_read 333 = .ok (.iload 7, 2) := by decide +kernel
theorem dX7_read_335 : decode cX7_read 335 = .ok (.iconst (-1), 1) := by decide +kernel
theorem dX7_read_336 : decode cX7_read 336 = .ok (.if_icmp .ne 14, 3) := by decide +kernel
theorem dX7_read_339 : decode cX7_read 339 = .ok (.aload_n 0, 1) := by decide +kernel
theorem dX7_read_340 : decode cX7_read 340 = .ok (.getfield 34, 3) := by decide +kernel
theorem dX7_read_343 : decode cX7_read 343 = .ok (.iload_n 1, 1) := by decide +kernel
theorem dX7_read_344 : decode cX7_read 344 = .ok (.iaload, 1) := by decide +kernel
theorem dX7_read_345 : decode cX7_read 345 = .ok (.iload 6, 2) := by decide +kernel
theorem dX7_read_347 : decode cX7_read 347 = .ok (.isub, 1) := by decide +kernel
theorem dX7_read_348 : decode cX7_read 348 = .ok (.istore 7, 2) := by decide +kernel
theorem dX7_read_350 : decode cX7_read 350 = .ok (.iinc 12 1, 3) := by decide +kernel
theorem dX7_read_353 : decode cX7_read 353 = .ok (.goto (-101), 3) := by decide +kernel
theorem dX7_read_356 : decode cX7_read 356 = .ok (.iload 9, 2) := by decide +kernel
theorem dX7_read_358 : decode cX7_read 358 = .ok (.istore 8, 2) := by decide +kernel
theorem dX7_read_360 : decode cX7_read 360 = .ok (.goto (-269), 3) := by decide +kernel
theorem dX7_read_363 : decode cX7_read 363 = .ok (.aload_n 0, 1) := by decide +kernel
theorem dX7_read_364 : decode cX7_read 364 = .ok (.iload_n 1, 1) := by decide +kernel
theorem dX7_read_365 : decode cX7_read 365 = .ok (.iload 6, 2) := by decide +kernel
theorem dX7_read_367 : decode cX7_read 367 = .ok (.iload 7, 2) := by decide +kernel
theorem dX7_read_369 : decode cX7_read 369 = .ok (.invokevirtual 129, 3) := by decide +kernel
theorem dX7_read_372 : decode cX7_read 372 = .ok (.return_, 1) := by decide +kernel
theorem dX7_put_0 : decode cX7_put 0 = .ok (.aload_n 0, 1) := by decide +kernel
theorem dX7_put_1 : decode cX7_put 1 = .ok (.getfield 52, 3) := by decide +kernel
theorem dX7_put_4 : decode cX7_put 4 = .ok (.aload_n 0, 1) := by decide +kernel
theorem dX7_put_5 : decode cX7_put 5 = .ok (.getfield 136, 3) := by decide +kernel
theorem dX7_put_8 : decode cX7_put 8 = .ok (.iload_n 1, 1) := by decide +kernel
theorem dX7_put_9 : decode cX7_put 9 = .ok (.iastore, 1) := by decide +kernel
theorem dX7_put_10 : decode cX7_put 10 = .ok (.aload_n 0, 1) := by decide +kernel
theorem dX7_put_11 : decode cX7_put 11 = .ok (.dup, 1) := by decide +kernel
theorem dX7_put_12 : decode cX7_put 12 = .ok (.getfield 136, 3) := by decide +kernel
theorem dX7_put_15 : decode cX7_put 15 = .ok (.iconst 1, 1) := by decide +kernel
theorem dX7_put_16 : decode cX7_put 16 = .ok (.iadd, 1) := by decide +kernel
theorem dX7_put_17 : decode cX7_put 17 = .ok (.putfield 136, 3) := by decide +kernel
theorem dX7_put_20 : decode cX7_put 20 = .ok (.return_, 1) := by decide +kernel
theorem dX7_say_0 : decode cX7_say 0 = .ok (.lload_n 1, 1) := by decide +kernel
theorem dX7_say_1 : decode cX7_say 1 = .ok (.lstore_n 3, 1) := by decide +kernel
theorem dX7_say_2 : decode cX7_say 2 = .ok (.lload_n 3, 1) := by decide +kernel
theorem dX7_say_3 : decode cX7_say 3 = .ok (.lconst 0, 1) := by decide +kernel
theorem dX7_say_4 : decode cX7_say 4 = .ok (.lcmp, 1) := by decide +kernel
theorem dX7_say_5 : decode cX7_say 5 = .ok (.ifCond .eq 22, 3) := by decide +kernel
theorem dX7_say_8 : decode cX7_say 8 = .ok (.aload_n 0, 1) := by decide +kernel
theorem dX7_say_9 : decode cX7_say 9 = .ok (.lload_n 3, 1) := by decide +kernel
theorem dX7_say_10 : decode cX7_say 10 = .ok (.ldc2_w 139, 3) := by decide +kernel
theorem dX7_say_13 : decode cX7_say 13 = .ok (.lrem, 1) := by decide +kernel
theorem dX7_say_14 : decode cX7_say 14 = .ok (.l2i, 1) := by decide +kernel
theorem dX7_say_15 : decode cX7_say 15 = .ok (.invokevirtual 141, 3) := by decide +kernel
theorem dX7_say_18 : decode cX7_say 18 = .ok (.lload_n 3, 1) := by decide +kernel
theorem dX7_say_19 : decode cX7_say 19 = .ok (.ldc2_w 139, 3) := by decide +kernel
theorem dX7_say_22 : decode cX7_say 22 = .ok (.ldiv, 1) := by decide +kernel
theorem dX7_say_23 : decode cX7_say 23 = .ok (.lstore_n 3, 1) := by decide +kernel
theorem dX7_say_24 : decode cX7_say 24 = .ok (.goto (-22), 3) := by decide +kernel
theorem dX7_say_27 : decode cX7_say 27 = .ok (.return_, 1) := by decide +kernel
theorem dX7_putField_0 : decode cX7_putField 0 = .ok (.iconst 0, 1) := by decide +kernel
theorem dX7_putField_1 : decode cX7_putField 1 = .ok (.istore_n 2, 1) := by decide +kernel
theorem dX7_putField_2 : decode cX7_putField 2 = .ok (.iload_n 1, 1) := by decide +kernel
theorem dX7_putField_3 : decode cX7_putField 3 = .ok (.iconst (-1), 1) := by decide +kernel
theorem dX7_putField_4 : decode cX7_putField 4 = .ok (.if_icmp .eq 34, 3) := by decide +kernel
theorem dX7_putField_7 : decode cX7_putField 7 = .ok (.iload_n 2, 1) := by decide +kernel
theorem dX7_putField_8 : decode cX7_putField 8 = .ok (.aload_n 0, 1) := by decide +kernel
theorem dX7_putField_9 : decode cX7_putField 9 = .ok (.getfield 19, 3) := by decide +kernel
theorem dX7_putField_12 : decode cX7_putField 12 = .ok (.iload_n 1, 1) := by decide +kernel
theorem dX7_putField_13 : decode cX7_putField 13 = .ok (.iaload, 1) := by decide +kernel
theorem dX7_putField_14 : decode cX7_putField 14 = .ok (.if_icmp .ge 24, 3) := by decide +kernel
theorem dX7_putField_17 : decode cX7_putField 17 = .ok (.aload_n 0, 1) := by decide +kernel
theorem dX7_putField_18 : decode cX7_putField 18 = .ok (.aload_n 0, 1) := by decide +kernel
theorem dX7_putField_19 : decode cX7_putField 19 = .ok (.getfield 22, 3) := by decide +kernel
theorem dX7_putField_22 : decode cX7_putField 22 = .ok (.bipush 80, 2) := by decide +kernel
theorem dX7_putField_24 : decode cX7_putField 24 = .ok (.iload_n 1, 1) := by decide +kernel
theorem dX7_putField_25 : decode cX7_putField 25 = .ok (.imul, 1) := by decide +kernel
theorem dX7_putField_26 : decode cX7_putField 26 = .ok (.iload_n 2, 1) := by decide +kernel
theorem dX7_putField_27 : decode cX7_putField 27 = .ok (.iadd, 1) := by decide +kernel
theorem dX7_putField_28 : decode cX7_putField 28 = .ok (.iaload, 1) := by decide +kernel
theorem dX7_putField_29 : decode cX7_putField 29 = .ok (.invokevirtual 141, 3) := by decide +kernel
theorem dX7_putField_32 : decode cX7_putField 32 = .ok (.iinc 2 1, 3) := by decide +kernel
theorem dX7_putField_35 : decode cX7_putField 35 = .ok (.goto (-33), 3) := by decide +kernel
theorem dX7_putField_38 : decode cX7_putField 38 = .ok (.return_, 1) := by decide +kernel
theorem dX7_putKey_0 : decode cX7_putKey 0 = .ok (.iconst 0, 1) := by decide +kernel
theorem dX7_putKey_1 : decode cX7_putKey 1 = .ok (.istore_n 3, 1) := by decide +kernel
theorem dX7_putKey_2 : decode cX7_putKey 2 = .ok (.iload_n 3, 1) := by decide +kernel
theorem dX7_putKey_3 : decode cX7_putKey 3 = .ok (.aload_n 0, 1) := by decide +kernel
theorem dX7_putKey_4 : decode cX7_putKey 4 = .ok (.getfield 13, 3) := by decide +kernel
theorem dX7_putKey_7 : decode cX7_putKey 7 = .ok (.iload_n 1, 1) := by decide +kernel
theorem dX7_putKey_8 : decode cX7_putKey 8 = .ok (.iaload, 1) := by decide +kernel
theorem dX7_putKey_9 : decode cX7_putKey 9 = .ok (.if_icmp .ge 29, 3) := by decide +kernel
theorem dX7_putKey_12 : decode cX7_putKey 12 = .ok (.iload_n 3, 1) := by decide +kernel
theorem dX7_putKey_13 : decode cX7_putKey 13 = .ok (.iload_n 2, 1) := by decide +kernel
theorem dX7_putKey_14 : decode cX7_putKey 14 = .ok (.if_icmp .ge 24, 3) := by decide +kernel
theorem dX7_putKey_17 : decode cX7_putKey 17 = .ok (.aload_n 0, 1) := by decide +kernel
theorem dX7_putKey_18 : decode cX7_putKey 18 = .ok (.aload_n 0, 1) := by decide +kernel
theorem dX7_putKey_19 : decode cX7_putKey 19 = .ok (.getfield 16, 3) := by decide +kernel
theorem dX7_putKey_22 : decode cX7_putKey 22 = .ok (.bipush 16, 2) := by decide +kernel
theorem dX7_putKey_24 : decode cX7_putKey 24 = .ok (.iload_n 1, 1) := by decide +kernel
theorem dX7_putKey_25 : decode cX7_putKey 25 = .ok (.imul, 1) := by decide +kernel
theorem dX7_putKey_26 : decode cX7_putKey 26 = .ok (.iload_n 3, 1) := by decide +kernel
theorem dX7_putKey_27 : decode cX7_putKey 27 = .ok (.iadd, 1) := by decide +kernel
theorem dX7_putKey_28 : decode cX7_putKey 28 = .ok (.iaload, 1) := by decide +kernel
theorem dX7_putKey_29 : decode cX7_putKey 29 = .ok (.invokevirtual 141, 3) := by decide +kernel
theorem dX7_putKey_32 : decode cX7_putKey 32 = .ok (.iinc 3 1, 3) := by decide +kernel
theorem dX7_putKey_35 : decode cX7_putKey 35 = .ok (.goto (-33), 3) := by decide +kernel
theorem dX7_putKey_38 : decode cX7_putKey 38 = .ok (.return_, 1) := by decide +kernel
theorem dX7_putWords_0 : decode cX7_putWords 0 = .ok (.aload_n 0, 1) := by decide +kernel
theorem dX7_putWords_1 : decode cX7_putWords 1 = .ok (.getfield 136, 3) := by decide +kernel
theorem dX7_putWords_4 : decode cX7_putWords 4 = .ok (.istore 5, 2) := by decide +kernel
theorem dX7_putWords_6 : decode cX7_putWords 6 = .ok (.iconst 0, 1) := by decide +kernel
theorem dX7_putWords_7 : decode cX7_putWords 7 = .ok (.istore 6, 2) := by decide +kernel
theorem dX7_putWords_9 : decode cX7_putWords 9 = .ok (.bipush 64, 2) := by decide +kernel
theorem dX7_putWords_11 : decode cX7_putWords 11 = .ok (.iload_n 1, 1) := by decide +kernel
theorem dX7_putWords_12 : decode cX7_putWords 12 = .ok (.imul, 1) := by decide +kernel
theorem dX7_putWords_13 : decode cX7_putWords 13 = .ok (.istore 7, 2) := by decide +kernel
theorem dX7_putWords_15 : decode cX7_putWords 15 = .ok (.iload 7, 2) := by decide +kernel
theorem dX7_putWords_17 : decode cX7_putWords 17 = .ok (.bipush 64, 2) := by decide +kernel
theorem dX7_putWords_19 : decode cX7_putWords 19 = .ok (.iload_n 1, 1) := by decide +kernel
theorem dX7_putWords_20 : decode cX7_putWords 20 = .ok (.imul, 1) := by decide +kernel
theorem dX7_putWords_21 : decode cX7_putWords 21 = .ok (.aload_n 0, 1) := by decide +kernel
theorem dX7_putWords_22 : decode cX7_putWords 22 = .ok (.getfield 34, 3) := by decide +kernel
theorem dX7_putWords_25 : decode cX7_putWords 25 = .ok (.iload_n 1, 1) := by decide +kernel
theorem dX7_putWords_26 : decode cX7_putWords 26 = .ok (.iaload, 1) := by decide +kernel
theorem dX7_putWords_27 : decode cX7_putWords 27 = .ok (.iadd, 1) := by decide +kernel
theorem dX7_putWords_28 : decode cX7_putWords 28 = .ok (.if_icmp .ge 83, 3) := by decide +kernel
theorem dX7_putWords_31 : decode cX7_putWords 31 = .ok (.aload_n 0, 1) := by decide +kernel
theorem dX7_putWords_32 : decode cX7_putWords 32 = .ok (.getfield 43, 3) := by decide +kernel
theorem dX7_putWords_35 : decode cX7_putWords 35 = .ok (.iload 7, 2) := by decide +kernel
theorem dX7_putWords_37 : decode cX7_putWords 37 = .ok (.iaload, 1) := by decide +kernel
theorem dX7_putWords_38 : decode cX7_putWords 38 = .ok (.iload_n 2, 1) := by decide +kernel
theorem dX7_putWords_39 : decode cX7_putWords 39 = .ok (.if_icmp .ne 66, 3) := by decide +kernel
theorem dX7_putWords_42 : decode cX7_putWords 42 = .ok (.aload_n 0, 1) := by decide +kernel
theorem dX7_putWords_43 : decode cX7_putWords 43 = .ok (.getfield 46, 3) := by decide +kernel
theorem dX7_putWords_46 : decode cX7_putWords 46 = .ok (.iload 7, 2) := by decide +kernel
theorem dX7_putWords_48 : decode cX7_putWords 48 = .ok (.iaload, 1) := by decide +kernel
theorem dX7_putWords_49 : decode cX7_putWords 49 = .ok (.iload_n 3, 1) := by decide +kernel
theorem dX7_putWords_50 : decode cX7_putWords 50 = .ok (.if_icmp .ne 55, 3) := by decide +kernel
theorem dX7_putWords_53 : decode cX7_putWords 53 = .ok (.iload 6, 2) := by decide +kernel
theorem dX7_putWords_55 : decode cX7_putWords 55 = .ok (.ifCond .eq 9, 3) := by decide +kernel
theorem dX7_putWords_58 : decode cX7_putWords 58 = .ok (.aload_n 0, 1) := by decide +kernel
theorem dX7_putWords_59 : decode cX7_putWords 59 = .ok (.bipush 32, 2) := by decide +kernel
theorem dX7_putWords_61 : decode cX7_putWords 61 = .ok (.invokevirtual 141, 3) := by decide +kernel
theorem dX7_putWords_64 : decode cX7_putWords 64 = .ok (.iconst 1, 1) := by decide +kernel
theorem dX7_putWords_65 : decode cX7_putWords 65 = .ok (.istore 6, 2) := by decide +kernel
theorem dX7_putWords_67 : decode cX7_putWords 67 = .ok (.aload_n 0, 1) := by decide +kernel
theorem dX7_putWords_68 : decode cX7_putWords 68 = .ok (.getfield 37, 3) := by decide +kernel
theorem dX7_putWords_71 : decode cX7_putWords 71 = .ok (.iload 7, 2) := by decide +kernel
theorem dX7_putWords_73 : decode cX7_putWords 73 = .ok (.iaload, 1) := by decide +kernel
theorem dX7_putWords_74 : decode cX7_putWords 74 = .ok (.istore 8, 2) := by decide +kernel
theorem dX7_putWords_76 : decode cX7_putWords 76 = .ok (.iload 8, 2) := by decide +kernel
theorem dX7_putWords_78 : decode cX7_putWords 78 = .ok (.aload_n 0, 1) := by decide +kernel
theorem dX7_putWords_79 : decode cX7_putWords 79 = .ok (.getfield 40, 3) := by decide +kernel
theorem dX7_putWords_82 : decode cX7_putWords 82 = .ok (.iload 7, 2) := by decide +kernel
theorem dX7_putWords_84 : decode cX7_putWords 84 = .ok (.iaload, 1) := by decide +kernel
theorem dX7_putWords_85 : decode cX7_putWords 85 = .ok (.if_icmp .ge 20, 3) := by decide +kernel
theorem dX7_putWords_88 : decode cX7_putWords 88 = .ok (.aload_n 0, 1) := by decide +kernel
theorem dX7_putWords_89 : decode cX7_putWords 89 = .ok (.aload_n 0, 1) := by decide +kernel
theorem dX7_putWords_90 : decode cX7_putWords 90 = .ok (.getfield 31, 3) := by decide +kernel
theorem dX7_putWords_93 : decode cX7_putWords 93 = .ok (.iload 8, 2) := by decide +kernel
theorem dX7_putWords_95 : decode cX7_putWords 95 = .ok (.iaload, 1) := by decide +kernel
theorem dX7_putWords_96 : decode cX7_putWords 96 = .ok (.invokevirtual 141, 3) := by decide +kernel
theorem dX7_putWords_99 : decode cX7_putWords 99 = .ok (.iinc 8 1, 3) := by decide +kernel
theorem dX7_putWords_102 : decode cX7_putWords 102 = .ok (.goto (-26), 3) := by decide +kernel
theorem dX7_putWords_105 : decode cX7_putWords 105 = .ok (.iinc 7 1, 3) := by decide +kernel
theorem dX7_putWords_108 : decode cX7_putWords 108 = .ok (.goto (-93), 3) := by decide +kernel
theorem dX7_putWords_111 : decode cX7_putWords 111 = .ok (.aload_n 0, 1) := by decide +kernel
theorem dX7_putWords_112 : decode cX7_putWords 112 = .ok (.aload_n 0, 1) := by decide +kernel
theorem dX7_putWords_113 : decode cX7_putWords 113 = .ok (.getfield 136, 3) := by decide +kernel
theorem dX7_putWords_116 : decode cX7_putWords 116 = .ok (.iload 5, 2) := by decide +kernel
theorem dX7_putWords_118 : decode cX7_putWords 118 = .ok (.isub, 1) := by decide +kernel
theorem dX7_putWords_119 : decode cX7_putWords 119 = .ok (.iload 4, 2) := by decide +kernel
theorem dX7_putWords_121 : decode cX7_putWords 121 = .ok (.if_icmp .le 11, 3) := by decide +kernel
theorem dX7_putWords_124 : decode cX7_putWords 124 = .ok (.iload 5, 2) := by decide +kernel
theorem dX7_putWords_126 : decode cX7_putWords 126 = .ok (.iload 4, 2) := by decide +kernel
theorem dX7_putWords_128 : decode cX7_putWords 128 = .ok (.iadd, 1) := by decide +kernel
theorem dX7_putWords_129 : decode cX7_putWords 129 = .ok (.goto 7, 3) := by decide +kernel
theorem dX7_putWords_132 : decode cX7_putWords 132 = .ok (.aload_n 0, 1) := by decide +kernel
theorem dX7_putWords_133 : decode cX7_putWords 133 = .ok (.getfield 136, 3) := by decide +kernel
theorem dX7_putWords_136 : decode cX7_putWords 136 = .ok (.putfield 136, 3) := by decide +kernel
theorem dX7_putWords_139 : decode cX7_putWords 139 = .ok (.return_, 1) := by decide +kernel
theorem dX7_has_0 : decode cX7_has 0 = .ok (.iconst 0, 1) := by decide +kernel
theorem dX7_has_1 : decode cX7_has 1 = .ok (.istore 4, 2) := by decide +kernel
theorem dX7_has_3 : decode cX7_has 3 = .ok (.bipush 64, 2) := by decide +kernel
theorem dX7_has_5 : decode cX7_has 5 = .ok (.iload_n 1, 1) := by decide +kernel
theorem dX7_has_6 : decode cX7_has 6 = .ok (.imul, 1) := by decide +kernel
theorem dX7_has_7 : decode cX7_has 7 = .ok (.istore 5, 2) := by decide +kernel
theorem dX7_has_9 : decode cX7_has 9 = .ok (.iload 5, 2) := by decide +kernel
theorem dX7_has_11 : decode cX7_has 11 = .ok (.bipush 64, 2) := by decide +kernel
theorem dX7_has_13 : decode cX7_has 13 = .ok (.iload_n 1, 1) := by decide +kernel
theorem dX7_has_14 : decode cX7_has 14 = .ok (.imul, 1) := by decide +kernel
theorem dX7_has_15 : decode cX7_has 15 = .ok (.aload_n 0, 1) := by decide +kernel
theorem dX7_has_16 : decode cX7_has 16 = .ok (.getfield 34, 3) := by decide +kernel
theorem dX7_has_19 : decode cX7_has 19 = .ok (.iload_n 1, 1) := by decide +kernel
theorem dX7_has_20 : decode cX7_has 20 = .ok (.iaload, 1) := by decide +kernel
theorem dX7_has_21 : decode cX7_has 21 = .ok (.iadd, 1) := by decide +kernel
theorem dX7_has_22 : decode cX7_has 22 = .ok (.if_icmp .ge 43, 3) := by decide +kernel
theorem dX7_has_25 : decode cX7_has 25 = .ok (.iload 4, 2) := by decide +kernel
theorem dX7_has_27 : decode cX7_has 27 = .ok (.ifCond .ne 25, 3) := by decide +kernel
theorem dX7_has_30 : decode cX7_has 30 = .ok (.aload_n 0, 1) := by decide +kernel
theorem dX7_has_31 : decode cX7_has 31 = .ok (.getfield 43, 3) := by decide +kernel
theorem dX7_has_34 : decode cX7_has 34 = .ok (.iload 5, 2) := by decide +kernel
theorem dX7_has_36 : decode cX7_has 36 = .ok (.iaload, 1) := by decide +kernel
theorem dX7_has_37 : decode cX7_has 37 = .ok (.iload_n 2, 1) := by decide +kernel
theorem dX7_has_38 : decode cX7_has 38 = .ok (.if_icmp .ne 18, 3) := by decide +kernel
theorem dX7_has_41 : decode cX7_has 41 = .ok (.aload_n 0, 1) := by decide +kernel
theorem dX7_has_42 : decode cX7_has 42 = .ok (.getfield 46, 3) := by decide +kernel
theorem dX7_has_45 : decode cX7_has 45 = .ok (.iload 5, 2) := by decide +kernel
theorem dX7_has_47 : decode cX7_has 47 = .ok (.iaload, 1) := by decide +kernel
theorem dX7_has_48 : decode cX7_has 48 = .ok (.iload_n 3, 1) := by decide +kernel
theorem dX7_has_49 : decode cX7_has 49 = .ok (.if_icmp .ne 7, 3) := by decide +kernel
theorem dX7_has_52 : decode cX7_has 52 = .ok (.iconst 1, 1) := by decide +kernel
theorem dX7_has_53 : decode cX7_has 53 = .ok (.goto 4, 3) := by decide +kernel
theorem dX7_has_56 : decode cX7_has 56 = .ok (.iconst 0, 1) := by decide +kernel
theorem dX7_has_57 : decode cX7_has 57 = .ok (.istore 4, 2) := by decide +kernel
theorem dX7_has_59 : decode cX7_has 59 = .ok (.iinc 5 1, 3) := by decide +kernel
theorem dX7_has_62 : decode cX7_has 62 = .ok (.goto (-53), 3) := by decide +kernel
theorem dX7_has_65 : decode cX7_has 65 = .ok (.iload 4, 2) := by decide +kernel
theorem dX7_has_67 : decode cX7_has 67 = .ok (.ireturn, 1) := by decide +kernel
theorem dX7_putName_0 : decode cX7_putName 0 = .ok (.aload_n 0, 1) := by decide +kernel
theorem dX7_putName_1 : decode cX7_putName 1 = .ok (.iload_n 1, 1) := by decide +kernel
theorem dX7_putName_2 : decode cX7_putName 2 = .ok (.iload_n 2, 1) := by decide +kernel
theorem dX7_putName_3 : decode cX7_putName 3 = .ok (.iconst 1, 1) := by decide +kernel
theorem dX7_putName_4 : decode cX7_putName 4 = .ok (.sipush 1000, 3) := by decide +kernel
theorem dX7_putName_7 : decode cX7_putName 7 = .ok (.invokevirtual 145, 3) := by decide +kernel
theorem dX7_putName_10 : decode cX7_putName 10 = .ok (.aload_n 0, 1) := by decide +kernel
theorem dX7_putName_11 : decode cX7_putName 11 = .ok (.iload_n 1, 1) := by decide +kernel
theorem dX7_putName_12 : decode cX7_putName 12 = .ok (.iload_n 2, 1) := by decide +kernel
theorem dX7_putName_13 : decode cX7_putName 13 = .ok (.iconst 1, 1) := by decide +kernel
theorem dX7_putName_14 : decode cX7_putName 14 = .ok (.invokevirtual 149, 3) := by decide +kernel
theorem dX7_putName_17 : decode cX7_putName 17 = .ok (.ifCond .eq 19, 3) := by decide +kernel
theorem dX7_putName_20 : decode cX7_putName 20 = .ok (.aload_n 0, 1) := by decide +kernel
theorem dX7_putName_21 : decode cX7_putName 21 = .ok (.iload_n 1, 1) := by decide +kernel
theorem dX7_putName_22 : decode cX7_putName 22 = .ok (.iload_n 2, 1) := by decide +kernel
theorem dX7_putName_23 : decode cX7_putName 23 = .ok (.iconst 2, 1) := by decide +kernel
theorem dX7_putName_24 : decode cX7_putName 24 = .ok (.invokevirtual 149, 3) := by decide +kernel
theorem dX7_putName_27 : decode cX7_putName 27 = .ok (.ifCond .eq 9, 3) := by decide +kernel
theorem dX7_putName_30 : decode cX7_putName 30 = .ok (.aload_n 0, 1) := by decide +kernel
theorem dX7_putName_31 : decode cX7_putName 31 = .ok (.bipush 32, 2) := by decide +kernel
theorem dX7_putName_33 : decode cX7_putName 33 = .ok (.invokevirtual 141, 3) := by decide +kernel
theorem dX7_putName_36 : decode cX7_putName 36 = .ok (.aload_n 0, 1) := by decide +kernel
theorem dX7_putName_37 : decode cX7_putName 37 = .ok (.iload_n 1, 1) := by decide +kernel
theorem dX7_putName_38 : decode cX7_putName 38 = .ok (.iload_n 2, 1) := by decide +kernel
theorem dX7_putName_39 : decode cX7_putName 39 = .ok (.iconst 2, 1) := by decide +kernel
theorem dX7_putName_40 : decode cX7_putName 40 = .ok (.sipush 1000, 3) := by decide +kernel
theorem dX7_putName_43 : decode cX7_putName 43 = .ok (.invokevirtual 145, 3) := by decide +kernel
theorem dX7_putName_46 : decode cX7_putName 46 = .ok (.return_, 1) := by decide +kernel
theorem dX7_putInitials_0 : decode cX7_putInitials 0 = .ok (.iconst 0, 1) := by decide +kernel
theorem dX7_putInitials_1 : decode cX7_putInitials 1 = .ok (.istore_n 3, 1) := by decide +kernel
theorem dX7_putInitials_2 : decode cX7_putInitials 2 = .ok (.bipush 64, 2) := by decide +kernel
theorem dX7_putInitials_4 : decode cX7_putInitials 4 = .ok (.iload_n 1, 1) := by decide +kernel
theorem dX7_putInitials_5 : decode cX7_putInitials 5 = .ok (.imul, 1) := by decide +kernel
theorem dX7_putInitials_6 : decode cX7_putInitials 6 = .ok (.istore 4, 2) := by decide +kernel
theorem dX7_putInitials_8 : decode cX7_putInitials 8 = .ok (.iload 4, 2) := by decide +kernel
theorem dX7_putInitials_10 : decode cX7_putInitials 10 = .ok (.bipush 64, 2) := by decide +kernel
theorem dX7_putInitials_12 : decode cX7_putInitials 12 = .ok (.iload_n 1, 1) := by decide +kernel
theorem dX7_putInitials_13 : decode cX7_putInitials 13 = .ok (.imul, 1) := by decide +kernel
theorem dX7_putInitials_14 : decode cX7_putInitials 14 = .ok (.aload_n 0, 1) := by decide +kernel
theorem dX7_putInitials_15 : decode cX7_putInitials 15 = .ok (.getfield 34, 3) := by decide +kernel
theorem dX7_putInitials_18 : decode cX7_putInitials 18 = .ok (.iload_n 1, 1) := by decide +kernel
theorem dX7_putInitials_19 : decode cX7_putInitials 19 = .ok (.iaload, 1) := by decide +kernel
theorem dX7_putInitials_20 : decode cX7_putInitials 20 = .ok (.iadd, 1) := by decide +kernel
theorem dX7_putInitials_21 : decode cX7_putInitials 21 = .ok (.if_icmp .ge 64, 3) := by decide +kernel
theorem dX7_putInitials_24 : decode cX7_putInitials 24 = .ok (.aload_n 0, 1) := by decide +kernel
theorem dX7_putInitials_25 : decode cX7_putInitials 25 = .ok (.getfield 43, 3) := by decide +kernel
theorem dX7_putInitials_28 : decode cX7_putInitials 28 = .ok (.iload 4, 2) := by decide +kernel
theorem dX7_putInitials_30 : decode cX7_putInitials 30 = .ok (.iaload, 1) := by decide +kernel
theorem dX7_putInitials_31 : decode cX7_putInitials 31 = .ok (.iload_n 2, 1) := by decide +kernel
theorem dX7_putInitials_32 : decode cX7_putInitials 32 = .ok (.if_icmp .ne 47, 3) := by decide +kernel
theorem dX7_putInitials_35 : decode cX7_putInitials 35 = .ok (.aload_n 0, 1) := by decide +kernel
theorem dX7_putInitials_36 : decode cX7_putInitials 36 = .ok (.getfield 46, 3) := by decide +kernel
theorem dX7_putInitials_39 : decode cX7_putInitials 39 = .ok (.iload 4, 2) := by decide +kernel
theorem dX7_putInitials_41 : decode cX7_putInitials 41 = .ok (.iaload, 1) := by decide +kernel
theorem dX7_putInitials_42 : decode cX7_putInitials 42 = .ok (.ifCond .ne 37, 3) := by decide +kernel
theorem dX7_putInitials_45 : decode cX7_putInitials 45 = .ok (.iload_n 3, 1) := by decide +kernel
theorem dX7_putInitials_46 : decode cX7_putInitials 46 = .ok (.ifCond .eq 9, 3) := by decide +kernel
theorem dX7_putInitials_49 : decode cX7_putInitials 49 = .ok (.aload_n 0, 1) := by decide +kernel
theorem dX7_putInitials_50 : decode cX7_putInitials 50 = .ok (.bipush 32, 2) := by decide +kernel
theorem dX7_putInitials_52 : decode cX7_putInitials 52 = .ok (.invokevirtual 141, 3) := by decide +kernel
theorem dX7_putInitials_55 : decode cX7_putInitials 55 = .ok (.iconst 1, 1) := by decide +kernel
theorem dX7_putInitials_56 : decode cX7_putInitials 56 = .ok (.istore_n 3, 1) := by decide +kernel
theorem dX7_putInitials_57 : decode cX7_putInitials 57 = .ok (.aload_n 0, 1) := by decide +kernel
theorem dX7_putInitials_58 : decode cX7_putInitials 58 = .ok (.aload_n 0, 1) := by decide +kernel
theorem dX7_putInitials_59 : decode cX7_putInitials 59 = .ok (.getfield 31, 3) := by decide +kernel
theorem dX7_putInitials_62 : decode cX7_putInitials 62 = .ok (.aload_n 0, 1) := by decide +kernel
theorem dX7_putInitials_63 : decode cX7_putInitials 63 = .ok (.getfield 37, 3) := by decide +kernel
theorem dX7_putInitials_66 : decode cX7_putInitials 66 = .ok (.iload 4, 2) := by decide +kernel
theorem dX7_putInitials_68 : decode cX7_putInitials 68 = .ok (.iaload, 1) := by decide +kernel
theorem dX7_putInitials_69 : decode cX7_putInitials 69 = .ok (.iaload, 1) := by decide +kernel
theorem dX7_putInitials_70 : decode cX7_putInitials 70 = .ok (.invokevirtual 141, 3) := by decide +kernel
theorem dX7_putInitials_73 : decode cX7_putInitials 73 = .ok (.aload_n 0, 1) := by decide +kernel
theorem dX7_putInitials_74 : decode cX7_putInitials 74 = .ok (.bipush 46, 2) := by decide +kernel
theorem dX7_putInitials_76 : decode cX7_putInitials 76 = .ok (.invokevirtual 141, 3) := by decide +kernel
theorem dX7_putInitials_79 : decode cX7_putInitials 79 = .ok (.iinc 4 1, 3) := by decide +kernel
theorem dX7_putInitials_82 : decode cX7_putInitials 82 = .ok (.goto (-74), 3) := by decide +kernel
theorem dX7_putInitials_85 : decode cX7_putInitials 85 = .ok (.return_, 1) := by decide +kernel
theorem dX7_turn_0 : decode cX7_turn 0 = .ok (.aload_n 0, 1) := by decide +kernel
theorem dX7_turn_1 : decode cX7_turn 1 = .ok (.aload_n 0, 1) := by decide +kernel
theorem dX7_turn_2 : decode cX7_turn 2 = .ok (.getfield 136, 3) := by decide +kernel
theorem dX7_turn_5 : decode cX7_turn 5 = .ok (.putfield 153, 3) := by decide +kernel
theorem dX7_turn_8 : decode cX7_turn 8 = .ok (.iconst 0, 1) := by decide +kernel
theorem dX7_turn_9 : decode cX7_turn 9 = .ok (.istore_n 1, 1) := by decide +kernel
theorem dX7_turn_10 : decode cX7_turn 10 = .ok (.iload_n 1, 1) := by decide +kernel
theorem dX7_turn_11 : decode cX7_turn 11 = .ok (.aload_n 0, 1) := by decide +kernel
theorem dX7_turn_12 : decode cX7_turn 12 = .ok (.getfield 136, 3) := by decide +kernel
theorem dX7_turn_15 : decode cX7_turn 15 = .ok (.if_icmp .ge 21, 3) := by decide +kernel
theorem dX7_turn_18 : decode cX7_turn 18 = .ok (.aload_n 0, 1) := by decide +kernel
theorem dX7_turn_19 : decode cX7_turn 19 = .ok (.getfield 55, 3) := by decide +kernel
theorem dX7_turn_22 : decode cX7_turn 22 = .ok (.iload_n 1, 1) := by decide +kernel
theorem dX7_turn_23 : decode cX7_turn 23 = .ok (.aload_n 0, 1) := by decide +kernel
theorem dX7_turn_24 : decode cX7_turn 24 = .ok (.getfield 52, 3) := by decide +kernel
theorem dX7_turn_27 : decode cX7_turn 27 = .ok (.iload_n 1, 1) := by decide +kernel
theorem dX7_turn_28 : decode cX7_turn 28 = .ok (.iaload, 1) := by decide +kernel
theorem dX7_turn_29 : decode cX7_turn 29 = .ok (.iastore, 1) := by decide +kernel
theorem dX7_turn_30 : decode cX7_turn 30 = .ok (.iinc 1 1, 3) := by decide +kernel
theorem dX7_turn_33 : decode cX7_turn 33 = .ok (.goto (-23), 3) := by decide +kernel
theorem dX7_turn_36 : decode cX7_turn 36 = .ok (.aload_n 0, 1) := by decide +kernel
theorem dX7_turn_37 : decode cX7_turn 37 = .ok (.iconst 0, 1) := by decide +kernel
theorem dX7_turn_38 : decode cX7_turn 38 = .ok (.putfield 136, 3) := by decide +kernel
theorem dX7_turn_41 : decode cX7_turn 41 = .ok (.return_, 1) := by decide +kernel
theorem dX7_order_0 : decode cX7_order 0 = .ok (.iconst 0, 1) := by decide +kernel
theorem dX7_order_1 : decode cX7_order 1 = .ok (.istore_n 2, 1) := by decide +kernel
theorem dX7_order_2 : decode cX7_order 2 = .ok (.iload_n 2, 1) := by decide +kernel
theorem dX7_order_3 : decode cX7_order 3 = .ok (.aload_n 0, 1) := by decide +kernel
theorem dX7_order_4 : decode cX7_order 4 = .ok (.getfield 136, 3) := by decide +kernel
theorem dX7_order_7 : decode cX7_order 7 = .ok (.if_icmp .ge 75, 3) := by decide +kernel
theorem dX7_order_10 : decode cX7_order 10 = .ok (.iload_n 2, 1) := by decide +kernel
theorem dX7_order_11 : decode cX7_order 11 = .ok (.aload_n 0, 1) := by decide +kernel
theorem dX7_order_12 : decode cX7_order 12 = .ok (.getfield 153, 3) := by decide +kernel
theorem dX7_order_15 : decode cX7_order 15 = .ok (.if_icmp .ge 67, 3) := by decide +kernel
theorem dX7_order_18 : decode cX7_order 18 = .ok (.iload_n 1, 1) := by decide +kernel
theorem dX7_order_19 : decode cX7_order 19 = .ok (.ifCond .eq 15, 3) := by decide +kernel
theorem dX7_order_22 : decode cX7_order 22 = .ok (.aload_n 0, 1) := by decide +kernel
theorem dX7_order_23 : decode cX7_order 23 = .ok (.getfield 55, 3) := by decide +kernel
theorem dX7_order_26 : decode cX7_order 26 = .ok (.iload_n 2, 1) := by decide +kernel
theorem dX7_order_27 : decode cX7_order 27 = .ok (.iaload, 1) := by decide +kernel
theorem dX7_order_28 : decode cX7_order 28 = .ok (.invokestatic 156, 3) := by decide +kernel
theorem dX7_order_31 : decode cX7_order 31 = .ok (.goto 9, 3) := by decide +kernel
theorem dX7_order_34 : decode cX7_order 34 = .ok (.aload_n 0, 1) := by decide +kernel
theorem dX7_order_35 : decode cX7_order 35 = .ok (.getfield 55, 3) := by decide +kernel
theorem dX7_order_38 : decode cX7_order 38 = .ok (.iload_n 2, 1) := by decide +kernel
theorem dX7_order_39 : decode cX7_order 39 = .ok (.iaload, 1) := by decide +kernel
theorem dX7_order_40 : decode cX7_order 40 = .ok (.istore_n 3, 1) := by decide +kernel
theorem dX7_order_41 : decode cX7_order 41 = .ok (.iload_n 1, 1) := by decide +kernel
theorem dX7_order_42 : decode cX7_order 42 = .ok (.ifCond .eq 15, 3) := by decide +kernel
theorem dX7_order_45 : decode cX7_order 45 = .ok (.aload_n 0, 1) := by decide +kernel
theorem dX7_order_46 : decode cX7_order 46 = .ok (.getfield 52, 3) := by decide +kernel
theorem dX7_order_49 : decode cX7_order 49 = .ok (.iload_n 2, 1) := by decide +kernel
theorem dX7_order_50 : decode cX7_order 50 = .ok (.iaload, 1) := by decide +kernel
theorem dX7_order_51 : decode cX7_order 51 = .ok (.invokestatic 156, 3) := by decide +kernel
theorem dX7_order_54 : decode cX7_order 54 = .ok (.goto 9, 3) := by decide +kernel
theorem dX7_order_57 : decode cX7_order 57 = .ok (.aload_n 0, 1) := by decide +kernel
theorem dX7_order_58 : decode cX7_order 58 = .ok (.getfield 52, 3) := by decide +kernel
theorem dX7_order_61 : decode cX7_order 61 = .ok (.iload_n 2, 1) := by decide +kernel
theorem dX7_order_62 : decode cX7_order 62 = .ok (.iaload, 1) := by decide +kernel
theorem dX7_order_63 : decode cX7_order 63 = .ok (.istore 4, 2) := by decide +kernel
theorem dX7_order_65 : decode cX7_order 65 = .ok (.iload_n 3, 1) := by decide +kernel
theorem dX7_order_66 : decode cX7_order 66 = .ok (.iload 4, 2) := by decide +kernel
theorem dX7_order_68 : decode cX7_order 68 = .ok (.if_icmp .eq 8, 3) := by decide +kernel
theorem dX7_order_71 : decode cX7_order 71 = .ok (.iload_n 3, 1) := by decide +kernel
theorem dX7_order_72 : decode cX7_order 72 = .ok (.iload 4, 2) := by decide +kernel
theorem dX7_order_74 : decode cX7_order 74 = .ok (.isub, 1) := by decide +kernel
theorem dX7_order_75 : decode cX7_order 75 = .ok (.ireturn, 1) := by decide +kernel
theorem dX7_order_76 : decode cX7_order 76 = .ok (.iinc 2 1, 3) := by decide +kernel
theorem dX7_order_79 : decode cX7_order 79 = .ok (.goto (-77), 3) := by decide +kernel
theorem dX7_order_82 : decode cX7_order 82 = .ok (.aload_n 0, 1) := by decide +kernel
theorem dX7_order_83 : decode cX7_order 83 = .ok (.getfield 153, 3) := by decide +kernel
theorem dX7_order_86 : decode cX7_order 86 = .ok (.aload_n 0, 1) := by decide +kernel
theorem dX7_order_87 : decode cX7_order 87 = .ok (.getfield 136, 3) := by decide +kernel
theorem dX7_order_90 : decode cX7_order 90 = .ok (.isub, 1) := by decide +kernel
theorem dX7_order_91 : decode cX7_order 91 = .ok (.ireturn, 1) := by decide +kernel
theorem dX7_orderOfPart_0 : decode cX7_orderOfPart 0 = .ok (.aload_n 0, 1) := by decide +kernel
theorem dX7_orderOfPart_1 : decode cX7_orderOfPart 1 = .ok (.iconst 0, 1) := by decide +kernel
theorem dX7_orderOfPart_2 : decode cX7_orderOfPart 2 = .ok (.putfield 136, 3) := by decide +kernel
theorem dX7_orderOfPart_5 : decode cX7_orderOfPart 5 = .ok (.aload_n 0, 1) := by decide +kernel
theorem dX7_orderOfPart_6 : decode cX7_orderOfPart 6 = .ok (.iconst 0, 1) := by decide +kernel
theorem dX7_orderOfPart_7 : decode cX7_orderOfPart 7 = .ok (.iload_n 1, 1) := by decide +kernel
theorem dX7_orderOfPart_8 : decode cX7_orderOfPart 8 = .ok (.iload_n 2, 1) := by decide +kernel
theorem dX7_orderOfPart_9 : decode cX7_orderOfPart 9 = .ok (.sipush 1000, 3) := by decide +kernel
theorem dX7_orderOfPart_12 : decode cX7_orderOfPart 12 = .ok (.invokevirtual 145, 3) := by decide +kernel
theorem dX7_orderOfPart_15 : decode cX7_orderOfPart 15 = .ok (.aload_n 0, 1) := by decide +kernel
theorem dX7_orderOfPart_16 : decode cX7_orderOfPart 16 = .ok (.invokevirtual 159, 3) := by decide +kernel
theorem dX7_orderOfPart_19 : decode cX7_orderOfPart 19 = .ok (.aload_n 0, 1) := by decide +kernel
theorem dX7_orderOfPart_20 : decode cX7_orderOfPart 20 = .ok (.iconst 1, 1) := by decide +kernel
theorem dX7_orderOfPart_21 : decode cX7_orderOfPart 21 = .ok (.iload_n 1, 1) := by decide +kernel
theorem dX7_orderOfPart_22 : decode cX7_orderOfPart 22 = .ok (.iload_n 2, 1) := by decide +kernel
theorem dX7_orderOfPart_23 : decode cX7_orderOfPart 23 = .ok (.sipush 1000, 3) := by decide +kernel
theorem dX7_orderOfPart_26 : decode cX7_orderOfPart 26 = .ok (.invokevirtual 145, 3) := by decide +kernel
theorem dX7_orderOfPart_29 : decode cX7_orderOfPart 29 = .ok (.aload_n 0, 1) := by decide +kernel
theorem dX7_orderOfPart_30 : decode cX7_orderOfPart 30 = .ok (.iconst 1, 1) := by decide +kernel
theorem dX7_orderOfPart_31 : decode cX7_orderOfPart 31 = .ok (.invokevirtual 162, 3) := by decide +kernel
theorem dX7_orderOfPart_34 : decode cX7_orderOfPart 34 = .ok (.ireturn, 1) := by decide +kernel
theorem dX7_orderOfPersons_0 : decode cX7_orderOfPersons 0 = .ok (.aload_n 0, 1) := by decide +kernel
theorem dX7_orderOfPersons_1 : decode cX7_orderOfPersons 1 = .ok (.iconst 0, 1) := by decide +kernel
theorem dX7_orderOfPersons_2 : decode cX7_orderOfPersons 2 = .ok (.iload_n 1, 1) := by decide +kernel
theorem dX7_orderOfPersons_3 : decode cX7_orderOfPersons 3 = .ok (.invokevirtual 166, 3) := by decide +kernel
theorem dX7_orderOfPersons_6 : decode cX7_orderOfPersons 6 = .ok (.aload_n 0, 1) := by decide +kernel
theorem dX7_orderOfPersons_7 : decode cX7_orderOfPersons 7 = .ok (.iconst 1, 1) := by decide +kernel
theorem dX7_orderOfPersons_8 : decode cX7_orderOfPersons 8 = .ok (.iload_n 2, 1) := by decide +kernel
theorem dX7_orderOfPersons_9 : decode cX7_orderOfPersons 9 = .ok (.invokevirtual 166, 3) := by decide +kernel
theorem dX7_orderOfPersons_12 : decode cX7_orderOfPersons 12 = .ok (.iconst 0, 1) := by decide +kernel
theorem dX7_orderOfPersons_13 : decode cX7_orderOfPersons 13 = .ok (.istore_n 3, 1) := by decide +kernel
theorem dX7_orderOfPersons_14 : decode cX7_orderOfPersons 14 = .ok (.iload_n 3, 1) := by decide +kernel
theorem dX7_orderOfPersons_15 : decode cX7_orderOfPersons 15 = .ok (.aload_n 0, 1) := by decide +kernel
theorem dX7_orderOfPersons_16 : decode cX7_orderOfPersons 16 = .ok (.getfield 49, 3) := by decide +kernel
theorem dX7_orderOfPersons_19 : decode cX7_orderOfPersons 19 = .ok (.iconst 0, 1) := by decide +kernel
theorem dX7_orderOfPersons_20 : decode cX7_orderOfPersons 20 = .ok (.iaload, 1) := by decide +kernel
theorem dX7_orderOfPersons_21 : decode cX7_orderOfPersons 21 = .ok (.if_icmp .ge 71, 3) := by decide +kernel
theorem dX7_orderOfPersons_24 : decode cX7_orderOfPersons 24 = .ok (.iload_n 3, 1) := by decide +kernel
theorem dX7_orderOfPersons_25 : decode cX7_orderOfPersons 25 = .ok (.aload_n 0, 1) := by decide +kernel
theorem dX7_orderOfPersons_26 : decode cX7_orderOfPersons 26 = .ok (.getfield 49, 3) := by decide +kernel
theorem dX7_orderOfPersons_29 : decode cX7_orderOfPersons 29 = .ok (.iconst 1, 1) := by decide +kernel
theorem dX7_orderOfPersons_30 : decode cX7_orderOfPersons 30 = .ok (.iaload, 1) := by decide +kernel
theorem dX7_orderOfPersons_31 : decode cX7_orderOfPersons 31 = .ok (.if_icmp .ge 61, 3) := by decide +kernel
theorem dX7_orderOfPersons_34 : decode cX7_orderOfPersons 34 = .ok (.aload_n 0, 1) := by decide +kernel
theorem dX7_orderOfPersons_35 : decode cX7_orderOfPersons 35 = .ok (.iload_n 3, 1) := by decide +kernel
theorem dX7_orderOfPersons_36 : decode cX7_orderOfPersons 36 = .ok (.iconst 2, 1) := by decide +kernel
theorem dX7_orderOfPersons_37 : decode cX7_orderOfPersons 37 = .ok (.invokevirtual 170, 3) := by decide +kernel
theorem dX7_orderOfPersons_40 : decode cX7_orderOfPersons 40 = .ok (.istore 4, 2) := by decide +kernel
theorem dX7_orderOfPersons_42 : decode cX7_orderOfPersons 42 = .ok (.iload 4, 2) := by decide +kernel
theorem dX7_orderOfPersons_44 : decode cX7_orderOfPersons 44 = .ok (.ifCond .eq 8, 3) := by decide +kernel
theorem dX7_orderOfPersons_47 : decode cX7_orderOfPersons 47 = .ok (.iload 4, 2) := by decide +kernel
theorem dX7_orderOfPersons_49 : decode cX7_orderOfPersons 49 = .ok (.goto 9, 3) := by decide +kernel
theorem dX7_orderOfPersons_52 : decode cX7_orderOfPersons 52 = .ok (.aload_n 0, 1) := by decide +kernel
theorem dX7_orderOfPersons_53 : decode cX7_orderOfPersons 53 = .ok (.iload_n 3, 1) := by decide +kernel
theorem dX7_orderOfPersons_54 : decode cX7_orderOfPersons 54 = .ok (.iconst 0, 1) := by decide +kernel
theorem dX7_orderOfPersons_55 : decode cX7_orderOfPersons 55 = .ok (.invokevirtual 170, 3) := by decide +kernel
theorem dX7_orderOfPersons_58 : decode cX7_orderOfPersons 58 = .ok (.istore 4, 2) := by decide +kernel
theorem dX7_orderOfPersons_60 : decode cX7_orderOfPersons 60 = .ok (.iload 4, 2) := by decide +kernel
theorem dX7_orderOfPersons_62 : decode cX7_orderOfPersons 62 = .ok (.ifCond .eq 8, 3) := by decide +kernel
theorem dX7_orderOfPersons_65 : decode cX7_orderOfPersons 65 = .ok (.iload 4, 2) := by decide +kernel
theorem dX7_orderOfPersons_67 : decode cX7_orderOfPersons 67 = .ok (.goto 9, 3) := by decide +kernel
theorem dX7_orderOfPersons_70 : decode cX7_orderOfPersons 70 = .ok (.aload_n 0, 1) := by decide +kernel
theorem dX7_orderOfPersons_71 : decode cX7_orderOfPersons 71 = .ok (.iload_n 3, 1) := by decide +kernel
theorem dX7_orderOfPersons_72 : decode cX7_orderOfPersons 72 = .ok (.iconst 1, 1) := by decide +kernel
theorem dX7_orderOfPersons_73 : decode cX7_orderOfPersons 73 = .ok (.invokevirtual 170, 3) := by decide +kernel
theorem dX7_orderOfPersons_76 : decode cX7_orderOfPersons 76 = .ok (.istore 4, 2) := by decide +kernel
theorem dX7_orderOfPersons_78 : decode cX7_orderOfPersons 78 = .ok (.iload 4, 2) := by decide +kernel
theorem dX7_orderOfPersons_80 : decode cX7_orderOfPersons 80 = .ok (.ifCond .eq 6, 3) := by decide +kernel
theorem dX7_orderOfPersons_83 : decode cX7_orderOfPersons 83 = .ok (.iload 4, 2) := by decide +kernel
theorem dX7_orderOfPersons_85 : decode cX7_orderOfPersons 85 = .ok (.ireturn, 1) := by decide +kernel
theorem dX7_orderOfPersons_86 : decode cX7_orderOfPersons 86 = .ok (.iinc 3 1, 3) := by decide +kernel
theorem dX7_orderOfPersons_89 : decode cX7_orderOfPersons 89 = .ok (.goto (-75), 3) := by decide +kernel
theorem dX7_orderOfPersons_92 : decode cX7_orderOfPersons 92 = .ok (.aload_n 0, 1) := by decide +kernel
theorem dX7_orderOfPersons_93 : decode cX7_orderOfPersons 93 = .ok (.getfield 49, 3) := by decide +kernel
theorem dX7_orderOfPersons_96 : decode cX7_orderOfPersons 96 = .ok (.iconst 0, 1) := by decide +kernel
theorem dX7_orderOfPersons_97 : decode cX7_orderOfPersons 97 = .ok (.iaload, 1) := by decide +kernel
theorem dX7_orderOfPersons_98 : decode cX7_orderOfPersons 98 = .ok (.aload_n 0, 1) := by decide +kernel
theorem dX7_orderOfPersons_99 : decode cX7_orderOfPersons 99 = .ok (.getfield 49, 3) := by decide +kernel
theorem dX7_orderOfPersons_102 : decode cX7_orderOfPersons 102 = .ok (.iconst 1, 1) := by decide +kernel
theorem dX7_orderOfPersons_103 : decode cX7_orderOfPersons 103 = .ok (.iaload, 1) := by decide +kernel
theorem dX7_orderOfPersons_104 : decode cX7_orderOfPersons 104 = .ok (.isub, 1) := by decide +kernel
theorem dX7_orderOfPersons_105 : decode cX7_orderOfPersons 105 = .ok (.ireturn, 1) := by decide +kernel
theorem dX7_orderOfField_0 : decode cX7_orderOfField 0 = .ok (.aload_n 0, 1) := by decide +kernel
theorem dX7_orderOfField_1 : decode cX7_orderOfField 1 = .ok (.iconst 0, 1) := by decide +kernel
theorem dX7_orderOfField_2 : decode cX7_orderOfField 2 = .ok (.putfield 136, 3) := by decide +kernel
theorem dX7_orderOfField_5 : decode cX7_orderOfField 5 = .ok (.aload_n 0, 1) := by decide +kernel
theorem dX7_orderOfField_6 : decode cX7_orderOfField 6 = .ok (.aload_n 0, 1) := by decide +kernel
theorem dX7_orderOfField_7 : decode cX7_orderOfField 7 = .ok (.iload_n 1, 1) := by decide +kernel
theorem dX7_orderOfField_8 : decode cX7_orderOfField 8 = .ok (.iload_n 3, 1) := by decide +kernel
theorem dX7_orderOfField_9 : decode cX7_orderOfField 9 = .ok (.invokevirtual 125, 3) := by decide +kernel
theorem dX7_orderOfField_12 : decode cX7_orderOfField 12 = .ok (.invokevirtual 173, 3) := by decide +kernel
theorem dX7_orderOfField_15 : decode cX7_orderOfField 15 = .ok (.aload_n 0, 1) := by decide +kernel
theorem dX7_orderOfField_16 : decode cX7_orderOfField 16 = .ok (.invokevirtual 159, 3) := by decide +kernel
theorem dX7_orderOfField_19 : decode cX7_orderOfField 19 = .ok (.aload_n 0, 1) := by decide +kernel
theorem dX7_orderOfField_20 : decode cX7_orderOfField 20 = .ok (.aload_n 0, 1) := by decide +kernel
theorem dX7_orderOfField_21 : decode cX7_orderOfField 21 = .ok (.iload_n 2, 1) := by decide +kernel
theorem dX7_orderOfField_22 : decode cX7_orderOfField 22 = .ok (.iload_n 3, 1) := by decide +kernel
theorem dX7_orderOfField_23 : decode cX7_orderOfField 23 = .ok (.invokevirtual 125, 3) := by decide +kernel
theorem dX7_orderOfField_26 : decode cX7_orderOfField 26 = .ok (.invokevirtual 173, 3) := by decide +kernel
theorem dX7_orderOfField_29 : decode cX7_orderOfField 29 = .ok (.aload_n 0, 1) := by decide +kernel
theorem dX7_orderOfField_30 : decode cX7_orderOfField 30 = .ok (.iconst 1, 1) := by decide +kernel
theorem dX7_orderOfField_31 : decode cX7_orderOfField 31 = .ok (.invokevirtual 162, 3) := by decide +kernel
theorem dX7_orderOfField_34 : decode cX7_orderOfField 34 = .ok (.ireturn, 1) := by decide +kernel
theorem dX7_orderOf_0 : decode cX7_orderOf 0 = .ok (.aload_n 0, 1) := by decide +kernel
theorem dX7_orderOf_1 : decode cX7_orderOf 1 = .ok (.getfield 113, 3) := by decide +kernel
theorem dX7_orderOf_4 : decode cX7_orderOf 4 = .ok (.iconst 1, 1) := by decide +kernel
theorem dX7_orderOf_5 : decode cX7_orderOf 5 = .ok (.if_icmp .ne 12, 3) := by decide +kernel
theorem dX7_orderOf_8 : decode cX7_orderOf 8 = .ok (.aload_n 0, 1) := by decide +kernel
theorem dX7_orderOf_9 : decode cX7_orderOf 9 = .ok (.iload_n 1, 1) := by decide +kernel
theorem dX7_orderOf_10 : decode cX7_orderOf 10 = .ok (.iload_n 2, 1) := by decide +kernel
theorem dX7_orderOf_11 : decode cX7_orderOf 11 = .ok (.invokevirtual 176, 3) := by decide +kernel
theorem dX7_orderOf_14 : decode cX7_orderOf 14 = .ok (.goto 10, 3) := by decide +kernel
theorem dX7_orderOf_17 : decode cX7_orderOf 17 = .ok (.aload_n 0, 1) := by decide +kernel
theorem dX7_orderOf_18 : decode cX7_orderOf 18 = .ok (.iload_n 1, 1) := by decide +kernel
theorem dX7_orderOf_19 : decode cX7_orderOf 19 = .ok (.iload_n 2, 1) := by decide +kernel
theorem dX7_orderOf_20 : decode cX7_orderOf 20 = .ok (.iconst 2, 1) := by decide +kernel
theorem dX7_orderOf_21 : decode cX7_orderOf 21 = .ok (.invokevirtual 179, 3) := by decide +kernel
theorem dX7_orderOf_24 : decode cX7_orderOf 24 = .ok (.istore_n 3, 1) := by decide +kernel
theorem dX7_orderOf_25 : decode cX7_orderOf 25 = .ok (.iload_n 3, 1) := by decide +kernel
theorem dX7_orderOf_26 : decode cX7_orderOf 26 = .ok (.ifCond .eq 7, 3) := by decide +kernel
theorem dX7_orderOf_29 : decode cX7_orderOf 29 = .ok (.iload_n 3, 1) := by decide +kernel
theorem dX7_orderOf_30 : decode cX7_orderOf 30 = .ok (.goto 27, 3) := by decide +kernel
theorem dX7_orderOf_33 : decode cX7_orderOf 33 = .ok (.aload_n 0, 1) := by decide +kernel
theorem dX7_orderOf_34 : decode cX7_orderOf 34 = .ok (.getfield 113, 3) := by decide +kernel
theorem dX7_orderOf_37 : decode cX7_orderOf 37 = .ok (.iconst 1, 1) := by decide +kernel
theorem dX7_orderOf_38 : decode cX7_orderOf 38 = .ok (.if_icmp .ne 13, 3) := by decide +kernel
theorem dX7_orderOf_41 : decode cX7_orderOf 41 = .ok (.aload_n 0, 1) := by decide +kernel
theorem dX7_orderOf_42 : decode cX7_orderOf 42 = .ok (.iload_n 1, 1) := by decide +kernel
theorem dX7_orderOf_43 : decode cX7_orderOf 43 = .ok (.iload_n 2, 1) := by decide +kernel
theorem dX7_orderOf_44 : decode cX7_orderOf 44 = .ok (.iconst 2, 1) := by decide +kernel
theorem dX7_orderOf_45 : decode cX7_orderOf 45 = .ok (.invokevirtual 179, 3) := by decide +kernel
theorem dX7_orderOf_48 : decode cX7_orderOf 48 = .ok (.goto 9, 3) := by decide +kernel
theorem dX7_orderOf_51 : decode cX7_orderOf 51 = .ok (.aload_n 0, 1) := by decide +kernel
theorem dX7_orderOf_52 : decode cX7_orderOf 52 = .ok (.iload_n 1, 1) := by decide +kernel
theorem dX7_orderOf_53 : decode cX7_orderOf 53 = .ok (.iload_n 2, 1) := by decide +kernel
theorem dX7_orderOf_54 : decode cX7_orderOf 54 = .ok (.invokevirtual 176, 3) := by decide +kernel
theorem dX7_orderOf_57 : decode cX7_orderOf 57 = .ok (.istore_n 3, 1) := by decide +kernel
theorem dX7_orderOf_58 : decode cX7_orderOf 58 = .ok (.iload_n 3, 1) := by decide +kernel
theorem dX7_orderOf_59 : decode cX7_orderOf 59 = .ok (.ifCond .eq 7, 3) := by decide +kernel
theorem dX7_orderOf_62 : decode cX7_orderOf 62 = .ok (.iload_n 3, 1) := by decide +kernel
theorem dX7_orderOf_63 : decode cX7_orderOf 63 = .ok (.goto 10, 3) := by decide +kernel
theorem dX7_orderOf_66 : decode cX7_orderOf 66 = .ok (.aload_n 0, 1) := by decide +kernel
theorem dX7_orderOf_67 : decode cX7_orderOf 67 = .ok (.iload_n 1, 1) := by decide +kernel
theorem dX7_orderOf_68 : decode cX7_orderOf 68 = .ok (.iload_n 2, 1) := by decide +kernel
theorem dX7_orderOf_69 : decode cX7_orderOf 69 = .ok (.iconst 1, 1) := by decide +kernel
theorem dX7_orderOf_70 : decode cX7_orderOf 70 = .ok (.invokevirtual 179, 3) := by decide +kernel
theorem dX7_orderOf_73 : decode cX7_orderOf 73 = .ok (.ireturn, 1) := by decide +kernel
theorem dX7_list_0 : decode cX7_list 0 = .ok (.aload_n 0, 1) := by decide +kernel
theorem dX7_list_1 : decode cX7_list 1 = .ok (.iconst 0, 1) := by decide +kernel
theorem dX7_list_2 : decode cX7_list 2 = .ok (.putfield 183, 3) := by decide +kernel
theorem dX7_list_5 : decode cX7_list 5 = .ok (.iconst 0, 1) := by decide +kernel
theorem dX7_list_6 : decode cX7_list 6 = .ok (.istore_n 1, 1) := by decide +kernel
theorem dX7_list_7 : decode cX7_list 7 = .ok (.iload_n 1, 1) := by decide +kernel
theorem dX7_list_8 : decode cX7_list 8 = .ok (.aload_n 0, 1) := by decide +kernel
theorem dX7_list_9 : decode cX7_list 9 = .ok (.getfield 110, 3) := by decide +kernel
theorem dX7_list_12 : decode cX7_list 12 = .ok (.if_icmp .ge 85, 3) := by decide +kernel
theorem dX7_list_15 : decode cX7_list 15 = .ok (.aload_n 0, 1) := by decide +kernel
theorem dX7_list_16 : decode cX7_list 16 = .ok (.aload_n 0, 1) := by decide +kernel
theorem dX7_list_17 : decode cX7_list 17 = .ok (.getfield 28, 3) := by decide +kernel
theorem dX7_list_20 : decode cX7_list 20 = .ok (.iload_n 1, 1) := by decide +kernel
theorem dX7_list_21 : decode cX7_list 21 = .ok (.iaload, 1) := by decide +kernel
theorem dX7_list_22 : decode cX7_list 22 = .ok (.invokevirtual 186, 3) := by decide +kernel
theorem dX7_list_25 : decode cX7_list 25 = .ok (.istore_n 2, 1) := by decide +kernel
theorem dX7_list_26 : decode cX7_list 26 = .ok (.iconst 0, 1) := by decide +kernel
theorem dX7_list_27 : decode cX7_list 27 = .ok (.istore_n 3, 1) := by decide +kernel
theorem dX7_list_28 : decode cX7_list 28 = .ok (.iconst 0, 1) := by decide +kernel
theorem dX7_list_29 : decode cX7_list 29 = .ok (.istore 4, 2) := by decide +kernel
theorem dX7_list_31 : decode cX7_list 31 = .ok (.iload 4, 2) := by decide +kernel
theorem dX7_list_33 : decode cX7_list 33 = .ok (.aload_n 0, 1) := by decide +kernel
theorem dX7_list_34 : decode cX7_list 34 = .ok (.getfield 183, 3) := by decide +kernel
theorem dX7_list_37 : decode cX7_list 37 = .ok (.if_icmp .ge 30, 3) := by decide +kernel
theorem dX7_list_40 : decode cX7_list 40 = .ok (.iload_n 3, 1) := by decide +kernel
theorem dX7_list_41 : decode cX7_list 41 = .ok (.ifCond .ne 14, 3) := by decide +kernel
theorem dX7_list_44 : decode cX7_list 44 = .ok (.aload_n 0, 1) := by decide +kernel
theorem dX7_list_45 : decode cX7_list 45 = .ok (.getfield 58, 3) := by decide +kernel
theorem dX7_list_48 : decode cX7_list 48 = .ok (.iload 4, 2) := by decide +kernel
theorem dX7_list_50 : decode cX7_list 50 = .ok (.iaload, 1) := by decide +kernel
theorem dX7_list_51 : decode cX7_list 51 = .ok (.iload_n 2, 1) := by decide +kernel
theorem dX7_list_52 : decode cX7_list 52 = .ok (.if_icmp .ne 7, 3) := by decide +kernel
theorem dX7_list_55 : decode cX7_list 55 = .ok (.iconst 1, 1) := by decide +kernel
theorem dX7_list_56 : decode cX7_list 56 = .ok (.goto 4, 3) := by decide +kernel
theorem dX7_list_59 : decode cX7_list 59 = .ok (.iconst 0, 1) := by decide +kernel
theorem dX7_list_60 : decode cX7_list 60 = .ok (.istore_n 3, 1) := by decide +kernel
theorem dX7_list_61 : decode cX7_list 61 = .ok (.iinc 4 1, 3) := by decide +kernel
theorem dX7_list_64 : decode cX7_list 64 = .ok (.goto (-33), 3) := by decide +kernel
theorem dX7_list_67 : decode cX7_list 67 = .ok (.iload_n 3, 1) := by decide +kernel
theorem dX7_list_68 : decode cX7_list 68 = .ok (.ifCond .ne 23, 3) := by decide +kernel
theorem dX7_list_71 : decode cX7_list 71 = .ok (.aload_n 0, 1) := by decide +kernel
theorem dX7_list_72 : decode cX7_list 72 = .ok (.getfield 58, 3) := by decide +kernel
theorem dX7_list_75 : decode cX7_list 75 = .ok (.aload_n 0, 1) := by decide +kernel
theorem dX7_list_76 : decode cX7_list 76 = .ok (.getfield 183, 3) := by decide +kernel
theorem dX7_list_79 : decode cX7_list 79 = .ok (.iload_n 2, 1) := by decide +kernel
theorem dX7_list_80 : decode cX7_list 80 = .ok (.iastore, 1) := by decide +kernel
theorem dX7_list_81 : decode cX7_list 81 = .ok (.aload_n 0, 1) := by decide +kernel
theorem dX7_list_82 : decode cX7_list 82 = .ok (.dup, 1) := by decide +kernel
theorem dX7_list_83 : decode cX7_list 83 = .ok (.getfield 183, 3) := by decide +kernel
theorem dX7_list_86 : decode cX7_list 86 = .ok (.iconst 1, 1) := by decide +kernel
theorem dX7_list_87 : decode cX7_list 87 = .ok (.iadd, 1) := by decide +kernel
theorem dX7_list_88 : decode cX7_list 88 = .ok (.putfield 183, 3) := by decide +kernel
theorem dX7_list_91 : decode cX7_list 91 = .ok (.iinc 1 1, 3) := by decide +kernel
theorem dX7_list_94 : decode cX7_list 94 = .ok (.goto (-87), 3) := by decide +kernel
theorem dX7_list_97 : decode cX7_list 97 = .ok (.iconst 1, 1) := by decide +kernel
theorem dX7_list_98 : decode cX7_list 98 = .ok (.istore_n 1, 1) := by decide +kernel
theorem dX7_list_99 : decode cX7_list 99 = .ok (.iload_n 1, 1) := by decide +kernel
theorem dX7_list_100 : decode cX7_list 100 = .ok (.aload_n 0, 1) := by decide +kernel
theorem dX7_list_101 : decode cX7_list 101 = .ok (.getfield 183, 3) := by decide +kernel
theorem dX7_list_104 : decode cX7_list 104 = .ok (.if_icmp .ge 72, 3) := by decide +kernel
theorem dX7_list_107 : decode cX7_list 107 = .ok (.aload_n 0, 1) := by decide +kernel
theorem dX7_list_108 : decode cX7_list 108 = .ok (.getfield 113, 3) := by decide +kernel
theorem dX7_list_111 : decode cX7_list 111 = .ok (.ifCond .le 65, 3) := by decide +kernel
theorem dX7_list_114 : decode cX7_list 114 = .ok (.aload_n 0, 1) := by decide +kernel
theorem dX7_list_115 : decode cX7_list 115 = .ok (.getfield 58, 3) := by decide +kernel
theorem dX7_list_118 : decode cX7_list 118 = .ok (.iload_n 1, 1) := by decide +kernel
theorem dX7_list_119 : decode cX7_list 119 = .ok (.iaload, 1) := by decide +kernel
theorem dX7_list_120 : decode cX7_list 120 = .ok (.istore_n 2, 1) := by decide +kernel
theorem dX7_list_121 : decode cX7_list 121 = .ok (.iload_n 1, 1) := by decide +kernel
theorem dX7_list_122 : decode cX7_list 122 = .ok (.istore_n 3, 1) := by decide +kernel
theorem dX7_list_123 : decode cX7_list 123 = .ok (.iload_n 3, 1) := by decide +kernel
theorem dX7_list_124 : decode cX7_list 124 = .ok (.ifCond .le 39, 3) := by decide +kernel
theorem dX7_list_127 : decode cX7_list 127 = .ok (.aload_n 0, 1) := by decide +kernel
theorem dX7_list_128 : decode cX7_list 128 = .ok (.aload_n 0, 1) := by decide +kernel
theorem dX7_list_129 : decode cX7_list 129 = .ok (.getfield 58, 3) := by decide +kernel
theorem dX7_list_132 : decode cX7_list 132 = .ok (.iload_n 3, 1) := by decide +kernel
theorem dX7_list_133 : decode cX7_list 133 = .ok (.iconst 1, 1) := by decide +kernel
theorem dX7_list_134 : decode cX7_list 134 = .ok (.isub, 1) := by decide +kernel
theorem dX7_list_135 : decode cX7_list 135 = .ok (.iaload, 1) := by decide +kernel
theorem dX7_list_136 : decode cX7_list 136 = .ok (.iload_n 2, 1) := by decide +kernel
theorem dX7_list_137 : decode cX7_list 137 = .ok (.invokevirtual 189, 3) := by decide +kernel
theorem dX7_list_140 : decode cX7_list 140 = .ok (.ifCond .le 23, 3) := by decide +kernel
theorem dX7_list_143 : decode cX7_list 143 = .ok (.aload_n 0, 1) := by decide +kernel
theorem dX7_list_144 : decode cX7_list 144 = .ok (.getfield 58, 3) := by decide +kernel
theorem dX7_list_147 : decode cX7_list 147 = .ok (.iload_n 3, 1) := by decide +kernel
theorem dX7_list_148 : decode cX7_list 148 = .ok (.aload_n 0, 1) := by decide +kernel
theorem dX7_list_149 : decode cX7_list 149 = .ok (.getfield 58, 3) := by decide +kernel
theorem dX7_list_152 : decode cX7_list 152 = .ok (.iload_n 3, 1) := by decide +kernel
theorem dX7_list_153 : decode cX7_list 153 = .ok (.iconst 1, 1) := by decide +kernel
theorem dX7_list_154 : decode cX7_list 154 = .ok (.isub, 1) := by decide +kernel
theorem dX7_list_155 : decode cX7_list 155 = .ok (.iaload, 1) := by decide +kernel
theorem dX7_list_156 : decode cX7_list 156 = .ok (.iastore, 1) := by decide +kernel
theorem dX7_list_157 : decode cX7_list 157 = .ok (.iinc 3 (-1), 3) := by decide +kernel
theorem dX7_list_160 : decode cX7_list 160 = .ok (.goto (-37), 3) := by decide +kernel
theorem dX7_list_163 : decode cX7_list 163 = .ok (.aload_n 0, 1) := by decide +kernel
theorem dX7_list_164 : decode cX7_list 164 = .ok (.getfield 58, 3) := by decide +kernel
theorem dX7_list_167 : decode cX7_list 167 = .ok (.iload_n 3, 1) := by decide +kernel
theorem dX7_list_168 : decode cX7_list 168 = .ok (.iload_n 2, 1) := by decide +kernel
theorem dX7_list_169 : decode cX7_list 169 = .ok (.iastore, 1) := by decide +kernel
theorem dX7_list_170 : decode cX7_list 170 = .ok (.iinc 1 1, 3) := by decide +kernel
theorem dX7_list_173 : decode cX7_list 173 = .ok (.goto (-74), 3) := by decide +kernel
theorem dX7_list_176 : decode cX7_list 176 = .ok (.return_, 1) := by decide +kernel
theorem dX7_isAlike_0 : decode cX7_isAlike 0 = .ok (.iconst 0, 1) := by decide +kernel
theorem dX7_isAlike_1 : decode cX7_isAlike 1 = .ok (.istore_n 2, 1) := by decide +kernel
theorem dX7_isAlike_2 : decode cX7_isAlike 2 = .ok (.iconst 0, 1) := by decide +kernel
theorem dX7_isAlike_3 : decode cX7_isAlike 3 = .ok (.istore_n 3, 1) := by decide +kernel
theorem dX7_isAlike_4 : decode cX7_isAlike 4 = .ok (.iload_n 3, 1) := by decide +kernel
theorem dX7_isAlike_5 : decode cX7_isAlike 5 = .ok (.aload_n 0, 1) := by decide +kernel
theorem dX7_isAlike_6 : decode cX7_isAlike 6 = .ok (.getfield 183, 3) := by decide +kernel
theorem dX7_isAlike_9 : decode cX7_isAlike 9 = .ok (.if_icmp .ge 102, 3) := by decide +kernel
theorem dX7_isAlike_12 : decode cX7_isAlike 12 = .ok (.aload_n 0, 1) := by decide +kernel
theorem dX7_isAlike_13 : decode cX7_isAlike 13 = .ok (.getfield 58, 3) := by decide +kernel
theorem dX7_isAlike_16 : decode cX7_isAlike 16 = .ok (.iload_n 3, 1) := by decide +kernel
theorem dX7_isAlike_17 : decode cX7_isAlike 17 = .ok (.iaload, 1) := by decide +kernel
theorem dX7_isAlike_18 : decode cX7_isAlike 18 = .ok (.iload_n 1, 1) := by decide +kernel
theorem dX7_isAlike_19 : decode cX7_isAlike 19 = .ok (.if_icmp .eq 86, 3) := by decide +kernel
theorem dX7_isAlike_22 : decode cX7_isAlike 22 = .ok (.aload_n 0, 1) := by decide +kernel
theorem dX7_isAlike_23 : decode cX7_isAlike 23 = .ok (.iconst 0, 1) := by decide +kernel
theorem dX7_isAlike_24 : decode cX7_isAlike 24 = .ok (.iload_n 1, 1) := by decide +kernel
theorem dX7_isAlike_25 : decode cX7_isAlike 25 = .ok (.invokevirtual 166, 3) := by decide +kernel
theorem dX7_isAlike_28 : decode cX7_isAlike 28 = .ok (.aload_n 0, 1) := by decide +kernel
theorem dX7_isAlike_29 : decode cX7_isAlike 29 = .ok (.iconst 1, 1) := by decide +kernel
theorem dX7_isAlike_30 : decode cX7_isAlike 30 = .ok (.aload_n 0, 1) := by decide +kernel
theorem dX7_isAlike_31 : decode cX7_isAlike 31 = .ok (.getfield 58, 3) := by decide +kernel
theorem dX7_isAlike_34 : decode cX7_isAlike 34 = .ok (.iload_n 3, 1) := by decide +kernel
theorem dX7_isAlike_35 : decode cX7_isAlike 35 = .ok (.iaload, 1) := by decide +kernel
theorem dX7_isAlike_36 : decode cX7_isAlike 36 = .ok (.invokevirtual 166, 3) := by decide +kernel
theorem dX7_isAlike_39 : decode cX7_isAlike 39 = .ok (.aload_n 0, 1) := by decide +kernel
theorem dX7_isAlike_40 : decode cX7_isAlike 40 = .ok (.getfield 49, 3) := by decide +kernel
theorem dX7_isAlike_43 : decode cX7_isAlike 43 = .ok (.iconst 0, 1) := by decide +kernel
theorem dX7_isAlike_44 : decode cX7_isAlike 44 = .ok (.iaload, 1) := by decide +kernel
theorem dX7_isAlike_45 : decode cX7_isAlike 45 = .ok (.ifCond .le 60, 3) := by decide +kernel
theorem dX7_isAlike_48 : decode cX7_isAlike 48 = .ok (.aload_n 0, 1) := by decide +kernel
theorem dX7_isAlike_49 : decode cX7_isAlike 49 = .ok (.getfield 49, 3) := by decide +kernel
theorem dX7_isAlike_52 : decode cX7_isAlike 52 = .ok (.iconst 1, 1) := by decide +kernel
theorem dX7_isAlike_53 : decode cX7_isAlike 53 = .ok (.iaload, 1) := by decide +kernel
theorem dX7_isAlike_54 : decode cX7_isAlike 54 = .ok (.ifCond .le 51, 3) := by decide +kernel
theorem dX7_isAlike_57 : decode cX7_isAlike 57 = .ok (.aload_n 0, 1) := by decide +kernel
theorem dX7_isAlike_58 : decode cX7_isAlike 58 = .ok (.iconst 0, 1) := by decide +kernel
theorem dX7_isAlike_59 : decode cX7_isAlike 59 = .ok (.iconst 2, 1) := by decide +kernel
theorem dX7_isAlike_60 : decode cX7_isAlike 60 = .ok (.invokevirtual 170, 3) := by decide +kernel
theorem dX7_isAlike_63 : decode cX7_isAlike 63 = .ok (.ifCond .ne 42, 3) := by decide +kernel
theorem dX7_isAlike_66 : decode cX7_isAlike 66 = .ok (.aload_n 0, 1) := by decide +kernel
theorem dX7_isAlike_67 : decode cX7_isAlike 67 = .ok (.iconst 0, 1) := by decide +kernel
theorem dX7_isAlike_68 : decode cX7_isAlike 68 = .ok (.putfield 136, 3) := by decide +kernel
theorem dX7_isAlike_71 : decode cX7_isAlike 71 = .ok (.aload_n 0, 1) := by decide +kernel
theorem dX7_isAlike_72 : decode cX7_isAlike 72 = .ok (.iconst 0, 1) := by decide +kernel
theorem dX7_isAlike_73 : decode cX7_isAlike 73 = .ok (.iconst 0, 1) := by decide +kernel
theorem dX7_isAlike_74 : decode cX7_isAlike 74 = .ok (.invokevirtual 192, 3) := by decide +kernel
theorem dX7_isAlike_77 : decode cX7_isAlike 77 = .ok (.aload_n 0, 1) := by decide +kernel
theorem dX7_isAlike_78 : decode cX7_isAlike 78 = .ok (.invokevirtual 159, 3) := by decide +kernel
theorem dX7_isAlike_81 : decode cX7_isAlike 81 = .ok (.aload_n 0, 1) := by decide +kernel
theorem dX7_isAlike_82 : decode cX7_isAlike 82 = .ok (.iconst 1, 1) := by decide +kernel
theorem dX7_isAlike_83 : decode cX7_isAlike 83 = .ok (.iconst 0, 1) := by decide +kernel
theorem dX7_isAlike_84 : decode cX7_isAlike 84 = .ok (.invokevirtual 192, 3) := by decide +kernel
theorem dX7_isAlike_87 : decode cX7_isAlike 87 = .ok (.iload_n 2, 1) := by decide +kernel
theorem dX7_isAlike_88 : decode cX7_isAlike 88 = .ok (.ifCond .ne 11, 3) := by decide +kernel
theorem dX7_isAlike_91 : decode cX7_isAlike 91 = .ok (.aload_n 0, 1) := by decide +kernel
theorem dX7_isAlike_92 : decode cX7_isAlike 92 = .ok (.iconst 0, 1) := by decide +kernel
theorem dX7_isAlike_93 : decode cX7_isAlike 93 = .ok (.invokevirtual 162, 3) := by decide +kernel
theorem dX7_isAlike_96 : decode cX7_isAlike 96 = .ok (.ifCond .eq 7, 3) := by decide +kernel
theorem dX7_isAlike_99 : decode cX7_isAlike 99 = .ok (.iconst 1, 1) := by decide +kernel
theorem dX7_isAlike_100 : decode cX7_isAlike 100 = .ok (.goto 4, 3) := by decide +kernel
theorem dX7_isAlike_103 : decode cX7_isAlike 103 = .ok (.iconst 0, 1) := by decide +kernel
theorem dX7_isAlike_104 : decode cX7_isAlike 104 = .ok (.istore_n 2, 1) := by decide +kernel
theorem dX7_isAlike_105 : decode cX7_isAlike 105 = .ok (.iinc 3 1, 3) := by decide +kernel
theorem dX7_isAlike_108 : decode cX7_isAlike 108 = .ok (.goto (-104), 3) := by decide +kernel
theorem dX7_isAlike_111 : decode cX7_isAlike 111 = .ok (.iload_n 2, 1) := by decide +kernel
theorem dX7_isAlike_112 : decode cX7_isAlike 112 = .ok (.ireturn, 1) := by decide +kernel
theorem dX7_makeShort_0 : decode cX7_makeShort 0 = .ok (.aload_n 0, 1) := by decide +kernel
theorem dX7_makeShort_1 : decode cX7_makeShort 1 = .ok (.iconst 0, 1) := by decide +kernel
theorem dX7_makeShort_2 : decode cX7_makeShort 2 = .ok (.iload_n 1, 1) := by decide +kernel
theorem dX7_makeShort_3 : decode cX7_makeShort 3 = .ok (.invokevirtual 166, 3) := by decide +kernel
theorem dX7_makeShort_6 : decode cX7_makeShort 6 = .ok (.aload_n 0, 1) := by decide +kernel
theorem dX7_makeShort_7 : decode cX7_makeShort 7 = .ok (.getfield 49, 3) := by decide +kernel
theorem dX7_makeShort_10 : decode cX7_makeShort 10 = .ok (.iconst 0, 1) := by decide +kernel
theorem dX7_makeShort_11 : decode cX7_makeShort 11 = .ok (.iaload, 1) := by decide +kernel
theorem dX7_makeShort_12 : decode cX7_makeShort 12 = .ok (.istore_n 2, 1) := by decide +kernel
theorem dX7_makeShort_13 : decode cX7_makeShort 13 = .ok (.iload_n 2, 1) := by decide +kernel
theorem dX7_makeShort_14 : decode cX7_makeShort 14 = .ok (.ifCond .ne 12, 3) := by decide +kernel
theorem dX7_makeShort_17 : decode cX7_makeShort 17 = .ok (.aload_n 0, 1) := by decide +kernel
theorem dX7_makeShort_18 : decode cX7_makeShort 18 = .ok (.iload_n 1, 1) := by decide +kernel
theorem dX7_makeShort_19 : decode cX7_makeShort 19 = .ok (.iconst 3, 1) := by decide +kernel
theorem dX7_makeShort_20 : decode cX7_makeShort 20 = .ok (.invokevirtual 195, 3) := by decide +kernel
theorem dX7_makeShort_23 : decode cX7_makeShort 23 = .ok (.goto 16, 3) := by decide +kernel
theorem dX7_makeShort_26 : decode cX7_makeShort 26 = .ok (.iload_n 2, 1) := by decide +kernel
theorem dX7_makeShort_27 : decode cX7_makeShort 27 = .ok (.iconst 1, 1) := by decide +kernel
theorem dX7_makeShort_28 : decode cX7_makeShort 28 = .ok (.if_icmp .ne 11, 3) := by decide +kernel
theorem dX7_makeShort_31 : decode cX7_makeShort 31 = .ok (.aload_n 0, 1) := by decide +kernel
theorem dX7_makeShort_32 : decode cX7_makeShort 32 = .ok (.iconst 0, 1) := by decide +kernel
theorem dX7_makeShort_33 : decode cX7_makeShort 33 = .ok (.iconst 0, 1) := by decide +kernel
theorem dX7_makeShort_34 : decode cX7_makeShort 34 = .ok (.iconst 2, 1) := by decide +kernel
theorem dX7_makeShort_35 : decode cX7_makeShort 35 = .ok (.iconst 3, 1) := by decide +kernel
theorem dX7_makeShort_36 : decode cX7_makeShort 36 = .ok (.invokevirtual 145, 3) := by decide +kernel
theorem dX7_makeShort_39 : decode cX7_makeShort 39 = .ok (.iconst 0, 1) := by decide +kernel
theorem dX7_makeShort_40 : decode cX7_makeShort 40 = .ok (.istore_n 3, 1) := by decide +kernel
theorem dX7_makeShort_41 : decode cX7_makeShort 41 = .ok (.iload_n 3, 1) := by decide +kernel
theorem dX7_makeShort_42 : decode cX7_makeShort 42 = .ok (.iload_n 2, 1) := by decide +kernel
theorem dX7_makeShort_43 : decode cX7_makeShort 43 = .ok (.if_icmp .ge 27, 3) := by decide +kernel
theorem dX7_makeShort_46 : decode cX7_makeShort 46 = .ok (.iload_n 3, 1) := by decide +kernel
theorem dX7_makeShort_47 : decode cX7_makeShort 47 = .ok (.iconst 4, 1) := by decide +kernel
theorem dX7_makeShort_48 : decode cX7_makeShort 48 = .ok (.if_icmp .ge 22, 3) := by decide +kernel
theorem dX7_makeShort_51 : decode cX7_makeShort 51 = .ok (.iload_n 2, 1) := by decide +kernel
theorem dX7_makeShort_52 : decode cX7_makeShort 52 = .ok (.iconst 1, 1) := by decide +kernel
theorem dX7_makeShort_53 : decode cX7_makeShort 53 = .ok (.if_icmp .le 17, 3) := by decide +kernel
theorem dX7_makeShort_56 : decode cX7_makeShort 56 = .ok (.aload_n 0, 1) := by decide +kernel
theorem dX7_makeShort_57 : decode cX7_makeShort 57 = .ok (.iconst 0, 1) := by decide +kernel
theorem dX7_makeShort_58 : decode cX7_makeShort 58 = .ok (.iload_n 3, 1) := by decide +kernel
theorem dX7_makeShort_59 : decode cX7_makeShort 59 = .ok (.iconst 2, 1) := by decide +kernel
theorem dX7_makeShort_60 : decode cX7_makeShort 60 = .ok (.iconst 1, 1) := by decide +kernel
theorem dX7_makeShort_61 : decode cX7_makeShort 61 = .ok (.invokevirtual 145, 3) := by decide +kernel
theorem dX7_makeShort_64 : decode cX7_makeShort 64 = .ok (.iinc 3 1, 3) := by decide +kernel
theorem dX7_makeShort_67 : decode cX7_makeShort 67 = .ok (.goto (-26), 3) := by decide +kernel
theorem dX7_makeShort_70 : decode cX7_makeShort 70 = .ok (.iload_n 2, 1) := by decide +kernel
theorem dX7_makeShort_71 : decode cX7_makeShort 71 = .ok (.iconst 4, 1) := by decide +kernel
theorem dX7_makeShort_72 : decode cX7_makeShort 72 = .ok (.if_icmp .le 9, 3) := by decide +kernel
theorem dX7_makeShort_75 : decode cX7_makeShort 75 = .ok (.aload_n 0, 1) := by decide +kernel
theorem dX7_makeShort_76 : decode cX7_makeShort 76 = .ok (.bipush 43, 2) := by decide +kernel
theorem dX7_makeShort_78 : decode cX7_makeShort 78 = .ok (.invokevirtual 141, 3) := by decide +kernel
theorem dX7_makeShort_81 : decode cX7_makeShort 81 = .ok (.aload_n 0, 1) := by decide +kernel
theorem dX7_makeShort_82 : decode cX7_makeShort 82 = .ok (.iload_n 1, 1) := by decide +kernel
theorem dX7_makeShort_83 : decode cX7_makeShort 83 = .ok (.iconst 2, 1) := by decide +kernel
theorem dX7_makeShort_84 : decode cX7_makeShort 84 = .ok (.invokevirtual 125, 3) := by decide +kernel
theorem dX7_makeShort_87 : decode cX7_makeShort 87 = .ok (.istore_n 3, 1) := by decide +kernel
theorem dX7_makeShort_88 : decode cX7_makeShort 88 = .ok (.iload_n 3, 1) := by decide +kernel
theorem dX7_makeShort_89 : decode cX7_makeShort 89 = .ok (.iconst (-1), 1) := by decide +kernel
theorem dX7_makeShort_90 : decode cX7_makeShort 90 = .ok (.if_icmp .eq 13, 3) := by decide +kernel
theorem dX7_makeShort_93 : decode cX7_makeShort 93 = .ok (.aload_n 0, 1) := by decide +kernel
theorem dX7_makeShort_94 : decode cX7_makeShort 94 = .ok (.getfield 19, 3) := by decide +kernel
theorem dX7_makeShort_97 : decode cX7_makeShort 97 = .ok (.iload_n 3, 1) := by decide +kernel
theorem dX7_makeShort_98 : decode cX7_makeShort 98 = .ok (.iaload, 1) := by decide +kernel
theorem dX7_makeShort_99 : decode cX7_makeShort 99 = .ok (.iconst 2, 1) := by decide +kernel
theorem dX7_makeShort_100 : decode cX7_makeShort 100 = .ok (.if_icmp .ge 7, 3) := by decide +kernel
theorem dX7_makeShort_103 : decode cX7_makeShort 103 = .ok (.iconst 0, 1) := by decide +kernel
theorem dX7_makeShort_104 : decode cX7_makeShort 104 = .ok (.goto 11, 3) := by decide +kernel
theorem dX7_makeShort_107 : decode cX7_makeShort 107 = .ok (.aload_n 0, 1) := by decide +kernel
theorem dX7_makeShort_108 : decode cX7_makeShort 108 = .ok (.getfield 19, 3) := by decide +kernel
theorem dX7_makeShort_111 : decode cX7_makeShort 111 = .ok (.iload_n 3, 1) := by decide +kernel
theorem dX7_makeShort_112 : decode cX7_makeShort 112 = .ok (.iaload, 1) := by decide +kernel
theorem dX7_makeShort_113 : decode cX7_makeShort 113 = .ok (.iconst 2, 1) := by decide +kernel
theorem dX7_makeShort_114 : decode cX7_makeShort 114 = .ok (.isub, 1) := by decide +kernel
theorem dX7_makeShort_115 : decode cX7_makeShort 115 = .ok (.istore 4, 2) := by decide +kernel
theorem dX7_makeShort_117 : decode cX7_makeShort 117 = .ok (.iload 4, 2) := by decide +kernel
theorem dX7_makeShort_119 : decode cX7_makeShort 119 = .ok (.istore 5, 2) := by decide +kernel
theorem dX7_makeShort_121 : decode cX7_makeShort 121 = .ok (.iload_n 3, 1) := by decide +kernel
theorem dX7_makeShort_122 : decode cX7_makeShort 122 = .ok (.iconst (-1), 1) := by decide +kernel
theorem dX7_makeShort_123 : decode cX7_makeShort 123 = .ok (.if_icmp .eq 36, 3) := by decide +kernel
theorem dX7_makeShort_126 : decode cX7_makeShort 126 = .ok (.iload 5, 2) := by decide +kernel
theorem dX7_makeShort_128 : decode cX7_makeShort 128 = .ok (.aload_n 0, 1) := by decide +kernel
theorem dX7_makeShort_129 : decode cX7_makeShort 129 = .ok (.getfield 19, 3) := by decide +kernel
theorem dX7_makeShort_132 : decode cX7_makeShort 132 = .ok (.iload_n 3, 1) := by decide +kernel
theorem dX7_makeShort_133 : decode cX7_makeShort 133 = .ok (.iaload, 1) := by decide +kernel
theorem dX7_makeShort_134 : decode cX7_makeShort 134 = .ok (.if_icmp .ge 25, 3) := by decide +kernel
theorem dX7_makeShort_137 : decode cX7_makeShort 137 = .ok (.aload_n 0, 1) := by decide +kernel
theorem dX7_makeShort_138 : decode cX7_makeShort 138 = .ok (.aload_n 0, 1) := by decide +kernel
theorem dX7_makeShort_139 : decode cX7_makeShort 139 = .ok (.getfield 22, 3) := by decide +kernel
theorem dX7_makeShort_142 : decode cX7_makeShort 142 = .ok (.bipush 80, 2) := by decide +kernel
theorem dX7_makeShort_144 : decode cX7_makeShort 144 = .ok (.iload_n 3, 1) := by decide +kernel
theorem dX7_makeShort_145 : decode cX7_makeShort 145 = .ok (.imul, 1) := by decide +kernel
theorem dX7_makeShort_146 : decode cX7_makeShort 146 = .ok (.iload 5, 2) := by decide +kernel
theorem dX7_makeShort_148 : decode cX7_makeShort 148 = .ok (.iadd, 1) := by decide +kernel
theorem dX7_makeShort_149 : decode cX7_makeShort 149 = .ok (.iaload, 1) := by decide +kernel
theorem dX7_makeShort_150 : decode cX7_makeShort 150 = .ok (.invokevirtual 141, 3) := by decide +kernel
theorem dX7_makeShort_153 : decode cX7_makeShort 153 = .ok (.iinc 5 1, 3) := by decide +kernel
theorem dX7_makeShort_156 : decode cX7_makeShort 156 = .ok (.goto (-35), 3) := by decide +kernel
theorem dX7_makeShort_159 : decode cX7_makeShort 159 = .ok (.return_, 1) := by decide +kernel
theorem dX7_makeLong_0 : decode cX7_makeLong 0 = .ok (.aload_n 0, 1) := by decide +kernel
theorem dX7_makeLong_1 : decode cX7_makeLong 1 = .ok (.iconst 0, 1) := by decide +kernel
theorem dX7_makeLong_2 : decode cX7_makeLong 2 = .ok (.iload_n 1, 1) := by decide +kernel
theorem dX7_makeLong_3 : decode cX7_makeLong 3 = .ok (.invokevirtual 166, 3) := by decide +kernel
theorem dX7_makeLong_6 : decode cX7_makeLong 6 = .ok (.aload_n 0, 1) := by decide +kernel
theorem dX7_makeLong_7 : decode cX7_makeLong 7 = .ok (.getfield 49, 3) := by decide +kernel
theorem dX7_makeLong_10 : decode cX7_makeLong 10 = .ok (.iconst 0, 1) := by decide +kernel
theorem dX7_makeLong_11 : decode cX7_makeLong 11 = .ok (.iaload, 1) := by decide +kernel
theorem dX7_makeLong_12 : decode cX7_makeLong 12 = .ok (.istore_n 3, 1) := by decide +kernel
theorem dX7_makeLong_13 : decode cX7_makeLong 13 = .ok (.iload_n 3, 1) := by decide +kernel
theorem dX7_makeLong_14 : decode cX7_makeLong 14 = .ok (.ifCond .ne 13, 3) := by decide +kernel
theorem dX7_makeLong_17 : decode cX7_makeLong 17 = .ok (.aload_n 0, 1) := by decide +kernel
theorem dX7_makeLong_18 : decode cX7_makeLong 18 = .ok (.iload_n 1, 1) := by decide +kernel
theorem dX7_makeLong_19 : decode cX7_makeLong 19 = .ok (.bipush 16, 2) := by decide +kernel
theorem dX7_makeLong_21 : decode cX7_makeLong 21 = .ok (.invokevirtual 195, 3) := by decide +kernel
theorem dX7_makeLong_24 : decode cX7_makeLong 24 = .ok (.goto 35, 3) := by decide +kernel
theorem dX7_makeLong_27 : decode cX7_makeLong 27 = .ok (.iload_n 2, 1) := by decide +kernel
theorem dX7_makeLong_28 : decode cX7_makeLong 28 = .ok (.ifCond .eq 25, 3) := by decide +kernel
theorem dX7_makeLong_31 : decode cX7_makeLong 31 = .ok (.aload_n 0, 1) := by decide +kernel
theorem dX7_makeLong_32 : decode cX7_makeLong 32 = .ok (.iconst 0, 1) := by decide +kernel
theorem dX7_makeLong_33 : decode cX7_makeLong 33 = .ok (.iconst 0, 1) := by decide +kernel
theorem dX7_makeLong_34 : decode cX7_makeLong 34 = .ok (.iconst 0, 1) := by decide +kernel
theorem dX7_makeLong_35 : decode cX7_makeLong 35 = .ok (.invokevirtual 149, 3) := by decide +kernel
theorem dX7_makeLong_38 : decode cX7_makeLong 38 = .ok (.ifCond .eq 15, 3) := by decide +kernel
theorem dX7_makeLong_41 : decode cX7_makeLong 41 = .ok (.aload_n 0, 1) := by decide +kernel
theorem dX7_makeLong_42 : decode cX7_makeLong 42 = .ok (.iconst 0, 1) := by decide +kernel
theorem dX7_makeLong_43 : decode cX7_makeLong 43 = .ok (.iconst 0, 1) := by decide +kernel
theorem dX7_makeLong_44 : decode cX7_makeLong 44 = .ok (.invokevirtual 192, 3) := by decide +kernel
theorem dX7_makeLong_47 : decode cX7_makeLong 47 = .ok (.aload_n 0, 1) := by decide +kernel
theorem dX7_makeLong_48 : decode cX7_makeLong 48 = .ok (.bipush 32, 2) := by decide +kernel
theorem dX7_makeLong_50 : decode cX7_makeLong 50 = .ok (.invokevirtual 141, 3) := by decide +kernel
theorem dX7_makeLong_53 : decode cX7_makeLong 53 = .ok (.aload_n 0, 1) := by decide +kernel
theorem dX7_makeLong_54 : decode cX7_makeLong 54 = .ok (.iconst 0, 1) := by decide +kernel
theorem dX7_makeLong_55 : decode cX7_makeLong 55 = .ok (.iconst 0, 1) := by decide +kernel
theorem dX7_makeLong_56 : decode cX7_makeLong 56 = .ok (.invokevirtual 198, 3) := by decide +kernel
theorem dX7_makeLong_59 : decode cX7_makeLong 59 = .ok (.iload_n 3, 1) := by decide +kernel
theorem dX7_makeLong_60 : decode cX7_makeLong 60 = .ok (.iconst 2, 1) := by decide +kernel
theorem dX7_makeLong_61 : decode cX7_makeLong 61 = .ok (.if_icmp .ne 16, 3) := by decide +kernel
theorem dX7_makeLong_64 : decode cX7_makeLong 64 = .ok (.aload_n 0, 1) := by decide +kernel
theorem dX7_makeLong_65 : decode cX7_makeLong 65 = .ok (.ldc2_w 201, 3) := by decide +kernel
theorem dX7_makeLong_68 : decode cX7_makeLong 68 = .ok (.invokevirtual 203, 3) := by decide +kernel
theorem dX7_makeLong_71 : decode cX7_makeLong 71 = .ok (.aload_n 0, 1) := by decide +kernel
theorem dX7_makeLong_72 : decode cX7_makeLong 72 = .ok (.iconst 0, 1) := by decide +kernel
theorem dX7_makeLong_73 : decode cX7_makeLong 73 = .ok (.iconst 1, 1) := by decide +kernel
theorem dX7_makeLong_74 : decode cX7_makeLong 74 = .ok (.invokevirtual 198, 3) := by decide +kernel
theorem dX7_makeLong_77 : decode cX7_makeLong 77 = .ok (.iload_n 3, 1) := by decide +kernel
theorem dX7_makeLong_78 : decode cX7_makeLong 78 = .ok (.iconst 2, 1) := by decide +kernel
theorem dX7_makeLong_79 : decode cX7_makeLong 79 = .ok (.if_icmp .le 10, 3) := by decide +kernel
theorem dX7_makeLong_82 : decode cX7_makeLong 82 = .ok (.aload_n 0, 1) := by decide +kernel
theorem dX7_makeLong_83 : decode cX7_makeLong 83 = .ok (.ldc2_w 207, 3) := by decide +kernel
theorem dX7_makeLong_86 : decode cX7_makeLong 86 = .ok (.invokevirtual 203, 3) := by decide +kernel
theorem dX7_makeLong_89 : decode cX7_makeLong 89 = .ok (.aload_n 0, 1) := by decide +kernel
theorem dX7_makeLong_90 : decode cX7_makeLong 90 = .ok (.iload_n 1, 1) := by decide +kernel
theorem dX7_makeLong_91 : decode cX7_makeLong 91 = .ok (.iconst 2, 1) := by decide +kernel
theorem dX7_makeLong_92 : decode cX7_makeLong 92 = .ok (.invokevirtual 125, 3) := by decide +kernel
theorem dX7_makeLong_95 : decode cX7_makeLong 95 = .ok (.istore 4, 2) := by decide +kernel
theorem dX7_makeLong_97 : decode cX7_makeLong 97 = .ok (.iload 4, 2) := by decide +kernel
theorem dX7_makeLong_99 : decode cX7_makeLong 99 = .ok (.iconst (-1), 1) := by decide +kernel
theorem dX7_makeLong_100 : decode cX7_makeLong 100 = .ok (.if_icmp .eq 15, 3) := by decide +kernel
theorem dX7_makeLong_103 : decode cX7_makeLong 103 = .ok (.aload_n 0, 1) := by decide +kernel
theorem dX7_makeLong_104 : decode cX7_makeLong 104 = .ok (.bipush 32, 2) := by decide +kernel
theorem dX7_makeLong_106 : decode cX7_makeLong 106 = .ok (.invokevirtual 141, 3) := by decide +kernel
theorem dX7_makeLong_109 : decode cX7_makeLong 109 = .ok (.aload_n 0, 1) := by decide +kernel
theorem dX7_makeLong_110 : decode cX7_makeLong 110 = .ok (.iload 4, 2) := by decide +kernel
theorem dX7_makeLong_112 : decode cX7_makeLong 112 = .ok (.invokevirtual 173, 3) := by decide +kernel
theorem dX7_makeLong_115 : decode cX7_makeLong 115 = .ok (.return_, 1) := by decide +kernel
theorem dX7_makeBase_0 : decode cX7_makeBase 0 = .ok (.aload_n 0, 1) := by decide +kernel
theorem dX7_makeBase_1 : decode cX7_makeBase 1 = .ok (.getfield 58, 3) := by decide +kernel
theorem dX7_makeBase_4 : decode cX7_makeBase 4 = .ok (.iload_n 1, 1) := by decide +kernel
theorem dX7_makeBase_5 : decode cX7_makeBase 5 = .ok (.iaload, 1) := by decide +kernel
theorem dX7_makeBase_6 : decode cX7_makeBase 6 = .ok (.istore_n 2, 1) := by decide +kernel
theorem dX7_makeBase_7 : decode cX7_makeBase 7 = .ok (.aload_n 0, 1) := by decide +kernel
theorem dX7_makeBase_8 : decode cX7_makeBase 8 = .ok (.getfield 116, 3) := by decide +kernel
theorem dX7_makeBase_11 : decode cX7_makeBase 11 = .ok (.iconst 2, 1) := by decide +kernel
theorem dX7_makeBase_12 : decode cX7_makeBase 12 = .ok (.if_icmp .ne 15, 3) := by decide +kernel
theorem dX7_makeBase_15 : decode cX7_makeBase 15 = .ok (.aload_n 0, 1) := by decide +kernel
theorem dX7_makeBase_16 : decode cX7_makeBase 16 = .ok (.iload_n 2, 1) := by decide +kernel
theorem dX7_makeBase_17 : decode cX7_makeBase 17 = .ok (.invokevirtual 209, 3) := by decide +kernel
theorem dX7_makeBase_20 : decode cX7_makeBase 20 = .ok (.ifCond .eq 7, 3) := by decide +kernel
theorem dX7_makeBase_23 : decode cX7_makeBase 23 = .ok (.iconst 1, 1) := by decide +kernel
theorem dX7_makeBase_24 : decode cX7_makeBase 24 = .ok (.goto 4, 3) := by decide +kernel
theorem dX7_makeBase_27 : decode cX7_makeBase 27 = .ok (.iconst 0, 1) := by decide +kernel
theorem dX7_makeBase_28 : decode cX7_makeBase 28 = .ok (.istore_n 3, 1) := by decide +kernel
theorem dX7_makeBase_29 : decode cX7_makeBase 29 = .ok (.aload_n 0, 1) := by decide +kernel
theorem dX7_makeBase_30 : decode cX7_makeBase 30 = .ok (.iconst 0, 1) := by decide +kernel
theorem dX7_makeBase_31 : decode cX7_makeBase 31 = .ok (.putfield 136, 3) := by decide +kernel
theorem dX7_makeBase_34 : decode cX7_makeBase 34 = .ok (.aload_n 0, 1) := by decide +kernel
theorem dX7_makeBase_35 : decode cX7_makeBase 35 = .ok (.getfield 116, 3) := by decide +kernel
theorem dX7_makeBase_38 : decode cX7_makeBase 38 = .ok (.iconst 1, 1) := by decide +kernel
theorem dX7_makeBase_39 : decode cX7_makeBase 39 = .ok (.if_icmp .ne 11, 3) := by decide +kernel
theorem dX7_makeBase_42 : decode cX7_makeBase 42 = .ok (.aload_n 0, 1) := by decide +kernel
theorem dX7_makeBase_43 : decode cX7_makeBase 43 = .ok (.iload_n 2, 1) := by decide +kernel
theorem dX7_makeBase_44 : decode cX7_makeBase 44 = .ok (.invokevirtual 212, 3) := by decide +kernel
theorem dX7_makeBase_47 : decode cX7_makeBase 47 = .ok (.goto 17, 3) := by decide +kernel
theorem dX7_makeBase_50 : decode cX7_makeBase 50 = .ok (.aload_n 0, 1) := by decide +kernel
theorem dX7_makeBase_51 : decode cX7_makeBase 51 = .ok (.getfield 116, 3) := by decide +kernel
theorem dX7_makeBase_54 : decode cX7_makeBase 54 = .ok (.iconst 2, 1) := by decide +kernel
theorem dX7_makeBase_55 : decode cX7_makeBase 55 = .ok (.if_icmp .ne 9, 3) := by decide +kernel
theorem dX7_makeBase_58 : decode cX7_makeBase 58 = .ok (.aload_n 0, 1) := by decide +kernel
theorem dX7_makeBase_59 : decode cX7_makeBase 59 = .ok (.iload_n 2, 1) := by decide +kernel
theorem dX7_makeBase_60 : decode cX7_makeBase 60 = .ok (.iload_n 3, 1) := by decide +kernel
theorem dX7_makeBase_61 : decode cX7_makeBase 61 = .ok (.invokevirtual 215, 3) := by decide +kernel
theorem dX7_makeBase_64 : decode cX7_makeBase 64 = .ok (.aload_n 0, 1) := by decide +kernel
theorem dX7_makeBase_65 : decode cX7_makeBase 65 = .ok (.getfield 64, 3) := by decide +kernel
theorem dX7_makeBase_68 : decode cX7_makeBase 68 = .ok (.iload_n 1, 1) := by decide +kernel
theorem dX7_makeBase_69 : decode cX7_makeBase 69 = .ok (.aload_n 0, 1) := by decide +kernel
theorem dX7_makeBase_70 : decode cX7_makeBase 70 = .ok (.getfield 136, 3) := by decide +kernel
theorem dX7_makeBase_73 : decode cX7_makeBase 73 = .ok (.iastore, 1) := by decide +kernel
theorem dX7_makeBase_74 : decode cX7_makeBase 74 = .ok (.iconst 0, 1) := by decide +kernel
