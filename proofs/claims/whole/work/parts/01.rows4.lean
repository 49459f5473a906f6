theorem dX9_pack_43 : decode cX9_pack 43 = .ok (.aload_n 0, 1) := by decide +kernel
theorem dX9_pack_44 : decode cX9_pack 44 = .ok (.getfield 58, 3) := by decide +kernel
theorem dX9_pack_47 : decode cX9_pack 47 = .ok (.iconst 0, 1) := by decide +kernel
theorem dX9_pack_48 : decode cX9_pack 48 = .ok (.aload_n 0, 1) := by decide +kernel
theorem dX9_pack_49 : decode cX9_pack 49 = .ok (.iload_n 1, 1) := by decide +kernel
theorem dX9_pack_50 : decode cX9_pack 50 = .ok (.iload_n 2, 1) := by decide +kernel
theorem dX9_pack_51 : decode cX9_pack 51 = .ok (.invokevirtual 156, 3) := by decide +kernel
theorem dX9_pack_54 : decode cX9_pack 54 = .ok (.iastore, 1) := by decide +kernel
theorem dX9_pack_55 : decode cX9_pack 55 = .ok (.aload_n 0, 1) := by decide +kernel
theorem dX9_pack_56 : decode cX9_pack 56 = .ok (.getfield 58, 3) := by decide +kernel
theorem dX9_pack_59 : decode cX9_pack 59 = .ok (.iconst 1, 1) := by decide +kernel
theorem dX9_pack_60 : decode cX9_pack 60 = .ok (.aload_n 0, 1) := by decide +kernel
theorem dX9_pack_61 : decode cX9_pack 61 = .ok (.getfield 58, 3) := by decide +kernel
theorem dX9_pack_64 : decode cX9_pack 64 = .ok (.iconst 0, 1) := by decide +kernel
theorem dX9_pack_65 : decode cX9_pack 65 = .ok (.iaload, 1) := by decide +kernel
theorem dX9_pack_66 : decode cX9_pack 66 = .ok (.iastore, 1) := by decide +kernel
theorem dX9_pack_67 : decode cX9_pack 67 = .ok (.aload_n 0, 1) := by decide +kernel
theorem dX9_pack_68 : decode cX9_pack 68 = .ok (.aload_n 0, 1) := by decide +kernel
theorem dX9_pack_69 : decode cX9_pack 69 = .ok (.getfield 58, 3) := by decide +kernel
theorem dX9_pack_72 : decode cX9_pack 72 = .ok (.iconst 0, 1) := by decide +kernel
theorem dX9_pack_73 : decode cX9_pack 73 = .ok (.iaload, 1) := by decide +kernel
theorem dX9_pack_74 : decode cX9_pack 74 = .ok (.invokevirtual 160, 3) := by decide +kernel
theorem dX9_pack_77 : decode cX9_pack 77 = .ok (.aload_n 0, 1) := by decide +kernel
theorem dX9_pack_78 : decode cX9_pack 78 = .ok (.getfield 55, 3) := by decide +kernel
theorem dX9_pack_81 : decode cX9_pack 81 = .ok (.arraylength, 1) := by decide +kernel
theorem dX9_pack_82 : decode cX9_pack 82 = .ok (.istore 5, 2) := by decide +kernel
theorem dX9_pack_84 : decode cX9_pack 84 = .ok (.aload_n 0, 1) := by decide +kernel
theorem dX9_pack_85 : decode cX9_pack 85 = .ok (.getfield 70, 3) := by decide +kernel
theorem dX9_pack_88 : decode cX9_pack 88 = .ok (.iconst 1, 1) := by decide +kernel
theorem dX9_pack_89 : decode cX9_pack 89 = .ok (.isub, 1) := by decide +kernel
theorem dX9_pack_90 : decode cX9_pack 90 = .ok (.istore 6, 2) := by decide +kernel
theorem dX9_pack_92 : decode cX9_pack 92 = .ok (.iload 6, 2) := by decide +kernel
theorem dX9_pack_94 : decode cX9_pack 94 = .ok (.ifCond .lt 153, 3) := by decide +kernel
theorem dX9_pack_97 : decode cX9_pack 97 = .ok (.iload_n 2, 1) := by decide +kernel
theorem dX9_pack_98 : decode cX9_pack 98 = .ok (.iconst 2, 1) := by decide +kernel
theorem dX9_pack_99 : decode cX9_pack 99 = .ok (.if_icmp .ne 10, 3) := by decide +kernel
theorem dX9_pack_102 : decode cX9_pack 102 = .ok (.iload 6, 2) := by decide +kernel
theorem dX9_pack_104 : decode cX9_pack 104 = .ok (.iconst 2, 1) := by decide +kernel
theorem dX9_pack_105 : decode cX9_pack 105 = .ok (.irem, 1) := by decide +kernel
theorem dX9_pack_106 : decode cX9_pack 106 = .ok (.goto 4, 3) := by decide +kernel
theorem dX9_pack_109 : decode cX9_pack 109 = .ok (.iconst 0, 1) := by decide +kernel
theorem dX9_pack_110 : decode cX9_pack 110 = .ok (.istore 7, 2) := by decide +kernel
theorem dX9_pack_112 : decode cX9_pack 112 = .ok (.aload_n 0, 1) := by decide +kernel
theorem dX9_pack_113 : decode cX9_pack 113 = .ok (.iload_n 1, 1) := by decide +kernel
theorem dX9_pack_114 : decode cX9_pack 114 = .ok (.iload_n 2, 1) := by decide +kernel
theorem dX9_pack_115 : decode cX9_pack 115 = .ok (.iload_n 3, 1) := by decide +kernel
theorem dX9_pack_116 : decode cX9_pack 116 = .ok (.aload_n 0, 1) := by decide +kernel
theorem dX9_pack_117 : decode cX9_pack 117 = .ok (.getfield 58, 3) := by decide +kernel
theorem dX9_pack_120 : decode cX9_pack 120 = .ok (.iload 7, 2) := by decide +kernel
theorem dX9_pack_122 : decode cX9_pack 122 = .ok (.iaload, 1) := by decide +kernel
theorem dX9_pack_123 : decode cX9_pack 123 = .ok (.aload_n 0, 1) := by decide +kernel
theorem dX9_pack_124 : decode cX9_pack 124 = .ok (.getfield 7, 3) := by decide +kernel
theorem dX9_pack_127 : decode cX9_pack 127 = .ok (.iload 6, 2) := by decide +kernel
theorem dX9_pack_129 : decode cX9_pack 129 = .ok (.iaload, 1) := by decide +kernel
theorem dX9_pack_130 : decode cX9_pack 130 = .ok (.invokevirtual 130, 3) := by decide +kernel
theorem dX9_pack_133 : decode cX9_pack 133 = .ok (.iload_n 2, 1) := by decide +kernel
theorem dX9_pack_134 : decode cX9_pack 134 = .ok (.ifCond .ne 7, 3) := by decide +kernel
theorem dX9_pack_137 : decode cX9_pack 137 = .ok (.iconst 1, 1) := by decide +kernel
theorem dX9_pack_138 : decode cX9_pack 138 = .ok (.goto 5, 3) := by decide +kernel
theorem dX9_pack_141 : decode cX9_pack 141 = .ok (.bipush 8, 2) := by decide +kernel
theorem dX9_pack_143 : decode cX9_pack 143 = .ok (.istore 8, 2) := by decide +kernel
theorem dX9_pack_145 : decode cX9_pack 145 = .ok (.iconst 0, 1) := by decide +kernel
theorem dX9_pack_146 : decode cX9_pack 146 = .ok (.istore 9, 2) := by decide +kernel
theorem dX9_pack_148 : decode cX9_pack 148 = .ok (.iload 9, 2) := by decide +kernel
theorem dX9_pack_150 : decode cX9_pack 150 = .ok (.aload_n 0, 1) := by decide +kernel
theorem dX9_pack_151 : decode cX9_pack 151 = .ok (.getfield 109, 3) := by decide +kernel
theorem dX9_pack_154 : decode cX9_pack 154 = .ok (.if_icmp .ge 36, 3) := by decide +kernel
theorem dX9_pack_157 : decode cX9_pack 157 = .ok (.iinc 5 (-1), 3) := by decide +kernel
theorem dX9_pack_160 : decode cX9_pack 160 = .ok (.aload_n 0, 1) := by decide +kernel
theorem dX9_pack_161 : decode cX9_pack 161 = .ok (.getfield 55, 3) := by decide +kernel
theorem dX9_pack_164 : decode cX9_pack 164 = .ok (.iload 5, 2) := by decide +kernel
theorem dX9_pack_166 : decode cX9_pack 166 = .ok (.aload_n 0, 1) := by decide +kernel
theorem dX9_pack_167 : decode cX9_pack 167 = .ok (.getfield 112, 3) := by decide +kernel
theorem dX9_pack_170 : decode cX9_pack 170 = .ok (.iload 8, 2) := by decide +kernel
theorem dX9_pack_172 : decode cX9_pack 172 = .ok (.iload 9, 2) := by decide +kernel
theorem dX9_pack_174 : decode cX9_pack 174 = .ok (.imul, 1) := by decide +kernel
theorem dX9_pack_175 : decode cX9_pack 175 = .ok (.ishr, 1) := by decide +kernel
theorem dX9_pack_176 : decode cX9_pack 176 = .ok (.iconst 1, 1) := by decide +kernel
theorem dX9_pack_177 : decode cX9_pack 177 = .ok (.iload 8, 2) := by decide +kernel
theorem dX9_pack_179 : decode cX9_pack 179 = .ok (.ishl, 1) := by decide +kernel
theorem dX9_pack_180 : decode cX9_pack 180 = .ok (.iconst 1, 1) := by decide +kernel
theorem dX9_pack_181 : decode cX9_pack 181 = .ok (.isub, 1) := by decide +kernel
theorem dX9_pack_182 : decode cX9_pack 182 = .ok (.iand, 1) := by decide +kernel
theorem dX9_pack_183 : decode cX9_pack 183 = .ok (.iastore, 1) := by decide +kernel
theorem dX9_pack_184 : decode cX9_pack 184 = .ok (.iinc 9 1, 3) := by decide +kernel
theorem dX9_pack_187 : decode cX9_pack 187 = .ok (.goto (-39), 3) := by decide +kernel
theorem dX9_pack_190 : decode cX9_pack 190 = .ok (.aload_n 0, 1) := by decide +kernel
theorem dX9_pack_191 : decode cX9_pack 191 = .ok (.aload_n 0, 1) := by decide +kernel
theorem dX9_pack_192 : decode cX9_pack 192 = .ok (.getfield 115, 3) := by decide +kernel
theorem dX9_pack_195 : decode cX9_pack 195 = .ok (.invokevirtual 160, 3) := by decide +kernel
theorem dX9_pack_198 : decode cX9_pack 198 = .ok (.aload_n 0, 1) := by decide +kernel
theorem dX9_pack_199 : decode cX9_pack 199 = .ok (.getfield 58, 3) := by decide +kernel
theorem dX9_pack_202 : decode cX9_pack 202 = .ok (.iload 7, 2) := by decide +kernel
theorem dX9_pack_204 : decode cX9_pack 204 = .ok (.aload_n 0, 1) := by decide +kernel
theorem dX9_pack_205 : decode cX9_pack 205 = .ok (.getfield 115, 3) := by decide +kernel
theorem dX9_pack_208 : decode cX9_pack 208 = .ok (.iastore, 1) := by decide +kernel
theorem dX9_pack_209 : decode cX9_pack 209 = .ok (.aload_n 0, 1) := by decide +kernel
theorem dX9_pack_210 : decode cX9_pack 210 = .ok (.getfield 61, 3) := by decide +kernel
theorem dX9_pack_213 : decode cX9_pack 213 = .ok (.iconst 5, 1) := by decide +kernel
theorem dX9_pack_214 : decode cX9_pack 214 = .ok (.aload_n 0, 1) := by decide +kernel
theorem dX9_pack_215 : decode cX9_pack 215 = .ok (.getfield 109, 3) := by decide +kernel
theorem dX9_pack_218 : decode cX9_pack 218 = .ok (.aload_n 0, 1) := by decide +kernel
theorem dX9_pack_219 : decode cX9_pack 219 = .ok (.getfield 61, 3) := by decide +kernel
theorem dX9_pack_222 : decode cX9_pack 222 = .ok (.iconst 5, 1) := by decide +kernel
theorem dX9_pack_223 : decode cX9_pack 223 = .ok (.iaload, 1) := by decide +kernel
theorem dX9_pack_224 : decode cX9_pack 224 = .ok (.if_icmp .le 10, 3) := by decide +kernel
theorem dX9_pack_227 : decode cX9_pack 227 = .ok (.aload_n 0, 1) := by decide +kernel
theorem dX9_pack_228 : decode cX9_pack 228 = .ok (.getfield 109, 3) := by decide +kernel
theorem dX9_pack_231 : decode cX9_pack 231 = .ok (.goto 9, 3) := by decide +kernel
theorem dX9_pack_234 : decode cX9_pack 234 = .ok (.aload_n 0, 1) := by decide +kernel
theorem dX9_pack_235 : decode cX9_pack 235 = .ok (.getfield 61, 3) := by decide +kernel
theorem dX9_pack_238 : decode cX9_pack 238 = .ok (.iconst 5, 1) := by decide +kernel
theorem dX9_pack_239 : decode cX9_pack 239 = .ok (.iaload, 1) := by decide +kernel
theorem dX9_pack_240 : decode cX9_pack 240 = .ok (.iastore, 1) := by decide +kernel
theorem dX9_pack_241 : decode cX9_pack 241 = .ok (.iinc 6 (-1), 3) := by decide +kernel
theorem dX9_pack_244 : decode cX9_pack 244 = .ok (.goto (-152), 3) := by decide +kernel
theorem dX9_pack_247 : decode cX9_pack 247 = .ok (.aload_n 0, 1) := by decide +kernel
theorem dX9_pack_248 : decode cX9_pack 248 = .ok (.getfield 61, 3) := by decide +kernel
theorem dX9_pack_251 : decode cX9_pack 251 = .ok (.iconst 2, 1) := by decide +kernel
theorem dX9_pack_252 : decode cX9_pack 252 = .ok (.aload_n 0, 1) := by decide +kernel
theorem dX9_pack_253 : decode cX9_pack 253 = .ok (.getfield 70, 3) := by decide +kernel
theorem dX9_pack_256 : decode cX9_pack 256 = .ok (.iastore, 1) := by decide +kernel
theorem dX9_pack_257 : decode cX9_pack 257 = .ok (.aload_n 0, 1) := by decide +kernel
theorem dX9_pack_258 : decode cX9_pack 258 = .ok (.getfield 61, 3) := by decide +kernel
theorem dX9_pack_261 : decode cX9_pack 261 = .ok (.iconst 3, 1) := by decide +kernel
theorem dX9_pack_262 : decode cX9_pack 262 = .ok (.aload_n 0, 1) := by decide +kernel
theorem dX9_pack_263 : decode cX9_pack 263 = .ok (.getfield 55, 3) := by decide +kernel
theorem dX9_pack_266 : decode cX9_pack 266 = .ok (.arraylength, 1) := by decide +kernel
theorem dX9_pack_267 : decode cX9_pack 267 = .ok (.iload 5, 2) := by decide +kernel
theorem dX9_pack_269 : decode cX9_pack 269 = .ok (.isub, 1) := by decide +kernel
theorem dX9_pack_270 : decode cX9_pack 270 = .ok (.iastore, 1) := by decide +kernel
theorem dX9_pack_271 : decode cX9_pack 271 = .ok (.aload_n 0, 1) := by decide +kernel
theorem dX9_pack_272 : decode cX9_pack 272 = .ok (.getfield 61, 3) := by decide +kernel
theorem dX9_pack_275 : decode cX9_pack 275 = .ok (.iconst 4, 1) := by decide +kernel
theorem dX9_pack_276 : decode cX9_pack 276 = .ok (.iload_n 2, 1) := by decide +kernel
theorem dX9_pack_277 : decode cX9_pack 277 = .ok (.ifCond .ne 18, 3) := by decide +kernel
theorem dX9_pack_280 : decode cX9_pack 280 = .ok (.aload_n 0, 1) := by decide +kernel
theorem dX9_pack_281 : decode cX9_pack 281 = .ok (.getfield 61, 3) := by decide +kernel
theorem dX9_pack_284 : decode cX9_pack 284 = .ok (.iconst 3, 1) := by decide +kernel
theorem dX9_pack_285 : decode cX9_pack 285 = .ok (.iaload, 1) := by decide +kernel
theorem dX9_pack_286 : decode cX9_pack 286 = .ok (.bipush 7, 2) := by decide +kernel
theorem dX9_pack_288 : decode cX9_pack 288 = .ok (.iadd, 1) := by decide +kernel
theorem dX9_pack_289 : decode cX9_pack 289 = .ok (.bipush 8, 2) := by decide +kernel
theorem dX9_pack_291 : decode cX9_pack 291 = .ok (.idiv, 1) := by decide +kernel
theorem dX9_pack_292 : decode cX9_pack 292 = .ok (.goto 9, 3) := by decide +kernel
theorem dX9_pack_295 : decode cX9_pack 295 = .ok (.aload_n 0, 1) := by decide +kernel
theorem dX9_pack_296 : decode cX9_pack 296 = .ok (.getfield 61, 3) := by decide +kernel
theorem dX9_pack_299 : decode cX9_pack 299 = .ok (.iconst 3, 1) := by decide +kernel
theorem dX9_pack_300 : decode cX9_pack 300 = .ok (.iaload, 1) := by decide +kernel
theorem dX9_pack_301 : decode cX9_pack 301 = .ok (.iastore, 1) := by decide +kernel
theorem dX9_pack_302 : decode cX9_pack 302 = .ok (.iconst 0, 1) := by decide +kernel
theorem dX9_pack_303 : decode cX9_pack 303 = .ok (.istore 6, 2) := by decide +kernel
theorem dX9_pack_305 : decode cX9_pack 305 = .ok (.iconst 0, 1) := by decide +kernel
theorem dX9_pack_306 : decode cX9_pack 306 = .ok (.istore 7, 2) := by decide +kernel
theorem dX9_pack_308 : decode cX9_pack 308 = .ok (.iload 7, 2) := by decide +kernel
theorem dX9_pack_310 : decode cX9_pack 310 = .ok (.sipush 256, 3) := by decide +kernel
theorem dX9_pack_313 : decode cX9_pack 313 = .ok (.if_icmp .ge 35, 3) := by decide +kernel
theorem dX9_pack_316 : decode cX9_pack 316 = .ok (.iload 6, 2) := by decide +kernel
theorem dX9_pack_318 : decode cX9_pack 318 = .ok (.aload_n 0, 1) := by decide +kernel
theorem dX9_pack_319 : decode cX9_pack 319 = .ok (.getfield 19, 3) := by decide +kernel
theorem dX9_pack_322 : decode cX9_pack 322 = .ok (.sipush 256, 3) := by decide +kernel
theorem dX9_pack_325 : decode cX9_pack 325 = .ok (.iload_n 1, 1) := by decide +kernel
theorem dX9_pack_326 : decode cX9_pack 326 = .ok (.imul, 1) := by decide +kernel
theorem dX9_pack_327 : decode cX9_pack 327 = .ok (.iload 7, 2) := by decide +kernel
theorem dX9_pack_329 : decode cX9_pack 329 = .ok (.iadd, 1) := by decide +kernel
theorem dX9_pack_330 : decode cX9_pack 330 = .ok (.iaload, 1) := by decide +kernel
theorem dX9_pack_331 : decode cX9_pack 331 = .ok (.ifCond .le 7, 3) := by decide +kernel
theorem dX9_pack_334 : decode cX9_pack 334 = .ok (.iconst 1, 1) := by decide +kernel
theorem dX9_pack_335 : decode cX9_pack 335 = .ok (.goto 4, 3) := by decide +kernel
theorem dX9_pack_338 : decode cX9_pack 338 = .ok (.iconst 0, 1) := by decide +kernel
theorem dX9_pack_339 : decode cX9_pack 339 = .ok (.iadd, 1) := by decide +kernel
theorem dX9_pack_340 : decode cX9_pack 340 = .ok (.istore 6, 2) := by decide +kernel
theorem dX9_pack_342 : decode cX9_pack 342 = .ok (.iinc 7 1, 3) := by decide +kernel
theorem dX9_pack_345 : decode cX9_pack 345 = .ok (.goto (-37), 3) := by decide +kernel
theorem dX9_pack_348 : decode cX9_pack 348 = .ok (.bipush 8, 2) := by decide +kernel
theorem dX9_pack_350 : decode cX9_pack 350 = .ok (.iconst 3, 1) := by decide +kernel
theorem dX9_pack_351 : decode cX9_pack 351 = .ok (.iload 6, 2) := by decide +kernel
theorem dX9_pack_353 : decode cX9_pack 353 = .ok (.imul, 1) := by decide +kernel
theorem dX9_pack_354 : decode cX9_pack 354 = .ok (.iadd, 1) := by decide +kernel
theorem dX9_pack_355 : decode cX9_pack 355 = .ok (.iload_n 2, 1) := by decide +kernel
theorem dX9_pack_356 : decode cX9_pack 356 = .ok (.ifCond .ne 7, 3) := by decide +kernel
theorem dX9_pack_359 : decode cX9_pack 359 = .ok (.iconst 2, 1) := by decide +kernel
theorem dX9_pack_360 : decode cX9_pack 360 = .ok (.goto 14, 3) := by decide +kernel
theorem dX9_pack_363 : decode cX9_pack 363 = .ok (.iload_n 2, 1) := by decide +kernel
theorem dX9_pack_364 : decode cX9_pack 364 = .ok (.iconst 1, 1) := by decide +kernel
theorem dX9_pack_365 : decode cX9_pack 365 = .ok (.if_icmp .ne 7, 3) := by decide +kernel
theorem dX9_pack_368 : decode cX9_pack 368 = .ok (.iconst 4, 1) := by decide +kernel
theorem dX9_pack_369 : decode cX9_pack 369 = .ok (.goto 5, 3) := by decide +kernel
theorem dX9_pack_372 : decode cX9_pack 372 = .ok (.bipush 8, 2) := by decide +kernel
theorem dX9_pack_374 : decode cX9_pack 374 = .ok (.iadd, 1) := by decide +kernel
theorem dX9_pack_375 : decode cX9_pack 375 = .ok (.aload_n 0, 1) := by decide +kernel
theorem dX9_pack_376 : decode cX9_pack 376 = .ok (.getfield 61, 3) := by decide +kernel
theorem dX9_pack_379 : decode cX9_pack 379 = .ok (.iconst 4, 1) := by decide +kernel
theorem dX9_pack_380 : decode cX9_pack 380 = .ok (.iaload, 1) := by decide +kernel
theorem dX9_pack_381 : decode cX9_pack 381 = .ok (.iadd, 1) := by decide +kernel
theorem dX9_pack_382 : decode cX9_pack 382 = .ok (.istore 7, 2) := by decide +kernel
theorem dX9_pack_384 : decode cX9_pack 384 = .ok (.iload 7, 2) := by decide +kernel
theorem dX9_pack_386 : decode cX9_pack 386 = .ok (.sipush 4000, 3) := by decide +kernel
theorem dX9_pack_389 : decode cX9_pack 389 = .ok (.if_icmp .le 6, 3) := by decide +kernel
theorem dX9_pack_392 : decode cX9_pack 392 = .ok (.bipush (-4), 2) := by decide +kernel
theorem dX9_pack_394 : decode cX9_pack 394 = .ok (.ireturn, 1) := by decide +kernel
theorem dX9_pack_395 : decode cX9_pack 395 = .ok (.aload_n 0, 1) := by decide +kernel
theorem dX9_pack_396 : decode cX9_pack 396 = .ok (.iconst 0, 1) := by decide +kernel
theorem dX9_pack_397 : decode cX9_pack 397 = .ok (.putfield 73, 3) := by decide +kernel
theorem dX9_pack_400 : decode cX9_pack 400 = .ok (.aload_n 0, 1) := by decide +kernel
theorem dX9_pack_401 : decode cX9_pack 401 = .ok (.bipush 83, 2) := by decide +kernel
theorem dX9_pack_403 : decode cX9_pack 403 = .ok (.iconst 1, 1) := by decide +kernel
theorem dX9_pack_404 : decode cX9_pack 404 = .ok (.invokevirtual 163, 3) := by decide +kernel
theorem dX9_pack_407 : decode cX9_pack 407 = .ok (.aload_n 0, 1) := by decide +kernel
theorem dX9_pack_408 : decode cX9_pack 408 = .ok (.iconst 4, 1) := by decide +kernel
theorem dX9_pack_409 : decode cX9_pack 409 = .ok (.iload_n 2, 1) := by decide +kernel
theorem dX9_pack_410 : decode cX9_pack 410 = .ok (.imul, 1) := by decide +kernel
theorem dX9_pack_411 : decode cX9_pack 411 = .ok (.iload_n 3, 1) := by decide +kernel
theorem dX9_pack_412 : decode cX9_pack 412 = .ok (.iadd, 1) := by decide +kernel
theorem dX9_pack_413 : decode cX9_pack 413 = .ok (.iconst 1, 1) := by decide +kernel
theorem dX9_pack_414 : decode cX9_pack 414 = .ok (.invokevirtual 163, 3) := by decide +kernel
theorem dX9_pack_417 : decode cX9_pack 417 = .ok (.aload_n 0, 1) := by decide +kernel
theorem dX9_pack_418 : decode cX9_pack 418 = .ok (.aload_n 0, 1) := by decide +kernel
theorem dX9_pack_419 : decode cX9_pack 419 = .ok (.getfield 16, 3) := by decide +kernel
theorem dX9_pack_422 : decode cX9_pack 422 = .ok (.iload_n 1, 1) := by decide +kernel
theorem dX9_pack_423 : decode cX9_pack 423 = .ok (.iaload, 1) := by decide +kernel
theorem dX9_pack_424 : decode cX9_pack 424 = .ok (.iconst 1, 1) := by decide +kernel
theorem dX9_pack_425 : decode cX9_pack 425 = .ok (.invokevirtual 163, 3) := by decide +kernel
theorem dX9_pack_428 : decode cX9_pack 428 = .ok (.aload_n 0, 1) := by decide +kernel
theorem dX9_pack_429 : decode cX9_pack 429 = .ok (.iload 6, 2) := by decide +kernel
theorem dX9_pack_431 : decode cX9_pack 431 = .ok (.iconst 1, 1) := by decide +kernel
theorem dX9_pack_432 : decode cX9_pack 432 = .ok (.isub, 1) := by decide +kernel
theorem dX9_pack_433 : decode cX9_pack 433 = .ok (.iconst 1, 1) := by decide +kernel
theorem dX9_pack_434 : decode cX9_pack 434 = .ok (.invokevirtual 163, 3) := by decide +kernel
theorem dX9_pack_437 : decode cX9_pack 437 = .ok (.iconst 0, 1) := by decide +kernel
theorem dX9_pack_438 : decode cX9_pack 438 = .ok (.istore 8, 2) := by decide +kernel
theorem dX9_pack_440 : decode cX9_pack 440 = .ok (.iload 8, 2) := by decide +kernel
theorem dX9_pack_442 : decode cX9_pack 442 = .ok (.sipush 256, 3) := by decide +kernel
theorem dX9_pack_445 : decode cX9_pack 445 = .ok (.if_icmp .ge 53, 3) := by decide +kernel
theorem dX9_pack_448 : decode cX9_pack 448 = .ok (.aload_n 0, 1) := by decide +kernel
theorem dX9_pack_449 : decode cX9_pack 449 = .ok (.getfield 19, 3) := by decide +kernel
theorem dX9_pack_452 : decode cX9_pack 452 = .ok (.sipush 256, 3) := by decide +kernel
theorem dX9_pack_455 : decode cX9_pack 455 = .ok (.iload_n 1, 1) := by decide +kernel
theorem dX9_pack_456 : decode cX9_pack 456 = .ok (.imul, 1) := by decide +kernel
theorem dX9_pack_457 : decode cX9_pack 457 = .ok (.iload 8, 2) := by decide +kernel
theorem dX9_pack_459 : decode cX9_pack 459 = .ok (.iadd, 1) := by decide +kernel
theorem dX9_pack_460 : decode cX9_pack 460 = .ok (.iaload, 1) := by decide +kernel
theorem dX9_pack_461 : decode cX9_pack 461 = .ok (.ifCond .ne 6, 3) := by decide +kernel
theorem dX9_pack_464 : decode cX9_pack 464 = .ok (.goto 28, 3) := by decide +kernel
theorem dX9_pack_467 : decode cX9_pack 467 = .ok (.aload_n 0, 1) := by decide +kernel
theorem dX9_pack_468 : decode cX9_pack 468 = .ok (.iload 8, 2) := by decide +kernel
theorem dX9_pack_470 : decode cX9_pack 470 = .ok (.iconst 1, 1) := by decide +kernel
theorem dX9_pack_471 : decode cX9_pack 471 = .ok (.invokevirtual 163, 3) := by decide +kernel
theorem dX9_pack_474 : decode cX9_pack 474 = .ok (.aload_n 0, 1) := by decide +kernel
theorem dX9_pack_475 : decode cX9_pack 475 = .ok (.aload_n 0, 1) := by decide +kernel
theorem dX9_pack_476 : decode cX9_pack 476 = .ok (.getfield 19, 3) := by decide +kernel
theorem dX9_pack_479 : decode cX9_pack 479 = .ok (.sipush 256, 3) := by decide +kernel
theorem dX9_pack_482 : decode cX9_pack 482 = .ok (.iload_n 1, 1) := by decide +kernel
theorem dX9_pack_483 : decode cX9_pack 483 = .ok (.imul, 1) := by decide +kernel
theorem dX9_pack_484 : decode cX9_pack 484 = .ok (.iload 8, 2) := by decide +kernel
theorem dX9_pack_486 : decode cX9_pack 486 = .ok (.iadd, 1) := by decide +kernel
theorem dX9_pack_487 : decode cX9_pack 487 = .ok (.iaload, 1) := by decide +kernel
theorem dX9_pack_488 : decode cX9_pack 488 = .ok (.iconst 2, 1) := by decide +kernel
theorem dX9_pack_489 : decode cX9_pack 489 = .ok (.invokevirtual 163, 3) := by decide +kernel
theorem dX9_pack_492 : decode cX9_pack 492 = .ok (.iinc 8 1, 3) := by decide +kernel
theorem dX9_pack_495 : decode cX9_pack 495 = .ok (.goto (-55), 3) := by decide +kernel
theorem dX9_pack_498 : decode cX9_pack 498 = .ok (.aload_n 0, 1) := by decide +kernel
theorem dX9_pack_499 : decode cX9_pack 499 = .ok (.aload_n 0, 1) := by decide +kernel
theorem dX9_pack_500 : decode cX9_pack 500 = .ok (.getfield 70, 3) := by decide +kernel
theorem dX9_pack_503 : decode cX9_pack 503 = .ok (.iconst 2, 1) := by decide +kernel
theorem dX9_pack_504 : decode cX9_pack 504 = .ok (.invokevirtual 163, 3) := by decide +kernel
theorem dX9_pack_507 : decode cX9_pack 507 = .ok (.aload_n 0, 1) := by decide +kernel
theorem dX9_pack_508 : decode cX9_pack 508 = .ok (.aload_n 0, 1) := by decide +kernel
theorem dX9_pack_509 : decode cX9_pack 509 = .ok (.getfield 61, 3) := by decide +kernel
theorem dX9_pack_512 : decode cX9_pack 512 = .ok (.iconst 4, 1) := by decide +kernel
theorem dX9_pack_513 : decode cX9_pack 513 = .ok (.iaload, 1) := by decide +kernel
theorem dX9_pack_514 : decode cX9_pack 514 = .ok (.iconst 2, 1) := by decide +kernel
theorem dX9_pack_515 : decode cX9_pack 515 = .ok (.invokevirtual 163, 3) := by decide +kernel
theorem dX9_pack_518 : decode cX9_pack 518 = .ok (.iload_n 2, 1) := by decide +kernel
theorem dX9_pack_519 : decode cX9_pack 519 = .ok (.ifCond .ne 26, 3) := by decide +kernel
theorem dX9_pack_522 : decode cX9_pack 522 = .ok (.aload_n 0, 1) := by decide +kernel
theorem dX9_pack_523 : decode cX9_pack 523 = .ok (.aload_n 0, 1) := by decide +kernel
theorem dX9_pack_524 : decode cX9_pack 524 = .ok (.getfield 58, 3) := by decide +kernel
theorem dX9_pack_527 : decode cX9_pack 527 = .ok (.iconst 0, 1) := by decide +kernel
theorem dX9_pack_528 : decode cX9_pack 528 = .ok (.iaload, 1) := by decide +kernel
theorem dX9_pack_529 : decode cX9_pack 529 = .ok (.iconst 1, 1) := by decide +kernel
theorem dX9_pack_530 : decode cX9_pack 530 = .ok (.aload_n 0, 1) := by decide +kernel
theorem dX9_pack_531 : decode cX9_pack 531 = .ok (.getfield 16, 3) := by decide +kernel
theorem dX9_pack_534 : decode cX9_pack 534 = .ok (.iload_n 1, 1) := by decide +kernel
theorem dX9_pack_535 : decode cX9_pack 535 = .ok (.iaload, 1) := by decide +kernel
theorem dX9_pack_536 : decode cX9_pack 536 = .ok (.ishl, 1) := by decide +kernel
theorem dX9_pack_537 : decode cX9_pack 537 = .ok (.isub, 1) := by decide +kernel
theorem dX9_pack_538 : decode cX9_pack 538 = .ok (.iconst 2, 1) := by decide +kernel
theorem dX9_pack_539 : decode cX9_pack 539 = .ok (.invokevirtual 163, 3) := by decide +kernel
theorem dX9_pack_542 : decode cX9_pack 542 = .ok (.goto 14, 3) := by decide +kernel
theorem dX9_pack_545 : decode cX9_pack 545 = .ok (.aload_n 0, 1) := by decide +kernel
theorem dX9_pack_546 : decode cX9_pack 546 = .ok (.aload_n 0, 1) := by decide +kernel
theorem dX9_pack_547 : decode cX9_pack 547 = .ok (.getfield 58, 3) := by decide +kernel
theorem dX9_pack_550 : decode cX9_pack 550 = .ok (.iconst 0, 1) := by decide +kernel
theorem dX9_pack_551 : decode cX9_pack 551 = .ok (.iaload, 1) := by decide +kernel
theorem dX9_pack_552 : decode cX9_pack 552 = .ok (.iconst 4, 1) := by decide +kernel
theorem dX9_pack_553 : decode cX9_pack 553 = .ok (.invokevirtual 163, 3) := by decide +kernel
theorem dX9_pack_556 : decode cX9_pack 556 = .ok (.iload_n 2, 1) := by decide +kernel
theorem dX9_pack_557 : decode cX9_pack 557 = .ok (.iconst 2, 1) := by decide +kernel
theorem dX9_pack_558 : decode cX9_pack 558 = .ok (.if_icmp .ne 14, 3) := by decide +kernel
theorem dX9_pack_561 : decode cX9_pack 561 = .ok (.aload_n 0, 1) := by decide +kernel
theorem dX9_pack_562 : decode cX9_pack 562 = .ok (.aload_n 0, 1) := by decide +kernel
theorem dX9_pack_563 : decode cX9_pack 563 = .ok (.getfield 58, 3) := by decide +kernel
theorem dX9_pack_566 : decode cX9_pack 566 = .ok (.iconst 1, 1) := by decide +kernel
theorem dX9_pack_567 : decode cX9_pack 567 = .ok (.iaload, 1) := by decide +kernel
theorem dX9_pack_568 : decode cX9_pack 568 = .ok (.iconst 4, 1) := by decide +kernel
theorem dX9_pack_569 : decode cX9_pack 569 = .ok (.invokevirtual 163, 3) := by decide +kernel
theorem dX9_pack_572 : decode cX9_pack 572 = .ok (.iconst 0, 1) := by decide +kernel
theorem dX9_pack_573 : decode cX9_pack 573 = .ok (.istore 8, 2) := by decide +kernel
theorem dX9_pack_575 : decode cX9_pack 575 = .ok (.iload 8, 2) := by decide +kernel
theorem dX9_pack_577 : decode cX9_pack 577 = .ok (.aload_n 0, 1) := by decide +kernel
theorem dX9_pack_578 : decode cX9_pack 578 = .ok (.getfield 61, 3) := by decide +kernel
theorem dX9_pack_581 : decode cX9_pack 581 = .ok (.iconst 4, 1) := by decide +kernel
theorem dX9_pack_582 : decode cX9_pack 582 = .ok (.iaload, 1) := by decide +kernel
theorem dX9_pack_583 : decode cX9_pack 583 = .ok (.if_icmp .ge 97, 3) := by decide +kernel
theorem dX9_pack_586 : decode cX9_pack 586 = .ok (.iconst 0, 1) := by decide +kernel
theorem dX9_pack_587 : decode cX9_pack 587 = .ok (.istore 9, 2) := by decide +kernel
theorem dX9_pack_589 : decode cX9_pack 589 = .ok (.iconst 0, 1) := by decide +kernel
theorem dX9_pack_590 : decode cX9_pack 590 = .ok (.istore 10, 2) := by decide +kernel
theorem dX9_pack_592 : decode cX9_pack 592 = .ok (.iload 10, 2) := by decide +kernel
theorem dX9_pack_594 : decode cX9_pack 594 = .ok (.bipush 8, 2) := by decide +kernel
theorem dX9_pack_596 : decode cX9_pack 596 = .ok (.if_icmp .ge 54, 3) := by decide +kernel
theorem dX9_pack_599 : decode cX9_pack 599 = .ok (.iload_n 2, 1) := by decide +kernel
theorem dX9_pack_600 : decode cX9_pack 600 = .ok (.ifCond .ne 50, 3) := by decide +kernel
theorem dX9_pack_603 : decode cX9_pack 603 = .ok (.iload 5, 2) := by decide +kernel
theorem dX9_pack_605 : decode cX9_pack 605 = .ok (.bipush 8, 2) := by decide +kernel
theorem dX9_pack_607 : decode cX9_pack 607 = .ok (.iload 8, 2) := by decide +kernel
theorem dX9_pack_609 : decode cX9_pack 609 = .ok (.imul, 1) := by decide +kernel
theorem dX9_pack_610 : decode cX9_pack 610 = .ok (.iadd, 1) := by decide +kernel
theorem dX9_pack_611 : decode cX9_pack 611 = .ok (.iload 10, 2) := by decide +kernel
theorem dX9_pack_613 : decode cX9_pack 613 = .ok (.iadd, 1) := by decide +kernel
theorem dX9_pack_614 : decode cX9_pack 614 = .ok (.istore 11, 2) := by decide +kernel
theorem dX9_pack_616 : decode cX9_pack 616 = .ok (.iconst 2, 1) := by decide +kernel
theorem dX9_pack_617 : decode cX9_pack 617 = .ok (.iload 9, 2) := by decide +kernel
theorem dX9_pack_619 : decode cX9_pack 619 = .ok (.imul, 1) := by decide +kernel
theorem dX9_pack_620 : decode cX9_pack 620 = .ok (.iload 11, 2) := by decide +kernel
theorem dX9_pack_622 : decode cX9_pack 622 = .ok (.aload_n 0, 1) := by decide +kernel
theorem dX9_pack_623 : decode cX9_pack 623 = .ok (.getfield 55, 3) := by decide +kernel
theorem dX9_pack_626 : decode cX9_pack 626 = .ok (.arraylength, 1) := by decide +kernel
theorem dX9_pack_627 : decode cX9_pack 627 = .ok (.if_icmp .ge 13, 3) := by decide +kernel
theorem dX9_pack_630 : decode cX9_pack 630 = .ok (.aload_n 0, 1) := by decide +kernel
theorem dX9_pack_631 : decode cX9_pack 631 = .ok (.getfield 55, 3) := by decide +kernel
theorem dX9_pack_634 : decode cX9_pack 634 = .ok (.iload 11, 2) := by decide +kernel
theorem dX9_pack_636 : decode cX9_pack 636 = .ok (.iaload, 1) := by decide +kernel
theorem dX9_pack_637 : decode cX9_pack 637 = .ok (.goto 4, 3) := by decide +kernel
theorem dX9_pack_640 : decode cX9_pack 640 = .ok (.iconst 0, 1) := by decide +kernel
theorem dX9_pack_641 : decode cX9_pack 641 = .ok (.iadd, 1) := by decide +kernel
theorem dX9_pack_642 : decode cX9_pack 642 = .ok (.istore 9, 2) := by decide +kernel
theorem dX9_pack_644 : decode cX9_pack 644 = .ok (.iinc 10 1, 3) := by decide +kernel
theorem dX9_pack_647 : decode cX9_pack 647 = .ok (.goto (-55), 3) := by decide +kernel
theorem dX9_pack_650 : decode cX9_pack 650 = .ok (.aload_n 0, 1) := by decide +kernel
theorem dX9_pack_651 : decode cX9_pack 651 = .ok (.iload_n 2, 1) := by decide +kernel
theorem dX9_pack_652 : decode cX9_pack 652 = .ok (.ifCond .ne 8, 3) := by decide +kernel
theorem dX9_pack_655 : decode cX9_pack 655 = .ok (.iload 9, 2) := by decide +kernel
theorem dX9_pack_657 : decode cX9_pack 657 = .ok (.goto 13, 3) := by decide +kernel
theorem dX9_pack_660 : decode cX9_pack 660 = .ok (.aload_n 0, 1) := by decide +kernel
theorem dX9_pack_661 : decode cX9_pack 661 = .ok (.getfield 55, 3) := by decide +kernel
theorem dX9_pack_664 : decode cX9_pack 664 = .ok (.iload 5, 2) := by decide +kernel
theorem dX9_pack_666 : decode cX9_pack 666 = .ok (.iload 8, 2) := by decide +kernel
theorem dX9_pack_668 : decode cX9_pack 668 = .ok (.iadd, 1) := by decide +kernel
theorem dX9_pack_669 : decode cX9_pack 669 = .ok (.iaload, 1) := by decide +kernel
theorem dX9_pack_670 : decode cX9_pack 670 = .ok (.iconst 1, 1) := by decide +kernel
theorem dX9_pack_671 : decode cX9_pack 671 = .ok (.invokevirtual 163, 3) := by decide +kernel
theorem dX9_pack_674 : decode cX9_pack 674 = .ok (.iinc 8 1, 3) := by decide +kernel
theorem dX9_pack_677 : decode cX9_pack 677 = .ok (.goto (-102), 3) := by decide +kernel
theorem dX9_pack_680 : decode cX9_pack 680 = .ok (.aload_n 0, 1) := by decide +kernel
theorem dX9_pack_681 : decode cX9_pack 681 = .ok (.invokevirtual 166, 3) := by decide +kernel
theorem dX9_pack_684 : decode cX9_pack 684 = .ok (.aload_n 0, 1) := by decide +kernel
theorem dX9_pack_685 : decode cX9_pack 685 = .ok (.getfield 73, 3) := by decide +kernel
theorem dX9_pack_688 : decode cX9_pack 688 = .ok (.ireturn, 1) := by decide +kernel
theorem dX9_put_0 : decode cX9_put 0 = .ok (.iload_n 2, 1) := by decide +kernel
theorem dX9_put_1 : decode cX9_put 1 = .ok (.iconst 1, 1) := by decide +kernel
theorem dX9_put_2 : decode cX9_put 2 = .ok (.isub, 1) := by decide +kernel
theorem dX9_put_3 : decode cX9_put 3 = .ok (.istore_n 3, 1) := by decide +kernel
theorem dX9_put_4 : decode cX9_put 4 = .ok (.iload_n 3, 1) := by decide +kernel
theorem dX9_put_5 : decode cX9_put 5 = .ok (.ifCond .lt 38, 3) := by decide +kernel
theorem dX9_put_8 : decode cX9_put 8 = .ok (.aload_n 0, 1) := by decide +kernel
theorem dX9_put_9 : decode cX9_put 9 = .ok (.getfield 13, 3) := by decide +kernel
theorem dX9_put_12 : decode cX9_put 12 = .ok (.aload_n 0, 1) := by decide +kernel
theorem dX9_put_13 : decode cX9_put 13 = .ok (.getfield 73, 3) := by decide +kernel
theorem dX9_put_16 : decode cX9_put 16 = .ok (.iload_n 1, 1) := by decide +kernel
theorem dX9_put_17 : decode cX9_put 17 = .ok (.bipush 8, 2) := by decide +kernel
theorem dX9_put_19 : decode cX9_put 19 = .ok (.iload_n 3, 1) := by decide +kernel
theorem dX9_put_20 : decode cX9_put 20 = .ok (.imul, 1) := by decide +kernel
theorem dX9_put_21 : decode cX9_put 21 = .ok (.ishr, 1) := by decide +kernel
theorem dX9_put_22 : decode cX9_put 22 = .ok (.sipush 255, 3) := by decide +kernel
theorem dX9_put_25 : decode cX9_put 25 = .ok (.iand, 1) := by decide +kernel
theorem dX9_put_26 : decode cX9_put 26 = .ok (.iastore, 1) := by decide +kernel
theorem dX9_put_27 : decode cX9_put 27 = .ok (.aload_n 0, 1) := by decide +kernel
theorem dX9_put_28 : decode cX9_put 28 = .ok (.dup, 1) := by decide +kernel
theorem dX9_put_29 : decode cX9_put 29 = .ok (.getfield 73, 3) := by decide +kernel
theorem dX9_put_32 : decode cX9_put 32 = .ok (.iconst 1, 1) := by decide +kernel
theorem dX9_put_33 : decode cX9_put 33 = .ok (.iadd, 1) := by decide +kernel
theorem dX9_put_34 : decode cX9_put 34 = .ok (.putfield 73, 3) := by decide +kernel
theorem dX9_put_37 : decode cX9_put 37 = .ok (.iinc 3 (-1), 3) := by decide +kernel
theorem dX9_put_40 : decode cX9_put 40 = .ok (.goto (-36), 3) := by decide +kernel
theorem dX9_put_43 : decode cX9_put 43 = .ok (.return_, 1) := by decide +kernel
theorem dX9_ideal_0 : decode cX9_ideal 0 = .ok (.aload_n 0, 1) := by decide +kernel
theorem dX9_ideal_1 : decode cX9_ideal 1 = .ok (.iload_n 1, 1) := by decide +kernel
theorem dX9_ideal_2 : decode cX9_ideal 2 = .ok (.invokevirtual 84, 3) := by decide +kernel
theorem dX9_ideal_5 : decode cX9_ideal 5 = .ok (.ifCond .ne 5, 3) := by decide +kernel
theorem dX9_ideal_8 : decode cX9_ideal 8 = .ok (.iconst (-1), 1) := by decide +kernel
theorem dX9_ideal_9 : decode cX9_ideal 9 = .ok (.ireturn, 1) := by decide +kernel
theorem dX9_ideal_10 : decode cX9_ideal 10 = .ok (.aload_n 0, 1) := by decide +kernel
theorem dX9_ideal_11 : decode cX9_ideal 11 = .ok (.iload_n 1, 1) := by decide +kernel
theorem dX9_ideal_12 : decode cX9_ideal 12 = .ok (.invokevirtual 149, 3) := by decide +kernel
theorem dX9_ideal_15 : decode cX9_ideal 15 = .ok (.istore_n 2, 1) := by decide +kernel
theorem dX9_ideal_16 : decode cX9_ideal 16 = .ok (.iload_n 2, 1) := by decide +kernel
theorem dX9_ideal_17 : decode cX9_ideal 17 = .ok (.ifCond .ge 5, 3) := by decide +kernel
theorem dX9_ideal_20 : decode cX9_ideal 20 = .ok (.iload_n 2, 1) := by decide +kernel
theorem dX9_ideal_21 : decode cX9_ideal 21 = .ok (.ireturn, 1) := by decide +kernel
theorem dX9_ideal_22 : decode cX9_ideal 22 = .ok (.iconst 1, 1) := by decide +kernel
theorem dX9_ideal_23 : decode cX9_ideal 23 = .ok (.istore_n 3, 1) := by decide +kernel
theorem dX9_ideal_24 : decode cX9_ideal 24 = .ok (.aload_n 0, 1) := by decide +kernel
theorem dX9_ideal_25 : decode cX9_ideal 25 = .ok (.getfield 64, 3) := by decide +kernel
theorem dX9_ideal_28 : decode cX9_ideal 28 = .ok (.iconst 0, 1) := by decide +kernel
theorem dX9_ideal_29 : decode cX9_ideal 29 = .ok (.iconst 1, 1) := by decide +kernel
theorem dX9_ideal_30 : decode cX9_ideal 30 = .ok (.iastore, 1) := by decide +kernel
theorem dX9_ideal_31 : decode cX9_ideal 31 = .ok (.iconst 0, 1) := by decide +kernel
theorem dX9_ideal_32 : decode cX9_ideal 32 = .ok (.istore 4, 2) := by decide +kernel
theorem dX9_ideal_34 : decode cX9_ideal 34 = .ok (.iload 4, 2) := by decide +kernel
theorem dX9_ideal_36 : decode cX9_ideal 36 = .ok (.aload_n 0, 1) := by decide +kernel
theorem dX9_ideal_37 : decode cX9_ideal 37 = .ok (.getfield 70, 3) := by decide +kernel
theorem dX9_ideal_40 : decode cX9_ideal 40 = .ok (.if_icmp .ge 97, 3) := by decide +kernel
theorem dX9_ideal_43 : decode cX9_ideal 43 = .ok (.aload_n 0, 1) := by decide +kernel
theorem dX9_ideal_44 : decode cX9_ideal 44 = .ok (.getfield 19, 3) := by decide +kernel
theorem dX9_ideal_47 : decode cX9_ideal 47 = .ok (.sipush 256, 3) := by decide +kernel
theorem dX9_ideal_50 : decode cX9_ideal 50 = .ok (.iload_n 1, 1) := by decide +kernel
theorem dX9_ideal_51 : decode cX9_ideal 51 = .ok (.imul, 1) := by decide +kernel
theorem dX9_ideal_52 : decode cX9_ideal 52 = .ok (.aload_n 0, 1) := by decide +kernel
theorem dX9_ideal_53 : decode cX9_ideal 53 = .ok (.getfield 7, 3) := by decide +kernel
theorem dX9_ideal_56 : decode cX9_ideal 56 = .ok (.iload 4, 2) := by decide +kernel
theorem dX9_ideal_58 : decode cX9_ideal 58 = .ok (.iaload, 1) := by decide +kernel
theorem dX9_ideal_59 : decode cX9_ideal 59 = .ok (.iadd, 1) := by decide +kernel
theorem dX9_ideal_60 : decode cX9_ideal 60 = .ok (.iaload, 1) := by decide +kernel
theorem dX9_ideal_61 : decode cX9_ideal 61 = .ok (.istore 5, 2) := by decide +kernel
theorem dX9_ideal_63 : decode cX9_ideal 63 = .ok (.iconst 0, 1) := by decide +kernel
theorem dX9_ideal_64 : decode cX9_ideal 64 = .ok (.istore 6, 2) := by decide +kernel
theorem dX9_ideal_66 : decode cX9_ideal 66 = .ok (.iconst 0, 1) := by decide +kernel
theorem dX9_ideal_67 : decode cX9_ideal 67 = .ok (.istore 7, 2) := by decide +kernel
theorem dX9_ideal_69 : decode cX9_ideal 69 = .ok (.iload 7, 2) := by decide +kernel
theorem dX9_ideal_71 : decode cX9_ideal 71 = .ok (.iload_n 3, 1) := by decide +kernel
theorem dX9_ideal_72 : decode cX9_ideal 72 = .ok (.if_icmp .ge 43, 3) := by decide +kernel
theorem dX9_ideal_75 : decode cX9_ideal 75 = .ok (.aload_n 0, 1) := by decide +kernel
theorem dX9_ideal_76 : decode cX9_ideal 76 = .ok (.getfield 64, 3) := by decide +kernel
theorem dX9_ideal_79 : decode cX9_ideal 79 = .ok (.iload 7, 2) := by decide +kernel
theorem dX9_ideal_81 : decode cX9_ideal 81 = .ok (.iaload, 1) := by decide +kernel
theorem dX9_ideal_82 : decode cX9_ideal 82 = .ok (.iload 5, 2) := by decide +kernel
theorem dX9_ideal_84 : decode cX9_ideal 84 = .ok (.imul, 1) := by decide +kernel
theorem dX9_ideal_85 : decode cX9_ideal 85 = .ok (.iload 6, 2) := by decide +kernel
theorem dX9_ideal_87 : decode cX9_ideal 87 = .ok (.iadd, 1) := by decide +kernel
theorem dX9_ideal_88 : decode cX9_ideal 88 = .ok (.istore 8, 2) := by decide +kernel
theorem dX9_ideal_90 : decode cX9_ideal 90 = .ok (.aload_n 0, 1) := by decide +kernel
theorem dX9_ideal_91 : decode cX9_ideal 91 = .ok (.getfield 64, 3) := by decide +kernel
theorem dX9_ideal_94 : decode cX9_ideal 94 = .ok (.iload 7, 2) := by decide +kernel
theorem dX9_ideal_96 : decode cX9_ideal 96 = .ok (.iload 8, 2) := by decide +kernel
theorem dX9_ideal_98 : decode cX9_ideal 98 = .ok (.ldc 169, 2) := by decide +kernel
theorem dX9_ideal_100 : decode cX9_ideal 100 = .ok (.iand, 1) := by decide +kernel
theorem dX9_ideal_101 : decode cX9_ideal 101 = .ok (.iastore, 1) := by decide +kernel
theorem dX9_ideal_102 : decode cX9_ideal 102 = .ok (.iload 8, 2) := by decide +kernel
theorem dX9_ideal_104 : decode cX9_ideal 104 = .ok (.bipush 16, 2) := by decide +kernel
theorem dX9_ideal_106 : decode cX9_ideal 106 = .ok (.ishr, 1) := by decide +kernel
theorem dX9_ideal_107 : decode cX9_ideal 107 = .ok (.istore 6, 2) := by decide +kernel
theorem dX9_ideal_109 : decode cX9_ideal 109 = .ok (.iinc 7 1, 3) := by decide +kernel
theorem dX9_ideal_112 : decode cX9_ideal 112 = .ok (.goto (-43), 3) := by decide +kernel
theorem dX9_ideal_115 : decode cX9_ideal 115 = .ok (.iload 6, 2) := by decide +kernel
theorem dX9_ideal_117 : decode cX9_ideal 117 = .ok (.ifCond .le 14, 3) := by decide +kernel
theorem dX9_ideal_120 : decode cX9_ideal 120 = .ok (.aload_n 0, 1) := by decide +kernel
theorem dX9_ideal_121 : decode cX9_ideal 121 = .ok (.getfield 64, 3) := by decide +kernel
theorem dX9_ideal_124 : decode cX9_ideal 124 = .ok (.iload_n 3, 1) := by decide +kernel
theorem dX9_ideal_125 : decode cX9_ideal 125 = .ok (.iload 6, 2) := by decide +kernel
theorem dX9_ideal_127 : decode cX9_ideal 127 = .ok (.iastore, 1) := by decide +kernel
theorem dX9_ideal_128 : decode cX9_ideal 128 = .ok (.iinc 3 1, 3) := by decide +kernel
theorem dX9_ideal_131 : decode cX9_ideal 131 = .ok (.iinc 4 1, 3) := by decide +kernel
theorem dX9_ideal_134 : decode cX9_ideal 134 = .ok (.goto (-100), 3) := by decide +kernel
theorem dX9_ideal_137 : decode cX9_ideal 137 = .ok (.bipush 16, 2) := by decide +kernel
theorem dX9_ideal_139 : decode cX9_ideal 139 = .ok (.iload_n 3, 1) := by decide +kernel
theorem dX9_ideal_140 : decode cX9_ideal 140 = .ok (.iconst 1, 1) := by decide +kernel
theorem dX9_ideal_141 : decode cX9_ideal 141 = .ok (.isub, 1) := by decide +kernel
theorem dX9_ideal_142 : decode cX9_ideal 142 = .ok (.imul, 1) := by decide +kernel
theorem dX9_ideal_143 : decode cX9_ideal 143 = .ok (.istore 4, 2) := by decide +kernel
theorem dX9_ideal_145 : decode cX9_ideal 145 = .ok (.aload_n 0, 1) := by decide +kernel
theorem dX9_ideal_146 : decode cX9_ideal 146 = .ok (.getfield 64, 3) := by decide +kernel
theorem dX9_ideal_149 : decode cX9_ideal 149 = .ok (.iload_n 3, 1) := by decide +kernel
theorem dX9_ideal_150 : decode cX9_ideal 150 = .ok (.iconst 1, 1) := by decide +kernel
theorem dX9_ideal_151 : decode cX9_ideal 151 = .ok (.isub, 1) := by decide +kernel
theorem dX9_ideal_152 : decode cX9_ideal 152 = .ok (.iaload, 1) := by decide +kernel
theorem dX9_ideal_153 : decode cX9_ideal 153 = .ok (.istore 5, 2) := by decide +kernel
theorem dX9_ideal_155 : decode cX9_ideal 155 = .ok (.iload 5, 2) := by decide +kernel
theorem dX9_ideal_157 : decode cX9_ideal 157 = .ok (.ifCond .le 15, 3) := by decide +kernel
theorem dX9_ideal_160 : decode cX9_ideal 160 = .ok (.iinc 4 1, 3) := by decide +kernel
theorem dX9_ideal_163 : decode cX9_ideal 163 = .ok (.iload 5, 2) := by decide +kernel
theorem dX9_ideal_165 : decode cX9_ideal 165 = .ok (.iconst 1, 1) := by decide +kernel
theorem dX9_ideal_166 : decode cX9_ideal 166 = .ok (.ishr, 1) := by decide +kernel
theorem dX9_ideal_167 : decode cX9_ideal 167 = .ok (.istore 5, 2) := by decide +kernel
theorem dX9_ideal_169 : decode cX9_ideal 169 = .ok (.goto (-14), 3) := by decide +kernel
theorem dX9_ideal_172 : decode cX9_ideal 172 = .ok (.aload_n 0, 1) := by decide +kernel
theorem dX9_ideal_173 : decode cX9_ideal 173 = .ok (.getfield 16, 3) := by decide +kernel
theorem dX9_ideal_176 : decode cX9_ideal 176 = .ok (.iload_n 1, 1) := by decide +kernel
theorem dX9_ideal_177 : decode cX9_ideal 177 = .ok (.iaload, 1) := by decide +kernel
theorem dX9_ideal_178 : decode cX9_ideal 178 = .ok (.aload_n 0, 1) := by decide +kernel
theorem dX9_ideal_179 : decode cX9_ideal 179 = .ok (.getfield 70, 3) := by decide +kernel
theorem dX9_ideal_182 : decode cX9_ideal 182 = .ok (.imul, 1) := by decide +kernel
theorem dX9_ideal_183 : decode cX9_ideal 183 = .ok (.iload 4, 2) := by decide +kernel
theorem dX9_ideal_185 : decode cX9_ideal 185 = .ok (.isub, 1) := by decide +kernel
theorem dX9_ideal_186 : decode cX9_ideal 186 = .ok (.iconst 1, 1) := by decide +kernel
theorem dX9_ideal_187 : decode cX9_ideal 187 = .ok (.iadd, 1) := by decide +kernel
theorem dX9_ideal_188 : decode cX9_ideal 188 = .ok (.istore 5, 2) := by decide +kernel
theorem dX9_ideal_190 : decode cX9_ideal 190 = .ok (.iload 5, 2) := by decide +kernel
theorem dX9_ideal_192 : decode cX9_ideal 192 = .ok (.ifCond .ge 7, 3) := by decide +kernel
theorem dX9_ideal_195 : decode cX9_ideal 195 = .ok (.iconst 0, 1) := by decide +kernel
theorem dX9_ideal_196 : decode cX9_ideal 196 = .ok (.goto 5, 3) := by decide +kernel
theorem dX9_ideal_199 : decode cX9_ideal 199 = .ok (.iload 5, 2) := by decide +kernel
theorem dX9_ideal_201 : decode cX9_ideal 201 = .ok (.ireturn, 1) := by decide +kernel
theorem dX9_look_0 : decode cX9_look 0 = .ok (.iload_n 1, 1) := by decide +kernel
theorem dX9_look_1 : decode cX9_look 1 = .ok (.ifCond .lt 8, 3) := by decide +kernel
theorem dX9_look_4 : decode cX9_look 4 = .ok (.iload_n 1, 1) := by decide +kernel
theorem dX9_look_5 : decode cX9_look 5 = .ok (.iconst 5, 1) := by decide +kernel
theorem dX9_look_6 : decode cX9_look 6 = .ok (.if_icmp .le 7, 3) := by decide +kernel
theorem dX9_look_9 : decode cX9_look 9 = .ok (.iconst (-1), 1) := by decide +kernel
theorem dX9_look_10 : decode cX9_look 10 = .ok (.goto 9, 3) := by decide +kernel
theorem dX9_look_13 : decode cX9_look 13 = .ok (.aload_n 0, 1) := by decide +kernel
theorem dX9_look_14 : decode cX9_look 14 = .ok (.getfield 48, 3) := by decide +kernel
theorem dX9_look_17 : decode cX9_look 17 = .ok (.iload_n 1, 1) := by decide +kernel
theorem dX9_look_18 : decode cX9_look 18 = .ok (.iaload, 1) := by decide +kernel
theorem dX9_look_19 : decode cX9_look 19 = .ok (.ireturn, 1) := by decide +kernel
theorem dX9_fails_0 : decode cX9_fails 0 = .ok (.aload_n 0, 1) := by decide +kernel
theorem dX9_fails_1 : decode cX9_fails 1 = .ok (.iload_n 1, 1) := by decide +kernel
theorem dX9_fails_2 : decode cX9_fails 2 = .ok (.putfield 170, 3) := by decide +kernel
theorem dX9_fails_5 : decode cX9_fails 5 = .ok (.aload_n 0, 1) := by decide +kernel
theorem dX9_fails_6 : decode cX9_fails 6 = .ok (.iload_n 2, 1) := by decide +kernel
theorem dX9_fails_7 : decode cX9_fails 7 = .ok (.putfield 51, 3) := by decide +kernel
theorem dX9_fails_10 : decode cX9_fails 10 = .ok (.iconst 0, 1) := by decide +kernel
theorem dX9_fails_11 : decode cX9_fails 11 = .ok (.ireturn, 1) := by decide +kernel
theorem dX9_number_0 : decode cX9_number 0 = .ok (.aload_n 0, 1) := by decide +kernel
theorem dX9_number_1 : decode cX9_number 1 = .ok (.getfield 173, 3) := by decide +kernel
theorem dX9_number_4 : decode cX9_number 4 = .ok (.iload_n 1, 1) := by decide +kernel
theorem dX9_number_5 : decode cX9_number 5 = .ok (.iadd, 1) := by decide +kernel
theorem dX9_number_6 : decode cX9_number 6 = .ok (.aload_n 0, 1) := by decide +kernel
theorem dX9_number_7 : decode cX9_number 7 = .ok (.getfield 70, 3) := by decide +kernel
theorem dX9_number_10 : decode cX9_number 10 = .ok (.if_icmp .le 17, 3) := by decide +kernel
theorem dX9_number_13 : decode cX9_number 13 = .ok (.aload_n 0, 1) := by decide +kernel
theorem dX9_number_14 : decode cX9_number 14 = .ok (.iconst 1, 1) := by decide +kernel
theorem dX9_number_15 : decode cX9_number 15 = .ok (.aload_n 0, 1) := by decide +kernel
theorem dX9_number_16 : decode cX9_number 16 = .ok (.getfield 70, 3) := by decide +kernel
theorem dX9_number_19 : decode cX9_number 19 = .ok (.invokevirtual 176, 3) := by decide +kernel
theorem dX9_number_22 : decode cX9_number 22 = .ok (.istore_n 2, 1) := by decide +kernel
theorem dX9_number_23 : decode cX9_number 23 = .ok (.ldc2_w 179, 3) := by decide +kernel
theorem dX9_number_26 : decode cX9_number 26 = .ok (.lreturn, 1) := by decide +kernel
theorem dX9_number_27 : decode cX9_number 27 = .ok (.lconst 0, 1) := by decide +kernel
theorem dX9_number_28 : decode cX9_number 28 = .ok (.lstore_n 2, 1) := by decide +kernel
theorem dX9_number_29 : decode cX9_number 29 = .ok (.iconst 0, 1) := by decide +kernel
theorem dX9_number_30 : decode cX9_number 30 = .ok (.istore 4, 2) := by decide +kernel
theorem dX9_number_32 : decode cX9_number 32 = .ok (.iload 4, 2) := by decide +kernel
theorem dX9_number_34 : decode cX9_number 34 = .ok (.iload_n 1, 1) := by decide +kernel
theorem dX9_number_35 : decode cX9_number 35 = .ok (.if_icmp .ge 28, 3) := by decide +kernel
theorem dX9_number_38 : decode cX9_number 38 = .ok (.lload_n 2, 1) := by decide +kernel
theorem dX9_number_39 : decode cX9_number 39 = .ok (.bipush 8, 2) := by decide +kernel
theorem dX9_number_41 : decode cX9_number 41 = .ok (.lshl, 1) := by decide +kernel
theorem dX9_number_42 : decode cX9_number 42 = .ok (.aload_n 0, 1) := by decide +kernel
theorem dX9_number_43 : decode cX9_number 43 = .ok (.getfield 7, 3) := by decide +kernel
theorem dX9_number_46 : decode cX9_number 46 = .ok (.aload_n 0, 1) := by decide +kernel
theorem dX9_number_47 : decode cX9_number 47 = .ok (.getfield 173, 3) := by decide +kernel
theorem dX9_number_50 : decode cX9_number 50 = .ok (.iload 4, 2) := by decide +kernel
theorem dX9_number_52 : decode cX9_number 52 = .ok (.iadd, 1) := by decide +kernel
theorem dX9_number_53 : decode cX9_number 53 = .ok (.iaload, 1) := by decide +kernel
theorem dX9_number_54 : decode cX9_number 54 = .ok (.i2l, 1) := by decide +kernel
theorem dX9_number_55 : decode cX9_number 55 = .ok (.lor, 1) := by decide +kernel
theorem dX9_number_56 : decode cX9_number 56 = .ok (.lstore_n 2, 1) := by decide +kernel
theorem dX9_number_57 : decode cX9_number 57 = .ok (.iinc 4 1, 3) := by decide +kernel
theorem dX9_number_60 : decode cX9_number 60 = .ok (.goto (-28), 3) := by decide +kernel
theorem dX9_number_63 : decode cX9_number 63 = .ok (.aload_n 0, 1) := by decide +kernel
theorem dX9_number_64 : decode cX9_number 64 = .ok (.dup, 1) := by decide +kernel
theorem dX9_number_65 : decode cX9_number 65 = .ok (.getfield 173, 3) := by decide +kernel
theorem dX9_number_68 : decode cX9_number 68 = .ok (.iload_n 1, 1) := by decide +kernel
theorem dX9_number_69 : decode cX9_number 69 = .ok (.iadd, 1) := by decide +kernel
theorem dX9_number_70 : decode cX9_number 70 = .ok (.putfield 173, 3) := by decide +kernel
theorem dX9_number_73 : decode cX9_number 73 = .ok (.lload_n 2, 1) := by decide +kernel
theorem dX9_number_74 : decode cX9_number 74 = .ok (.lreturn, 1) := by decide +kernel
theorem dX9_reads_0 : decode cX9_reads 0 = .ok (.aload_n 0, 1) := by decide +kernel
theorem dX9_reads_1 : decode cX9_reads 1 = .ok (.iconst 0, 1) := by decide +kernel
theorem dX9_reads_2 : decode cX9_reads 2 = .ok (.putfield 173, 3) := by decide +kernel
theorem dX9_reads_5 : decode cX9_reads 5 = .ok (.aload_n 0, 1) := by decide +kernel
theorem dX9_reads_6 : decode cX9_reads 6 = .ok (.iconst 1, 1) := by decide +kernel
theorem dX9_reads_7 : decode cX9_reads 7 = .ok (.invokevirtual 181, 3) := by decide +kernel
theorem dX9_reads_10 : decode cX9_reads 10 = .ok (.lstore_n 1, 1) := by decide +kernel
theorem dX9_reads_11 : decode cX9_reads 11 = .ok (.lload_n 1, 1) := by decide +kernel
theorem dX9_reads_12 : decode cX9_reads 12 = .ok (.lconst 0, 1) := by decide +kernel
theorem dX9_reads_13 : decode cX9_reads 13 = .ok (.lcmp, 1) := by decide +kernel
theorem dX9_reads_14 : decode cX9_reads 14 = .ok (.ifCond .ge 5, 3) := by decide +kernel
theorem dX9_reads_17 : decode cX9_reads 17 = .ok (.iconst 0, 1) := by decide +kernel
theorem dX9_reads_18 : decode cX9_reads 18 = .ok (.ireturn, 1) := by decide +kernel
theorem dX9_reads_19 : decode cX9_reads 19 = .ok (.lload_n 1, 1) := by decide +kernel
theorem dX9_reads_20 : decode cX9_reads 20 = .ok (.ldc2_w 185, 3) := by decide +kernel
theorem dX9_reads_23 : decode cX9_reads 23 = .ok (.lcmp, 1) := by decide +kernel
theorem dX9_reads_24 : decode cX9_reads 24 = .ok (.ifCond .eq 10, 3) := by decide +kernel
theorem dX9_reads_27 : decode cX9_reads 27 = .ok (.aload_n 0, 1) := by decide +kernel
theorem dX9_reads_28 : decode cX9_reads 28 = .ok (.iconst 2, 1) := by decide +kernel
theorem dX9_reads_29 : decode cX9_reads 29 = .ok (.iconst 0, 1) := by decide +kernel
theorem dX9_reads_30 : decode cX9_reads 30 = .ok (.invokevirtual 176, 3) := by decide +kernel
theorem dX9_reads_33 : decode cX9_reads 33 = .ok (.ireturn, 1) := by decide +kernel
theorem dX9_reads_34 : decode cX9_reads 34 = .ok (.aload_n 0, 1) := by decide +kernel
theorem dX9_reads_35 : decode cX9_reads 35 = .ok (.iconst 1, 1) := by decide +kernel
theorem dX9_reads_36 : decode cX9_reads 36 = .ok (.invokevirtual 181, 3) := by decide +kernel
theorem dX9_reads_39 : decode cX9_reads 39 = .ok (.lstore_n 1, 1) := by decide +kernel
theorem dX9_reads_40 : decode cX9_reads 40 = .ok (.lload_n 1, 1) := by decide +kernel
theorem dX9_reads_41 : decode cX9_reads 41 = .ok (.lconst 0, 1) := by decide +kernel
theorem dX9_reads_42 : decode cX9_reads 42 = .ok (.lcmp, 1) := by decide +kernel
theorem dX9_reads_43 : decode cX9_reads 43 = .ok (.ifCond .ge 5, 3) := by decide +kernel
theorem dX9_reads_46 : decode cX9_reads 46 = .ok (.iconst 0, 1) := by decide +kernel
theorem dX9_reads_47 : decode cX9_reads 47 = .ok (.ireturn, 1) := by decide +kernel
theorem dX9_reads_48 : decode cX9_reads 48 = .ok (.aload_n 0, 1) := by decide +kernel
theorem dX9_reads_49 : decode cX9_reads 49 = .ok (.lload_n 1, 1) := by decide +kernel
theorem dX9_reads_50 : decode cX9_reads 50 = .ok (.l2i, 1) := by decide +kernel
theorem dX9_reads_51 : decode cX9_reads 51 = .ok (.iconst 4, 1) := by decide +kernel
theorem dX9_reads_52 : decode cX9_reads 52 = .ok (.idiv, 1) := by decide +kernel
theorem dX9_reads_53 : decode cX9_reads 53 = .ok (.putfield 187, 3) := by decide +kernel
theorem dX9_reads_56 : decode cX9_reads 56 = .ok (.aload_n 0, 1) := by decide +kernel
theorem dX9_reads_57 : decode cX9_reads 57 = .ok (.lload_n 1, 1) := by decide +kernel
theorem dX9_reads_58 : decode cX9_reads 58 = .ok (.l2i, 1) := by decide +kernel
theorem dX9_reads_59 : decode cX9_reads 59 = .ok (.iconst 4, 1) := by decide +kernel
theorem dX9_reads_60 : decode cX9_reads 60 = .ok (.irem, 1) := by decide +kernel
theorem dX9_reads_61 : decode cX9_reads 61 = .ok (.putfield 190, 3) := by decide +kernel
theorem dX9_reads_64 : decode cX9_reads 64 = .ok (.aload_n 0, 1) := by decide +kernel
theorem dX9_reads_65 : decode cX9_reads 65 = .ok (.getfield 187, 3) := by decide +kernel
theorem dX9_reads_68 : decode cX9_reads 68 = .ok (.aload_n 0, 1) := by decide +kernel
theorem dX9_reads_69 : decode cX9_reads 69 = .ok (.getfield 190, 3) := by decide +kernel
theorem dX9_reads_72 : decode cX9_reads 72 = .ok (.invokestatic 119, 3) := by decide +kernel
theorem dX9_reads_75 : decode cX9_reads 75 = .ok (.ifCond .ne 10, 3) := by decide +kernel
theorem dX9_reads_78 : decode cX9_reads 78 = .ok (.aload_n 0, 1) := by decide +kernel
theorem dX9_reads_79 : decode cX9_reads 79 = .ok (.iconst 2, 1) := by decide +kernel
theorem dX9_reads_80 : decode cX9_reads 80 = .ok (.iconst 1, 1) := by decide +kernel
theorem dX9_reads_81 : decode cX9_reads 81 = .ok (.invokevirtual 176, 3) := by decide +kernel
theorem dX9_reads_84 : decode cX9_reads 84 = .ok (.ireturn, 1) := by decide +kernel
theorem dX9_reads_85 : decode cX9_reads 85 = .ok (.aload_n 0, 1) := by decide +kernel
theorem dX9_reads_86 : decode cX9_reads 86 = .ok (.iconst 1, 1) := by decide +kernel
theorem dX9_reads_87 : decode cX9_reads 87 = .ok (.invokevirtual 181, 3) := by decide +kernel
theorem dX9_reads_90 : decode cX9_reads 90 = .ok (.lstore_n 1, 1) := by decide +kernel
theorem dX9_reads_91 : decode cX9_reads 91 = .ok (.lload_n 1, 1) := by decide +kernel
theorem dX9_reads_92 : decode cX9_reads 92 = .ok (.lconst 0, 1) := by decide +kernel
theorem dX9_reads_93 : decode cX9_reads 93 = .ok (.lcmp, 1) := by decide +kernel
theorem dX9_reads_94 : decode cX9_reads 94 = .ok (.ifCond .ge 5, 3) := by decide +kernel
theorem dX9_reads_97 : decode cX9_reads 97 = .ok (.iconst 0, 1) := by decide +kernel
theorem dX9_reads_98 : decode cX9_reads 98 = .ok (.ireturn, 1) := by decide +kernel
theorem dX9_reads_99 : decode cX9_reads 99 = .ok (.lload_n 1, 1) := by decide +kernel
theorem dX9_reads_100 : decode cX9_reads 100 = .ok (.lconst 1, 1) := by decide +kernel
theorem dX9_reads_101 : decode cX9_reads 101 = .ok (.lcmp, 1) := by decide +kernel
theorem dX9_reads_102 : decode cX9_reads 102 = .ok (.ifCond .lt 11, 3) := by decide +kernel
theorem dX9_reads_105 : decode cX9_reads 105 = .ok (.lload_n 1, 1) := by decide +kernel
theorem dX9_reads_106 : decode cX9_reads 106 = .ok (.ldc2_w 193, 3) := by decide +kernel
theorem dX9_reads_109 : decode cX9_reads 109 = .ok (.lcmp, 1) := by decide +kernel
theorem dX9_reads_110 : decode cX9_reads 110 = .ok (.ifCond .le 10, 3) := by decide +kernel
theorem dX9_reads_113 : decode cX9_reads 113 = .ok (.aload_n 0, 1) := by decide +kernel
theorem dX9_reads_114 : decode cX9_reads 114 = .ok (.iconst 2, 1) := by decide +kernel
theorem dX9_reads_115 : decode cX9_reads 115 = .ok (.iconst 2, 1) := by decide +kernel
theorem dX9_reads_116 : decode cX9_reads 116 = .ok (.invokevirtual 176, 3) := by decide +kernel
theorem dX9_reads_119 : decode cX9_reads 119 = .ok (.ireturn, 1) := by decide +kernel
theorem dX9_reads_120 : decode cX9_reads 120 = .ok (.aload_n 0, 1) := by decide +kernel
theorem dX9_reads_121 : decode cX9_reads 121 = .ok (.getfield 16, 3) := by decide +kernel
theorem dX9_reads_124 : decode cX9_reads 124 = .ok (.bipush 6, 2) := by decide +kernel
theorem dX9_reads_126 : decode cX9_reads 126 = .ok (.lload_n 1, 1) := by decide +kernel
theorem dX9_reads_127 : decode cX9_reads 127 = .ok (.l2i, 1) := by decide +kernel
theorem dX9_reads_128 : decode cX9_reads 128 = .ok (.iastore, 1) := by decide +kernel
theorem dX9_reads_129 : decode cX9_reads 129 = .ok (.aload_n 0, 1) := by decide +kernel
theorem dX9_reads_130 : decode cX9_reads 130 = .ok (.invokevirtual 195, 3) := by decide +kernel
theorem dX9_reads_133 : decode cX9_reads 133 = .ok (.ifCond .ne 5, 3) := by decide +kernel
theorem dX9_reads_136 : decode cX9_reads 136 = .ok (.iconst 0, 1) := by decide +kernel
theorem dX9_reads_137 : decode cX9_reads 137 = .ok (.ireturn, 1) := by decide +kernel
theorem dX9_reads_138 : decode cX9_reads 138 = .ok (.aload_n 0, 1) := by decide +kernel
theorem dX9_reads_139 : decode cX9_reads 139 = .ok (.getfield 173, 3) := by decide +kernel
theorem dX9_reads_142 : decode cX9_reads 142 = .ok (.istore_n 3, 1) := by decide +kernel
theorem dX9_reads_143 : decode cX9_reads 143 = .ok (.aload_n 0, 1) := by decide +kernel
theorem dX9_reads_144 : decode cX9_reads 144 = .ok (.iconst 2, 1) := by decide +kernel
theorem dX9_reads_145 : decode cX9_reads 145 = .ok (.invokevirtual 181, 3) := by decide +kernel
theorem dX9_reads_148 : decode cX9_reads 148 = .ok (.lstore_n 1, 1) := by decide +kernel
theorem dX9_reads_149 : decode cX9_reads 149 = .ok (.lload_n 1, 1) := by decide +kernel
theorem dX9_reads_150 : decode cX9_reads 150 = .ok (.lconst 0, 1) := by decide +kernel
theorem dX9_reads_151 : decode cX9_reads 151 = .ok (.lcmp, 1) := by decide +kernel
theorem dX9_reads_152 : decode cX9_reads 152 = .ok (.ifCond .ge 5, 3) := by decide +kernel
theorem dX9_reads_155 : decode cX9_reads 155 = .ok (.iconst 0, 1) := by decide +kernel
theorem dX9_reads_156 : decode cX9_reads 156 = .ok (.ireturn, 1) := by decide +kernel
theorem dX9_reads_157 : decode cX9_reads 157 = .ok (.lload_n 1, 1) := by decide +kernel
theorem dX9_reads_158 : decode cX9_reads 158 = .ok (.ldc2_w 199, 3) := by decide +kernel
theorem dX9_reads_161 : decode cX9_reads 161 = .ok (.lcmp, 1) := by decide +kernel
theorem dX9_reads_162 : decode cX9_reads 162 = .ok (.ifCond .le 10, 3) := by decide +kernel
theorem dX9_reads_165 : decode cX9_reads 165 = .ok (.aload_n 0, 1) := by decide +kernel
theorem dX9_reads_166 : decode cX9_reads 166 = .ok (.iconst 2, 1) := by decide +kernel
theorem dX9_reads_167 : decode cX9_reads 167 = .ok (.iload_n 3, 1) := by decide +kernel
theorem dX9_reads_168 : decode cX9_reads 168 = .ok (.invokevirtual 176, 3) := by decide +kernel
theorem dX9_reads_171 : decode cX9_reads 171 = .ok (.ireturn, 1) := by decide +kernel
theorem dX9_reads_172 : decode cX9_reads 172 = .ok (.aload_n 0, 1) := by decide +kernel
theorem dX9_reads_173 : decode cX9_reads 173 = .ok (.lload_n 1, 1) := by decide +kernel
theorem dX9_reads_174 : decode cX9_reads 174 = .ok (.l2i, 1) := by decide +kernel
theorem dX9_reads_175 : decode cX9_reads 175 = .ok (.putfield 201, 3) := by decide +kernel
theorem dX9_reads_178 : decode cX9_reads 178 = .ok (.aload_n 0, 1) := by decide +kernel
theorem dX9_reads_179 : decode cX9_reads 179 = .ok (.iconst 2, 1) := by decide +kernel
theorem dX9_reads_180 : decode cX9_reads 180 = .ok (.invokevirtual 181, 3) := by decide +kernel
theorem dX9_reads_183 : decode cX9_reads 183 = .ok (.lstore_n 1, 1) := by decide +kernel
theorem dX9_reads_184 : decode cX9_reads 184 = .ok (.lload_n 1, 1) := by decide +kernel
theorem dX9_reads_185 : decode cX9_reads 185 = .ok (.lconst 0, 1) := by decide +kernel
theorem dX9_reads_186 : decode cX9_reads 186 = .ok (.lcmp, 1) := by decide +kernel
theorem dX9_reads_187 : decode cX9_reads 187 = .ok (.ifCond .ge 5, 3) := by decide +kernel
theorem dX9_reads_190 : decode cX9_reads 190 = .ok (.iconst 0, 1) := by decide +kernel
theorem dX9_reads_191 : decode cX9_reads 191 = .ok (.ireturn, 1) := by decide +kernel
theorem dX9_reads_192 : decode cX9_reads 192 = .ok (.aload_n 0, 1) := by decide +kernel
theorem dX9_reads_193 : decode cX9_reads 193 = .ok (.lload_n 1, 1) := by decide +kernel
theorem dX9_reads_194 : decode cX9_reads 194 = .ok (.l2i, 1) := by decide +kernel
theorem dX9_reads_195 : decode cX9_reads 195 = .ok (.putfield 204, 3) := by decide +kernel
theorem dX9_reads_198 : decode cX9_reads 198 = .ok (.aload_n 0, 1) := by decide +kernel
theorem dX9_reads_199 : decode cX9_reads 199 = .ok (.aload_n 0, 1) := by decide +kernel
theorem dX9_reads_200 : decode cX9_reads 200 = .ok (.getfield 173, 3) := by decide +kernel
theorem dX9_reads_203 : decode cX9_reads 203 = .ok (.putfield 207, 3) := by decide +kernel
theorem dX9_reads_206 : decode cX9_reads 206 = .ok (.iconst 0, 1) := by decide +kernel
theorem dX9_reads_207 : decode cX9_reads 207 = .ok (.istore 4, 2) := by decide +kernel
theorem dX9_reads_209 : decode cX9_reads 209 = .ok (.iload 4, 2) := by decide +kernel
theorem dX9_reads_211 : decode cX9_reads 211 = .ok (.aload_n 0, 1) := by decide +kernel
theorem dX9_reads_212 : decode cX9_reads 212 = .ok (.getfield 187, 3) := by decide +kernel
theorem dX9_reads_215 : decode cX9_reads 215 = .ok (.iconst 2, 1) := by decide +kernel
theorem dX9_reads_216 : decode cX9_reads 216 = .ok (.if_icmp .ne 7, 3) := by decide +kernel
theorem dX9_reads_219 : decode cX9_reads 219 = .ok (.iconst 2, 1) := by decide +kernel
theorem dX9_reads_220 : decode cX9_reads 220 = .ok (.goto 4, 3) := by decide +kernel
theorem dX9_reads_223 : decode cX9_reads 223 = .ok (.iconst 1, 1) := by decide +kernel
theorem dX9_reads_224 : decode cX9_reads 224 = .ok (.if_icmp .ge 117, 3) := by decide +kernel
theorem dX9_reads_227 : decode cX9_reads 227 = .ok (.aload_n 0, 1) := by decide +kernel
theorem dX9_reads_228 : decode cX9_reads 228 = .ok (.getfield 173, 3) := by decide +kernel
theorem dX9_reads_231 : decode cX9_reads 231 = .ok (.istore_n 3, 1) := by decide +kernel
theorem dX9_reads_232 : decode cX9_reads 232 = .ok (.aload_n 0, 1) := by decide +kernel
theorem dX9_reads_233 : decode cX9_reads 233 = .ok (.aload_n 0, 1) := by decide +kernel
theorem dX9_reads_234 : decode cX9_reads 234 = .ok (.getfield 187, 3) := by decide +kernel
theorem dX9_reads_237 : decode cX9_reads 237 = .ok (.ifCond .ne 7, 3) := by decide +kernel
theorem dX9_reads_240 : decode cX9_reads 240 = .ok (.iconst 2, 1) := by decide +kernel
theorem dX9_reads_241 : decode cX9_reads 241 = .ok (.goto 4, 3) := by decide +kernel
theorem dX9_reads_244 : decode cX9_reads 244 = .ok (.iconst 4, 1) := by decide +kernel
theorem dX9_reads_245 : decode cX9_reads 245 = .ok (.invokevirtual 181, 3) := by decide +kernel
theorem dX9_reads_248 : decode cX9_reads 248 = .ok (.lstore_n 1, 1) := by decide +kernel
theorem dX9_reads_249 : decode cX9_reads 249 = .ok (.lload_n 1, 1) := by decide +kernel
theorem dX9_reads_250 : decode cX9_reads 250 = .ok (.lconst 0, 1) := by decide +kernel
theorem dX9_reads_251 : decode cX9_reads 251 = .ok (.lcmp, 1) := by decide +kernel
theorem dX9_reads_252 : decode cX9_reads 252 = .ok (.ifCond .ge 5, 3) := by decide +kernel
theorem dX9_reads_255 : decode cX9_reads 255 = .ok (.iconst 0, 1) := by decide +kernel
theorem dX9_reads_256 : decode cX9_reads 256 = .ok (.ireturn, 1) := by decide +kernel
theorem dX9_reads_257 : decode cX9_reads 257 = .ok (.aload_n 0, 1) := by decide +kernel
theorem dX9_reads_258 : decode cX9_reads 258 = .ok (.getfield 187, 3) := by decide +kernel
theorem dX9_reads_261 : decode cX9_reads 261 = .ok (.ifCond .ne 20, 3) := by decide +kernel
theorem dX9_reads_264 : decode cX9_reads 264 = .ok (.lload_n 1, 1) := by decide +kernel
theorem dX9_reads_265 : decode cX9_reads 265 = .ok (.lconst 1, 1) := by decide +kernel
theorem dX9_reads_266 : decode cX9_reads 266 = .ok (.aload_n 0, 1) := by decide +kernel
theorem dX9_reads_267 : decode cX9_reads 267 = .ok (.getfield 16, 3) := by decide +kernel
theorem dX9_reads_270 : decode cX9_reads 270 = .ok (.bipush 6, 2) := by decide +kernel
theorem dX9_reads_272 : decode cX9_reads 272 = .ok (.iaload, 1) := by decide +kernel
theorem dX9_reads_273 : decode cX9_reads 273 = .ok (.lshl, 1) := by decide +kernel
theorem dX9_reads_274 : decode cX9_reads 274 = .ok (.lcmp, 1) := by decide +kernel
theorem dX9_reads_275 : decode cX9_reads 275 = .ok (.ifCond .lt 29, 3) := by decide +kernel
theorem dX9_reads_278 : decode cX9_reads 278 = .ok (.goto 19, 3) := by decide +kernel
theorem dX9_reads_281 : decode cX9_reads 281 = .ok (.lload_n 1, 1) := by decide +kernel
theorem dX9_reads_282 : decode cX9_reads 282 = .ok (.ldc2_w 210, 3) := by decide +kernel
theorem dX9_reads_285 : decode cX9_reads 285 = .ok (.lcmp, 1) := by decide +kernel
theorem dX9_reads_286 : decode cX9_reads 286 = .ok (.ifCond .lt 11, 3) := by decide +kernel
theorem dX9_reads_289 : decode cX9_reads 289 = .ok (.lload_n 1, 1) := by decide +kernel
theorem dX9_reads_290 : decode cX9_reads 290 = .ok (.ldc2_w 212, 3) := by decide +kernel
theorem dX9_reads_293 : decode cX9_reads 293 = .ok (.lcmp, 1) := by decide +kernel
theorem dX9_reads_294 : decode cX9_reads 294 = .ok (.ifCond .le 10, 3) := by decide +kernel
theorem dX9_reads_297 : decode cX9_reads 297 = .ok (.aload_n 0, 1) := by decide +kernel
theorem dX9_reads_298 : decode cX9_reads 298 = .ok (.iconst 4, 1) := by decide +kernel
theorem dX9_reads_299 : decode cX9_reads 299 = .ok (.iload_n 3, 1) := by decide +kernel
theorem dX9_reads_300 : decode cX9_reads 300 = .ok (.invokevirtual 176, 3) := by decide +kernel
theorem dX9_reads_303 : decode cX9_reads 303 = .ok (.ireturn, 1) := by decide +kernel
theorem dX9_reads_304 : decode cX9_reads 304 = .ok (.aload_n 0, 1) := by decide +kernel
theorem dX9_reads_305 : decode cX9_reads 305 = .ok (.getfield 58, 3) := by decide +kernel
theorem dX9_reads_308 : decode cX9_reads 308 = .ok (.iload 4, 2) := by decide +kernel
theorem dX9_reads_310 : decode cX9_reads 310 = .ok (.aload_n 0, 1) := by decide +kernel
theorem dX9_reads_311 : decode cX9_reads 311 = .ok (.getfield 187, 3) := by decide +kernel
theorem dX9_reads_314 : decode cX9_reads 314 = .ok (.ifCond .ne 18, 3) := by decide +kernel
theorem dX9_reads_317 : decode cX9_reads 317 = .ok (.lload_n 1, 1) := by decide +kernel
theorem dX9_reads_318 : decode cX9_reads 318 = .ok (.l2i, 1) := by decide +kernel
theorem dX9_reads_319 : decode cX9_reads 319 = .ok (.iconst 1, 1) := by decide +kernel
theorem dX9_reads_320 : decode cX9_reads 320 = .ok (.aload_n 0, 1) := by decide +kernel
theorem dX9_reads_321 : decode cX9_reads 321 = .ok (.getfield 16, 3) := by decide +kernel
theorem dX9_reads_324 : decode cX9_reads 324 = .ok (.bipush 6, 2) := by decide +kernel
theorem dX9_reads_326 : decode cX9_reads 326 = .ok (.iaload, 1) := by decide +kernel
theorem dX9_reads_327 : decode cX9_reads 327 = .ok (.ishl, 1) := by decide +kernel
theorem dX9_reads_328 : decode cX9_reads 328 = .ok (.iadd, 1) := by decide +kernel
theorem dX9_reads_329 : decode cX9_reads 329 = .ok (.goto 5, 3) := by decide +kernel
theorem dX9_reads_332 : decode cX9_reads 332 = .ok (.lload_n 1, 1) := by decide +kernel
theorem dX9_reads_333 : decode cX9_reads 333 = .ok (.l2i, 1) := by decide +kernel
theorem dX9_reads_334 : decode cX9_reads 334 = .ok (.iastore, 1) := by decide +kernel
theorem dX9_reads_335 : decode cX9_reads 335 = .ok (.iinc 4 1, 3) := by decide +kernel
theorem dX9_reads_338 : decode cX9_reads 338 = .ok (.goto (-129), 3) := by decide +kernel
theorem dX9_reads_341 : decode cX9_reads 341 = .ok (.aload_n 0, 1) := by decide +kernel
theorem dX9_reads_342 : decode cX9_reads 342 = .ok (.aload_n 0, 1) := by decide +kernel
theorem dX9_reads_343 : decode cX9_reads 343 = .ok (.getfield 173, 3) := by decide +kernel
theorem dX9_reads_346 : decode cX9_reads 346 = .ok (.putfield 214, 3) := by decide +kernel
theorem dX9_reads_349 : decode cX9_reads 349 = .ok (.aload_n 0, 1) := by decide +kernel
theorem dX9_reads_350 : decode cX9_reads 350 = .ok (.getfield 173, 3) := by decide +kernel
theorem dX9_reads_353 : decode cX9_reads 353 = .ok (.aload_n 0, 1) := by decide +kernel
theorem dX9_reads_354 : decode cX9_reads 354 = .ok (.getfield 204, 3) := by decide +kernel
theorem dX9_reads_357 : decode cX9_reads 357 = .ok (.iadd, 1) := by decide +kernel
theorem dX9_reads_358 : decode cX9_reads 358 = .ok (.aload_n 0, 1) := by decide +kernel
theorem dX9_reads_359 : decode cX9_reads 359 = .ok (.getfield 70, 3) := by decide +kernel
theorem dX9_reads_362 : decode cX9_reads 362 = .ok (.if_icmp .le 13, 3) := by decide +kernel
theorem dX9_reads_365 : decode cX9_reads 365 = .ok (.aload_n 0, 1) := by decide +kernel
theorem dX9_reads_366 : decode cX9_reads 366 = .ok (.iconst 1, 1) := by decide +kernel
theorem dX9_reads_367 : decode cX9_reads 367 = .ok (.aload_n 0, 1) := by decide +kernel
theorem dX9_reads_368 : decode cX9_reads 368 = .ok (.getfield 70, 3) := by decide +kernel
theorem dX9_reads_371 : decode cX9_reads 371 = .ok (.invokevirtual 176, 3) := by decide +kernel
theorem dX9_reads_374 : decode cX9_reads 374 = .ok (.ireturn, 1) := by decide +kernel
theorem dX9_reads_375 : decode cX9_reads 375 = .ok (.aload_n 0, 1) := by decide +kernel
theorem dX9_reads_376 : decode cX9_reads 376 = .ok (.getfield 173, 3) := by decide +kernel
theorem dX9_reads_379 : decode cX9_reads 379 = .ok (.aload_n 0, 1) := by decide +kernel
theorem dX9_reads_380 : decode cX9_reads 380 = .ok (.getfield 204, 3) := by decide +kernel
theorem dX9_reads_383 : decode cX9_reads 383 = .ok (.iadd, 1) := by decide +kernel
theorem dX9_reads_384 : decode cX9_reads 384 = .ok (.aload_n 0, 1) := by decide +kernel
theorem dX9_reads_385 : decode cX9_reads 385 = .ok (.getfield 70, 3) := by decide +kernel
theorem dX9_reads_388 : decode cX9_reads 388 = .ok (.if_icmp .ge 19, 3) := by decide +kernel
theorem dX9_reads_391 : decode cX9_reads 391 = .ok (.aload_n 0, 1) := by decide +kernel
theorem dX9_reads_392 : decode cX9_reads 392 = .ok (.bipush 8, 2) := by decide +kernel
theorem dX9_reads_394 : decode cX9_reads 394 = .ok (.aload_n 0, 1) := by decide +kernel
theorem dX9_reads_395 : decode cX9_reads 395 = .ok (.getfield 173, 3) := by decide +kernel
theorem dX9_reads_398 : decode cX9_reads 398 = .ok (.aload_n 0, 1) := by decide +kernel
theorem dX9_reads_399 : decode cX9_reads 399 = .ok (.getfield 204, 3) := by decide +kernel
theorem dX9_reads_402 : decode cX9_reads 402 = .ok (.iadd, 1) := by decide +kernel
theorem dX9_reads_403 : decode cX9_reads 403 = .ok (.invokevirtual 176, 3) := by decide +kernel
theorem dX9_reads_406 : decode cX9_reads 406 = .ok (.ireturn, 1) := by decide +kernel
theorem dX9_reads_407 : decode cX9_reads 407 = .ok (.aload_n 0, 1) := by decide +kernel
theorem dX9_reads_408 : decode cX9_reads 408 = .ok (.bipush 6, 2) := by decide +kernel
theorem dX9_reads_410 : decode cX9_reads 410 = .ok (.invokevirtual 80, 3) := by decide +kernel
theorem dX9_reads_413 : decode cX9_reads 413 = .ok (.aload_n 0, 1) := by decide +kernel
theorem dX9_reads_414 : decode cX9_reads 414 = .ok (.bipush 6, 2) := by decide +kernel
theorem dX9_reads_416 : decode cX9_reads 416 = .ok (.aload_n 0, 1) := by decide +kernel
theorem dX9_reads_417 : decode cX9_reads 417 = .ok (.getfield 190, 3) := by decide +kernel
theorem dX9_reads_420 : decode cX9_reads 420 = .ok (.invokevirtual 106, 3) := by decide +kernel
theorem dX9_reads_423 : decode cX9_reads 423 = .ok (.aload_n 0, 1) := by decide +kernel
theorem dX9_reads_424 : decode cX9_reads 424 = .ok (.invokevirtual 217, 3) := by decide +kernel
theorem dX9_reads_427 : decode cX9_reads 427 = .ok (.ireturn, 1) := by decide +kernel
theorem dX9_readsShares_0 : decode cX9_readsShares 0 = .ok (.iconst 1, 1) := by decide +kernel
theorem dX9_readsShares_1 : decode cX9_readsShares 1 = .ok (.aload_n 0, 1) := by decide +kernel
theorem dX9_readsShares_2 : decode cX9_readsShares 2 = .ok (.getfield 16, 3) := by decide +kernel
theorem dX9_readsShares_5 : decode cX9_readsShares 5 = .ok (.bipush 6, 2) := by decide +kernel
theorem dX9_readsShares_7 : decode cX9_readsShares 7 = .ok (.iaload, 1) := by decide +kernel
theorem dX9_readsShares_8 : decode cX9_readsShares 8 = .ok (.ishl, 1) := by decide +kernel
theorem dX9_readsShares_9 : decode cX9_readsShares 9 = .ok (.istore_n 1, 1) := by decide +kernel
theorem dX9_readsShares_10 : decode cX9_readsShares 10 = .ok (.aload_n 0, 1) := by decide +kernel
theorem dX9_readsShares_11 : decode cX9_readsShares 11 = .ok (.iconst 1, 1) := by decide +kernel
theorem dX9_readsShares_12 : decode cX9_readsShares 12 = .ok (.invokevirtual 181, 3) := by decide +kernel
theorem dX9_readsShares_15 : decode cX9_readsShares 15 = .ok (.lstore_n 2, 1) := by decide +kernel
theorem dX9_readsShares_16 : decode cX9_readsShares 16 = .ok (.lload_n 2, 1) := by decide +kernel
theorem dX9_readsShares_17 : decode cX9_readsShares 17 = .ok (.lconst 0, 1) := by decide +kernel
theorem dX9_readsShares_18 : decode cX9_readsShares 18 = .ok (.lcmp, 1) := by decide +kernel
theorem dX9_readsShares_19 : decode cX9_readsShares 19 = .ok (.ifCond .ge 5, 3) := by decide +kernel
theorem dX9_readsShares_22 : decode cX9_readsShares 22 = .ok (.iconst 0, 1) := by decide +kernel
theorem dX9_readsShares_23 : decode cX9_readsShares 23 = .ok (.ireturn, 1) := by decide +kernel
theorem dX9_readsShares_24 : decode cX9_readsShares 24 = .ok (.lload_n 2, 1) := by decide +kernel
theorem dX9_readsShares_25 : decode cX9_readsShares 25 = .ok (.l2i, 1) := by decide +kernel
theorem dX9_readsShares_26 : decode cX9_readsShares 26 = .ok (.iconst 1, 1) := by decide +kernel
theorem dX9_readsShares_27 : decode cX9_readsShares 27 = .ok (.iadd, 1) := by decide +kernel
theorem dX9_readsShares_28 : decode cX9_readsShares 28 = .ok (.istore 4, 2) := by decide +kernel
theorem dX9_readsShares_30 : decode cX9_readsShares 30 = .ok (.iconst 0, 1) := by decide +kernel
theorem dX9_readsShares_31 : decode cX9_readsShares 31 = .ok (.istore 5, 2) := by decide +kernel
theorem dX9_readsShares_33 : decode cX9_readsShares 33 = .ok (.iload 5, 2) := by decide +kernel
theorem dX9_readsShares_35 : decode cX9_readsShares 35 = .ok (.sipush 256, 3) := by decide +kernel
theorem dX9_readsShares_38 : decode cX9_readsShares 38 = .ok (.if_icmp .ge 21, 3) := by decide +kernel
theorem dX9_readsShares_41 : decode cX9_readsShares 41 = .ok (.aload_n 0, 1) := by decide +kernel
theorem dX9_readsShares_42 : decode cX9_readsShares 42 = .ok (.getfield 19, 3) := by decide +kernel
theorem dX9_readsShares_45 : decode cX9_readsShares 45 = .ok (.sipush 1536, 3) := by decide +kernel
theorem dX9_readsShares_48 : decode cX9_readsShares 48 = .ok (.iload 5, 2) := by decide +kernel
theorem dX9_readsShares_50 : decode cX9_readsShares 50 = .ok (.iadd, 1) := by decide +kernel
theorem dX9_readsShares_51 : decode cX9_readsShares 51 = .ok (.iconst 0, 1) := by decide +kernel
theorem dX9_readsShares_52 : decode cX9_readsShares 52 = .ok (.iastore, 1) := by decide +kernel
theorem dX9_readsShares_53 : decode cX9_readsShares 53 = .ok (.iinc 5 1, 3) := by decide +kernel
theorem dX9_readsShares_56 : decode cX9_readsShares 56 = .ok (.goto (-23), 3) := by decide +kernel
theorem dX9_readsShares_59 : decode cX9_readsShares 59 = .ok (.iconst (-1), 1) := by decide +kernel
theorem dX9_readsShares_60 : decode cX9_readsShares 60 = .ok (.istore 5, 2) := by decide +kernel
theorem dX9_readsShares_62 : decode cX9_readsShares 62 = .ok (.iconst 0, 1) := by decide +kernel
theorem dX9_readsShares_63 : decode cX9_readsShares 63 = .ok (.istore 6, 2) := by decide +kernel
theorem dX9_readsShares_65 : decode cX9_readsShares 65 = .ok (.iconst 0, 1) := by decide +kernel
theorem dX9_readsShares_66 : decode cX9_readsShares 66 = .ok (.istore 7, 2) := by decide +kernel
theorem dX9_readsShares_68 : decode cX9_readsShares 68 = .ok (.iconst 0, 1) := by decide +kernel
theorem dX9_readsShares_69 : decode cX9_readsShares 69 = .ok (.istore 8, 2) := by decide +kernel
theorem dX9_readsShares_71 : decode cX9_readsShares 71 = .ok (.iload 8, 2) := by decide +kernel
theorem dX9_readsShares_73 : decode cX9_readsShares 73 = .ok (.iload 4, 2) := by decide +kernel
theorem dX9_readsShares_75 : decode cX9_readsShares 75 = .ok (.if_icmp .ge 110, 3) := by decide +kernel
theorem dX9_readsShares_78 : decode cX9_readsShares 78 = .ok (.aload_n 0, 1) := by decide +kernel
theorem dX9_readsShares_79 : decode cX9_readsShares 79 = .ok (.getfield 173, 3) := by decide +kernel
theorem dX9_readsShares_82 : decode cX9_readsShares 82 = .ok (.istore 7, 2) := by decide +kernel
theorem dX9_readsShares_84 : decode cX9_readsShares 84 = .ok (.aload_n 0, 1) := by decide +kernel
theorem dX9_readsShares_85 : decode cX9_readsShares 85 = .ok (.iconst 1, 1) := by decide +kernel
theorem dX9_readsShares_86 : decode cX9_readsShares 86 = .ok (.invokevirtual 181, 3) := by decide +kernel
theorem dX9_readsShares_89 : decode cX9_readsShares 89 = .ok (.lstore_n 2, 1) := by decide +kernel
theorem dX9_readsShares_90 : decode cX9_readsShares 90 = .ok (.lload_n 2, 1) := by decide +kernel
theorem dX9_readsShares_91 : decode cX9_readsShares 91 = .ok (.lconst 0, 1) := by decide +kernel
theorem dX9_readsShares_92 : decode cX9_readsShares 92 = .ok (.lcmp, 1) := by decide +kernel
theorem dX9_readsShares_93 : decode cX9_readsShares 93 = .ok (.ifCond .ge 5, 3) := by decide +kernel
theorem dX9_readsShares_96 : decode cX9_readsShares 96 = .ok (.iconst 0, 1) := by decide +kernel
theorem dX9_readsShares_97 : decode cX9_readsShares 97 = .ok (.ireturn, 1) := by decide +kernel
theorem dX9_readsShares_98 : decode cX9_readsShares 98 = .ok (.lload_n 2, 1) := by decide +kernel
theorem dX9_readsShares_99 : decode cX9_readsShares 99 = .ok (.iload 5, 2) := by decide +kernel
theorem dX9_readsShares_101 : decode cX9_readsShares 101 = .ok (.i2l, 1) := by decide +kernel
theorem dX9_readsShares_102 : decode cX9_readsShares 102 = .ok (.lcmp, 1) := by decide +kernel
theorem dX9_readsShares_103 : decode cX9_readsShares 103 = .ok (.ifCond .gt 11, 3) := by decide +kernel
theorem dX9_readsShares_106 : decode cX9_readsShares 106 = .ok (.aload_n 0, 1) := by decide +kernel
theorem dX9_readsShares_107 : decode cX9_readsShares 107 = .ok (.iconst 2, 1) := by decide +kernel
theorem dX9_readsShares_108 : decode cX9_readsShares 108 = .ok (.iload 7, 2) := by decide +kernel
theorem dX9_readsShares_110 : decode cX9_readsShares 110 = .ok (.invokevirtual 176, 3) := by decide +kernel
theorem dX9_readsShares_113 : decode cX9_readsShares 113 = .ok (.ireturn, 1) := by decide +kernel
theorem dX9_readsShares_114 : decode cX9_readsShares 114 = .ok (.lload_n 2, 1) := by decide +kernel
theorem dX9_readsShares_115 : decode cX9_readsShares 115 = .ok (.l2i, 1) := by decide +kernel
theorem dX9_readsShares_116 : decode cX9_readsShares 116 = .ok (.istore 5, 2) := by decide +kernel
theorem dX9_readsShares_118 : decode cX9_readsShares 118 = .ok (.aload_n 0, 1) := by decide +kernel
theorem dX9_readsShares_119 : decode cX9_readsShares 119 = .ok (.getfield 173, 3) := by decide +kernel
theorem dX9_readsShares_122 : decode cX9_readsShares 122 = .ok (.istore 7, 2) := by decide +kernel
theorem dX9_readsShares_124 : decode cX9_readsShares 124 = .ok (.aload_n 0, 1) := by decide +kernel
theorem dX9_readsShares_125 : decode cX9_readsShares 125 = .ok (.iconst 2, 1) := by decide +kernel
theorem dX9_readsShares_126 : decode cX9_readsShares 126 = .ok (.invokevirtual 181, 3) := by decide +kernel
theorem dX9_readsShares_129 : decode cX9_readsShares 129 = .ok (.lstore_n 2, 1) := by decide +kernel
theorem dX9_readsShares_130 : decode cX9_readsShares 130 = .ok (.lload_n 2, 1) := by decide +kernel
theorem dX9_readsShares_131 : decode cX9_readsShares 131 = .ok (.lconst 0, 1) := by decide +kernel
theorem dX9_readsShares_132 : decode cX9_readsShares 132 = .ok (.lcmp, 1) := by decide +kernel
theorem dX9_readsShares_133 : decode cX9_readsShares 133 = .ok (.ifCond .ge 5, 3) := by decide +kernel
theorem dX9_readsShares_136 : decode cX9_readsShares 136 = .ok (.iconst 0, 1) := by decide +kernel
theorem dX9_readsShares_137 : decode cX9_readsShares 137 = .ok (.ireturn, 1) := by decide +kernel
theorem dX9_readsShares_138 : decode cX9_readsShares 138 = .ok (.lload_n 2, 1) := by decide +kernel
theorem dX9_readsShares_139 : decode cX9_readsShares 139 = .ok (.lconst 1, 1) := by decide +kernel
theorem dX9_readsShares_140 : decode cX9_readsShares 140 = .ok (.lcmp, 1) := by decide +kernel
theorem dX9_readsShares_141 : decode cX9_readsShares 141 = .ok (.ifCond .lt 10, 3) := by decide +kernel
theorem dX9_readsShares_144 : decode cX9_readsShares 144 = .ok (.lload_n 2, 1) := by decide +kernel
theorem dX9_readsShares_145 : decode cX9_readsShares 145 = .ok (.iload_n 1, 1) := by decide +kernel
theorem dX9_readsShares_146 : decode cX9_readsShares 146 = .ok (.i2l, 1) := by decide +kernel
theorem dX9_readsShares_147 : decode cX9_readsShares 147 = .ok (.lcmp, 1) := by decide +kernel
theorem dX9_readsShares_148 : decode cX9_readsShares 148 = .ok (.ifCond .le 11, 3) := by decide +kernel
theorem dX9_readsShares_151 : decode cX9_readsShares 151 = .ok (.aload_n 0, 1) := by decide +kernel
theorem dX9_readsShares_152 : decode cX9_readsShares 152 = .ok (.iconst 2, 1) := by decide +kernel
theorem dX9_readsShares_153 : decode cX9_readsShares 153 = .ok (.iload 7, 2) := by decide +kernel
theorem dX9_readsShares_155 : decode cX9_readsShares 155 = .ok (.invokevirtual 176, 3) := by decide +kernel
theorem dX9_readsShares_158 : decode cX9_readsShares 158 = .ok (.ireturn, 1) := by decide +kernel
theorem dX9_readsShares_159 : decode cX9_readsShares 159 = .ok (.aload_n 0, 1) := by decide +kernel
theorem dX9_readsShares_160 : decode cX9_readsShares 160 = .ok (.getfield 19, 3) := by decide +kernel
theorem dX9_readsShares_163 : decode cX9_readsShares 163 = .ok (.sipush 1536, 3) := by decide +kernel
theorem dX9_readsShares_166 : decode cX9_readsShares 166 = .ok (.iload 5, 2) := by decide +kernel
theorem dX9_readsShares_168 : decode cX9_readsShares 168 = .ok (.iadd, 1) := by decide +kernel
theorem dX9_readsShares_169 : decode cX9_readsShares 169 = .ok (.lload_n 2, 1) := by decide +kernel
theorem dX9_readsShares_170 : decode cX9_readsShares 170 = .ok (.l2i, 1) := by decide +kernel
theorem dX9_readsShares_171 : decode cX9_readsShares 171 = .ok (.iastore, 1) := by decide +kernel
theorem dX9_readsShares_172 : decode cX9_readsShares 172 = .ok (.iload 6, 2) := by decide +kernel
theorem dX9_readsShares_174 : decode cX9_readsShares 174 = .ok (.lload_n 2, 1) := by decide +kernel
theorem dX9_readsShares_175 : decode cX9_readsShares 175 = .ok (.l2i, 1) := by decide +kernel
theorem dX9_readsShares_176 : decode cX9_readsShares 176 = .ok (.iadd, 1) := by decide +kernel
theorem dX9_readsShares_177 : decode cX9_readsShares 177 = .ok (.istore 6, 2) := by decide +kernel
theorem dX9_readsShares_179 : decode cX9_readsShares 179 = .ok (.iinc 8 1, 3) := by decide +kernel
theorem dX9_readsShares_182 : decode cX9_readsShares 182 = .ok (.goto (-111), 3) := by decide +kernel
theorem dX9_readsShares_185 : decode cX9_readsShares 185 = .ok (.iload 6, 2) := by decide +kernel
theorem dX9_readsShares_187 : decode cX9_readsShares 187 = .ok (.iload_n 1, 1) := by decide +kernel
theorem dX9_readsShares_188 : decode cX9_readsShares 188 = .ok (.if_icmp .eq 13, 3) := by decide +kernel
theorem dX9_readsShares_191 : decode cX9_readsShares 191 = .ok (.aload_n 0, 1) := by decide +kernel
theorem dX9_readsShares_192 : decode cX9_readsShares 192 = .ok (.iconst 3, 1) := by decide +kernel
theorem dX9_readsShares_193 : decode cX9_readsShares 193 = .ok (.iload 7, 2) := by decide +kernel
theorem dX9_readsShares_195 : decode cX9_readsShares 195 = .ok (.invokevirtual 176, 3) := by decide +kernel
theorem dX9_readsShares_198 : decode cX9_readsShares 198 = .ok (.ifCond .eq 7, 3) := by decide +kernel
theorem dX9_readsShares_201 : decode cX9_readsShares 201 = .ok (.iconst 1, 1) := by decide +kernel
theorem dX9_readsShares_202 : decode cX9_readsShares 202 = .ok (.goto 4, 3) := by decide +kernel
theorem dX9_readsShares_205 : decode cX9_readsShares 205 = .ok (.iconst 0, 1) := by decide +kernel
theorem dX9_readsShares_206 : decode cX9_readsShares 206 = .ok (.ireturn, 1) := by decide +kernel
theorem dX9_readsMessage_0 : decode cX9_readsMessage 0 = .ok (.iconst 1, 1) := by decide +kernel
theorem dX9_readsMessage_1 : decode cX9_readsMessage 1 = .ok (.aload_n 0, 1) := by decide +kernel
theorem dX9_readsMessage_2 : decode cX9_readsMessage 2 = .ok (.getfield 16, 3) := by decide +kernel
theorem dX9_readsMessage_5 : decode cX9_readsMessage 5 = .ok (.bipush 6, 2) := by decide +kernel
theorem dX9_readsMessage_7 : decode cX9_readsMessage 7 = .ok (.iaload, 1) := by decide +kernel
theorem dX9_readsMessage_8 : decode cX9_readsMessage 8 = .ok (.ishl, 1) := by decide +kernel
theorem dX9_readsMessage_9 : decode cX9_readsMessage 9 = .ok (.istore_n 1, 1) := by decide +kernel
theorem dX9_readsMessage_10 : decode cX9_readsMessage 10 = .ok (.iconst 0, 1) := by decide +kernel
theorem dX9_readsMessage_11 : decode cX9_readsMessage 11 = .ok (.istore_n 2, 1) := by decide +kernel
theorem dX9_readsMessage_12 : decode cX9_readsMessage 12 = .ok (.aload_n 0, 1) := by decide +kernel
theorem dX9_readsMessage_13 : decode cX9_readsMessage 13 = .ok (.getfield 187, 3) := by decide +kernel
theorem dX9_readsMessage_16 : decode cX9_readsMessage 16 = .ok (.ifCond .ne 13, 3) := by decide +kernel
theorem dX9_readsMessage_19 : decode cX9_readsMessage 19 = .ok (.bipush 8, 2) := by decide +kernel
theorem dX9_readsMessage_21 : decode cX9_readsMessage 21 = .ok (.aload_n 0, 1) := by decide +kernel
theorem dX9_readsMessage_22 : decode cX9_readsMessage 22 = .ok (.getfield 204, 3) := by decide +kernel
theorem dX9_readsMessage_25 : decode cX9_readsMessage 25 = .ok (.imul, 1) := by decide +kernel
theorem dX9_readsMessage_26 : decode cX9_readsMessage 26 = .ok (.goto 7, 3) := by decide +kernel
theorem dX9_readsMessage_29 : decode cX9_readsMessage 29 = .ok (.aload_n 0, 1) := by decide +kernel
theorem dX9_readsMessage_30 : decode cX9_readsMessage 30 = .ok (.getfield 204, 3) := by decide +kernel
theorem dX9_readsMessage_33 : decode cX9_readsMessage 33 = .ok (.istore_n 3, 1) := by decide +kernel
theorem dX9_readsMessage_34 : decode cX9_readsMessage 34 = .ok (.aload_n 0, 1) := by decide +kernel
theorem dX9_readsMessage_35 : decode cX9_readsMessage 35 = .ok (.getfield 187, 3) := by decide +kernel
theorem dX9_readsMessage_38 : decode cX9_readsMessage 38 = .ok (.ifCond .ne 7, 3) := by decide +kernel
theorem dX9_readsMessage_41 : decode cX9_readsMessage 41 = .ok (.iload_n 1, 1) := by decide +kernel
theorem dX9_readsMessage_42 : decode cX9_readsMessage 42 = .ok (.goto 5, 3) := by decide +kernel
theorem dX9_readsMessage_45 : decode cX9_readsMessage 45 = .ok (.ldc 118, 2) := by decide +kernel
theorem dX9_readsMessage_47 : decode cX9_readsMessage 47 = .ok (.istore 4, 2) := by decide +kernel
theorem dX9_readsMessage_49 : decode cX9_readsMessage 49 = .ok (.aload_n 0, 1) := by decide +kernel
theorem dX9_readsMessage_50 : decode cX9_readsMessage 50 = .ok (.invokevirtual 153, 3) := by decide +kernel
theorem dX9_readsMessage_53 : decode cX9_readsMessage 53 = .ok (.iconst 0, 1) := by decide +kernel
theorem dX9_readsMessage_54 : decode cX9_readsMessage 54 = .ok (.istore 5, 2) := by decide +kernel
theorem dX9_readsMessage_56 : decode cX9_readsMessage 56 = .ok (.iload 5, 2) := by decide +kernel
theorem dX9_readsMessage_58 : decode cX9_readsMessage 58 = .ok (.aload_n 0, 1) := by decide +kernel
theorem dX9_readsMessage_59 : decode cX9_readsMessage 59 = .ok (.getfield 201, 3) := by decide +kernel
theorem dX9_readsMessage_62 : decode cX9_readsMessage 62 = .ok (.if_icmp .ge 230, 3) := by decide +kernel
theorem dX9_readsMessage_65 : decode cX9_readsMessage 65 = .ok (.aload_n 0, 1) := by decide +kernel
theorem dX9_readsMessage_66 : decode cX9_readsMessage 66 = .ok (.getfield 187, 3) := by decide +kernel
theorem dX9_readsMessage_69 : decode cX9_readsMessage 69 = .ok (.iconst 2, 1) := by decide +kernel
theorem dX9_readsMessage_70 : decode cX9_readsMessage 70 = .ok (.if_icmp .ne 10, 3) := by decide +kernel
theorem dX9_readsMessage_73 : decode cX9_readsMessage 73 = .ok (.iload 5, 2) := by decide +kernel
theorem dX9_readsMessage_75 : decode cX9_readsMessage 75 = .ok (.iconst 2, 1) := by decide +kernel
theorem dX9_readsMessage_76 : decode cX9_readsMessage 76 = .ok (.irem, 1) := by decide +kernel
theorem dX9_readsMessage_77 : decode cX9_readsMessage 77 = .ok (.goto 4, 3) := by decide +kernel
theorem dX9_readsMessage_80 : decode cX9_readsMessage 80 = .ok (.iconst 0, 1) := by decide +kernel
theorem dX9_readsMessage_81 : decode cX9_readsMessage 81 = .ok (.istore 6, 2) := by decide +kernel
theorem dX9_readsMessage_83 : decode cX9_readsMessage 83 = .ok (.aload_n 0, 1) := by decide +kernel
theorem dX9_readsMessage_84 : decode cX9_readsMessage 84 = .ok (.getfield 58, 3) := by decide +kernel
theorem dX9_readsMessage_87 : decode cX9_readsMessage 87 = .ok (.iload 6, 2) := by decide +kernel
theorem dX9_readsMessage_89 : decode cX9_readsMessage 89 = .ok (.iaload, 1) := by decide +kernel
theorem dX9_readsMessage_90 : decode cX9_readsMessage 90 = .ok (.istore 7, 2) := by decide +kernel
theorem dX9_readsMessage_92 : decode cX9_readsMessage 92 = .ok (.aload_n 0, 1) := by decide +kernel
theorem dX9_readsMessage_93 : decode cX9_readsMessage 93 = .ok (.iload 7, 2) := by decide +kernel
theorem dX9_readsMessage_95 : decode cX9_readsMessage 95 = .ok (.invokevirtual 160, 3) := by decide +kernel
theorem dX9_readsMessage_98 : decode cX9_readsMessage 98 = .ok (.aload_n 0, 1) := by decide +kernel
theorem dX9_readsMessage_99 : decode cX9_readsMessage 99 = .ok (.bipush 6, 2) := by decide +kernel
theorem dX9_readsMessage_101 : decode cX9_readsMessage 101 = .ok (.aload_n 0, 1) := by decide +kernel
theorem dX9_readsMessage_102 : decode cX9_readsMessage 102 = .ok (.getfield 187, 3) := by decide +kernel
theorem dX9_readsMessage_105 : decode cX9_readsMessage 105 = .ok (.aload_n 0, 1) := by decide +kernel
theorem dX9_readsMessage_106 : decode cX9_readsMessage 106 = .ok (.getfield 190, 3) := by decide +kernel
theorem dX9_readsMessage_109 : decode cX9_readsMessage 109 = .ok (.iload 7, 2) := by decide +kernel
theorem dX9_readsMessage_111 : decode cX9_readsMessage 111 = .ok (.invokevirtual 140, 3) := by decide +kernel
theorem dX9_readsMessage_114 : decode cX9_readsMessage 114 = .ok (.istore 8, 2) := by decide +kernel
theorem dX9_readsMessage_116 : decode cX9_readsMessage 116 = .ok (.aload_n 0, 1) := by decide +kernel
theorem dX9_readsMessage_117 : decode cX9_readsMessage 117 = .ok (.getfield 67, 3) := by decide +kernel
theorem dX9_readsMessage_120 : decode cX9_readsMessage 120 = .ok (.iload 5, 2) := by decide +kernel
theorem dX9_readsMessage_122 : decode cX9_readsMessage 122 = .ok (.iload 8, 2) := by decide +kernel
theorem dX9_readsMessage_124 : decode cX9_readsMessage 124 = .ok (.iastore, 1) := by decide +kernel
theorem dX9_readsMessage_125 : decode cX9_readsMessage 125 = .ok (.aload_n 0, 1) := by decide +kernel
theorem dX9_readsMessage_126 : decode cX9_readsMessage 126 = .ok (.bipush 6, 2) := by decide +kernel
theorem dX9_readsMessage_128 : decode cX9_readsMessage 128 = .ok (.aload_n 0, 1) := by decide +kernel
theorem dX9_readsMessage_129 : decode cX9_readsMessage 129 = .ok (.getfield 187, 3) := by decide +kernel
theorem dX9_readsMessage_132 : decode cX9_readsMessage 132 = .ok (.aload_n 0, 1) := by decide +kernel
theorem dX9_readsMessage_133 : decode cX9_readsMessage 133 = .ok (.getfield 190, 3) := by decide +kernel
theorem dX9_readsMessage_136 : decode cX9_readsMessage 136 = .ok (.iload 7, 2) := by decide +kernel
theorem dX9_readsMessage_138 : decode cX9_readsMessage 138 = .ok (.iload 8, 2) := by decide +kernel
theorem dX9_readsMessage_140 : decode cX9_readsMessage 140 = .ok (.invokevirtual 144, 3) := by decide +kernel
theorem dX9_readsMessage_143 : decode cX9_readsMessage 143 = .ok (.istore 7, 2) := by decide +kernel
theorem dX9_readsMessage_145 : decode cX9_readsMessage 145 = .ok (.iconst 0, 1) := by decide +kernel
theorem dX9_readsMessage_146 : decode cX9_readsMessage 146 = .ok (.istore 9, 2) := by decide +kernel
theorem dX9_readsMessage_148 : decode cX9_readsMessage 148 = .ok (.iload 7, 2) := by decide +kernel
theorem dX9_readsMessage_150 : decode cX9_readsMessage 150 = .ok (.iload 4, 2) := by decide +kernel
theorem dX9_readsMessage_152 : decode cX9_readsMessage 152 = .ok (.if_icmp .ge 91, 3) := by decide +kernel
theorem dX9_readsMessage_155 : decode cX9_readsMessage 155 = .ok (.iload_n 2, 1) := by decide +kernel
theorem dX9_readsMessage_156 : decode cX9_readsMessage 156 = .ok (.iload_n 3, 1) := by decide +kernel
theorem dX9_readsMessage_157 : decode cX9_readsMessage 157 = .ok (.if_icmp .ne 18, 3) := by decide +kernel
theorem dX9_readsMessage_160 : decode cX9_readsMessage 160 = .ok (.aload_n 0, 1) := by decide +kernel
theorem dX9_readsMessage_161 : decode cX9_readsMessage 161 = .ok (.iconst 5, 1) := by decide +kernel
theorem dX9_readsMessage_162 : decode cX9_readsMessage 162 = .ok (.aload_n 0, 1) := by decide +kernel
theorem dX9_readsMessage_163 : decode cX9_readsMessage 163 = .ok (.getfield 214, 3) := by decide +kernel
theorem dX9_readsMessage_166 : decode cX9_readsMessage 166 = .ok (.aload_n 0, 1) := by decide +kernel
theorem dX9_readsMessage_167 : decode cX9_readsMessage 167 = .ok (.getfield 204, 3) := by decide +kernel
theorem dX9_readsMessage_170 : decode cX9_readsMessage 170 = .ok (.iadd, 1) := by decide +kernel
theorem dX9_readsMessage_171 : decode cX9_readsMessage 171 = .ok (.invokevirtual 176, 3) := by decide +kernel
theorem dX9_readsMessage_174 : decode cX9_readsMessage 174 = .ok (.ireturn, 1) := by decide +kernel
theorem dX9_readsMessage_175 : decode cX9_readsMessage 175 = .ok (.aload_n 0, 1) := by decide +kernel
theorem dX9_readsMessage_176 : decode cX9_readsMessage 176 = .ok (.getfield 187, 3) := by decide +kernel
theorem dX9_readsMessage_179 : decode cX9_readsMessage 179 = .ok (.ifCond .ne 35, 3) := by decide +kernel
theorem dX9_readsMessage_182 : decode cX9_readsMessage 182 = .ok (.iconst 2, 1) := by decide +kernel
theorem dX9_readsMessage_183 : decode cX9_readsMessage 183 = .ok (.iload 7, 2) := by decide +kernel
theorem dX9_readsMessage_185 : decode cX9_readsMessage 185 = .ok (.imul, 1) := by decide +kernel
theorem dX9_readsMessage_186 : decode cX9_readsMessage 186 = .ok (.aload_n 0, 1) := by decide +kernel
theorem dX9_readsMessage_187 : decode cX9_readsMessage 187 = .ok (.getfield 7, 3) := by decide +kernel
theorem dX9_readsMessage_190 : decode cX9_readsMessage 190 = .ok (.aload_n 0, 1) := by decide +kernel
theorem dX9_readsMessage_191 : decode cX9_readsMessage 191 = .ok (.getfield 214, 3) := by decide +kernel
theorem dX9_readsMessage_194 : decode cX9_readsMessage 194 = .ok (.iload_n 2, 1) := by decide +kernel
theorem dX9_readsMessage_195 : decode cX9_readsMessage 195 = .ok (.bipush 8, 2) := by decide +kernel
theorem dX9_readsMessage_197 : decode cX9_readsMessage 197 = .ok (.idiv, 1) := by decide +kernel
theorem dX9_readsMessage_198 : decode cX9_readsMessage 198 = .ok (.iadd, 1) := by decide +kernel
theorem dX9_readsMessage_199 : decode cX9_readsMessage 199 = .ok (.iaload, 1) := by decide +kernel
theorem dX9_readsMessage_200 : decode cX9_readsMessage 200 = .ok (.bipush 7, 2) := by decide +kernel
theorem dX9_readsMessage_202 : decode cX9_readsMessage 202 = .ok (.iload_n 2, 1) := by decide +kernel
theorem dX9_readsMessage_203 : decode cX9_readsMessage 203 = .ok (.bipush 8, 2) := by decide +kernel
theorem dX9_readsMessage_205 : decode cX9_readsMessage 205 = .ok (.irem, 1) := by decide +kernel
theorem dX9_readsMessage_206 : decode cX9_readsMessage 206 = .ok (.isub, 1) := by decide +kernel
theorem dX9_readsMessage_207 : decode cX9_readsMessage 207 = .ok (.ishr, 1) := by decide +kernel
theorem dX9_readsMessage_208 : decode cX9_readsMessage 208 = .ok (.iconst 1, 1) := by decide +kernel
theorem dX9_readsMessage_209 : decode cX9_readsMessage 209 = .ok (.iand, 1) := by decide +kernel
theorem dX9_readsMessage_210 : decode cX9_readsMessage 210 = .ok (.iadd, 1) := by decide +kernel
theorem dX9_readsMessage_211 : decode cX9_readsMessage 211 = .ok (.goto 21, 3) := by decide +kernel
theorem dX9_readsMessage_214 : decode cX9_readsMessage 214 = .ok (.sipush 256, 3) := by decide +kernel
theorem dX9_readsMessage_217 : decode cX9_readsMessage 217 = .ok (.iload 7, 2) := by decide +kernel
theorem dX9_readsMessage_219 : decode cX9_readsMessage 219 = .ok (.imul, 1) := by decide +kernel
theorem dX9_readsMessage_220 : decode cX9_readsMessage 220 = .ok (.aload_n 0, 1) := by decide +kernel
theorem dX9_readsMessage_221 : decode cX9_readsMessage 221 = .ok (.getfield 7, 3) := by decide +kernel
theorem dX9_readsMessage_224 : decode cX9_readsMessage 224 = .ok (.aload_n 0, 1) := by decide +kernel
theorem dX9_readsMessage_225 : decode cX9_readsMessage 225 = .ok (.getfield 214, 3) := by decide +kernel
theorem dX9_readsMessage_228 : decode cX9_readsMessage 228 = .ok (.iload_n 2, 1) := by decide +kernel
theorem dX9_readsMessage_229 : decode cX9_readsMessage 229 = .ok (.iadd, 1) := by decide +kernel
theorem dX9_readsMessage_230 : decode cX9_readsMessage 230 = .ok (.iaload, 1) := by decide +kernel
theorem dX9_readsMessage_231 : decode cX9_readsMessage 231 = .ok (.iadd, 1) := by decide +kernel
theorem dX9_readsMessage_232 : decode cX9_readsMessage 232 = .ok (.istore 7, 2) := by decide +kernel
theorem dX9_readsMessage_234 : decode cX9_readsMessage 234 = .ok (.iinc 2 1, 3) := by decide +kernel
theorem dX9_readsMessage_237 : decode cX9_readsMessage 237 = .ok (.iinc 9 1, 3) := by decide +kernel
theorem dX9_readsMessage_240 : decode cX9_readsMessage 240 = .ok (.goto (-92), 3) := by decide +kernel
theorem dX9_readsMessage_243 : decode cX9_readsMessage 243 = .ok (.aload_n 0, 1) := by decide +kernel
theorem dX9_readsMessage_244 : decode cX9_readsMessage 244 = .ok (.iload 7, 2) := by decide +kernel
theorem dX9_readsMessage_246 : decode cX9_readsMessage 246 = .ok (.invokevirtual 160, 3) := by decide +kernel
theorem dX9_readsMessage_249 : decode cX9_readsMessage 249 = .ok (.aload_n 0, 1) := by decide +kernel
theorem dX9_readsMessage_250 : decode cX9_readsMessage 250 = .ok (.getfield 58, 3) := by decide +kernel
theorem dX9_readsMessage_253 : decode cX9_readsMessage 253 = .ok (.iload 6, 2) := by decide +kernel
theorem dX9_readsMessage_255 : decode cX9_readsMessage 255 = .ok (.iload 7, 2) := by decide +kernel
theorem dX9_readsMessage_257 : decode cX9_readsMessage 257 = .ok (.iastore, 1) := by decide +kernel
theorem dX9_readsMessage_258 : decode cX9_readsMessage 258 = .ok (.aload_n 0, 1) := by decide +kernel
theorem dX9_readsMessage_259 : decode cX9_readsMessage 259 = .ok (.getfield 61, 3) := by decide +kernel
theorem dX9_readsMessage_262 : decode cX9_readsMessage 262 = .ok (.iconst 5, 1) := by decide +kernel
theorem dX9_readsMessage_263 : decode cX9_readsMessage 263 = .ok (.iload 9, 2) := by decide +kernel
theorem dX9_readsMessage_265 : decode cX9_readsMessage 265 = .ok (.aload_n 0, 1) := by decide +kernel
theorem dX9_readsMessage_266 : decode cX9_readsMessage 266 = .ok (.getfield 61, 3) := by decide +kernel
theorem dX9_readsMessage_269 : decode cX9_readsMessage 269 = .ok (.iconst 5, 1) := by decide +kernel
theorem dX9_readsMessage_270 : decode cX9_readsMessage 270 = .ok (.iaload, 1) := by decide +kernel
theorem dX9_readsMessage_271 : decode cX9_readsMessage 271 = .ok (.if_icmp .le 8, 3) := by decide +kernel
theorem dX9_readsMessage_274 : decode cX9_readsMessage 274 = .ok (.iload 9, 2) := by decide +kernel
theorem dX9_readsMessage_276 : decode cX9_readsMessage 276 = .ok (.goto 9, 3) := by decide +kernel
theorem dX9_readsMessage_279 : decode cX9_readsMessage 279 = .ok (.aload_n 0, 1) := by decide +kernel
theorem dX9_readsMessage_280 : decode cX9_readsMessage 280 = .ok (.getfield 61, 3) := by decide +kernel
theorem dX9_readsMessage_283 : decode cX9_readsMessage 283 = .ok (.iconst 5, 1) := by decide +kernel
theorem dX9_readsMessage_284 : decode cX9_readsMessage 284 = .ok (.iaload, 1) := by decide +kernel
theorem dX9_readsMessage_285 : decode cX9_readsMessage 285 = .ok (.iastore, 1) := by decide +kernel
theorem dX9_readsMessage_286 : decode cX9_readsMessage 286 = .ok (.iinc 5 1, 3) := by decide +kernel
theorem dX9_readsMessage_289 : decode cX9_readsMessage 289 = .ok (.goto (-233), 3) := by decide +kernel
theorem dX9_readsMessage_292 : decode cX9_readsMessage 292 = .ok (.aload_n 0, 1) := by decide +kernel
theorem dX9_readsMessage_293 : decode cX9_readsMessage 293 = .ok (.getfield 201, 3) := by decide +kernel
theorem dX9_readsMessage_296 : decode cX9_readsMessage 296 = .ok (.ifCond .ne 9, 3) := by decide +kernel
theorem dX9_readsMessage_299 : decode cX9_readsMessage 299 = .ok (.aload_n 0, 1) := by decide +kernel
theorem dX9_readsMessage_300 : decode cX9_readsMessage 300 = .ok (.iload 4, 2) := by decide +kernel
theorem dX9_readsMessage_302 : decode cX9_readsMessage 302 = .ok (.invokevirtual 160, 3) := by decide +kernel
theorem dX9_readsMessage_305 : decode cX9_readsMessage 305 = .ok (.aload_n 0, 1) := by decide +kernel
theorem dX9_readsMessage_306 : decode cX9_readsMessage 306 = .ok (.getfield 61, 3) := by decide +kernel
theorem dX9_readsMessage_309 : decode cX9_readsMessage 309 = .ok (.iconst 2, 1) := by decide +kernel
theorem dX9_readsMessage_310 : decode cX9_readsMessage 310 = .ok (.aload_n 0, 1) := by decide +kernel
theorem dX9_readsMessage_311 : decode cX9_readsMessage 311 = .ok (.getfield 201, 3) := by decide +kernel
theorem dX9_readsMessage_314 : decode cX9_readsMessage 314 = .ok (.iastore, 1) := by decide +kernel
theorem dX9_readsMessage_315 : decode cX9_readsMessage 315 = .ok (.aload_n 0, 1) := by decide +kernel
theorem dX9_readsMessage_316 : decode cX9_readsMessage 316 = .ok (.getfield 61, 3) := by decide +kernel
theorem dX9_readsMessage_319 : decode cX9_readsMessage 319 = .ok (.iconst 3, 1) := by decide +kernel
theorem dX9_readsMessage_320 : decode cX9_readsMessage 320 = .ok (.iload_n 2, 1) := by decide +kernel
theorem dX9_readsMessage_321 : decode cX9_readsMessage 321 = .ok (.iastore, 1) := by decide +kernel
theorem dX9_readsMessage_322 : decode cX9_readsMessage 322 = .ok (.aload_n 0, 1) := by decide +kernel
theorem dX9_readsMessage_323 : decode cX9_readsMessage 323 = .ok (.getfield 61, 3) := by decide +kernel
theorem dX9_readsMessage_326 : decode cX9_readsMessage 326 = .ok (.iconst 4, 1) := by decide +kernel
theorem dX9_readsMessage_327 : decode cX9_readsMessage 327 = .ok (.aload_n 0, 1) := by decide +kernel
theorem dX9_readsMessage_328 : decode cX9_readsMessage 328 = .ok (.getfield 204, 3) := by decide +kernel
theorem dX9_readsMessage_331 : decode cX9_readsMessage 331 = .ok (.iastore, 1) := by decide +kernel
theorem dX9_readsMessage_332 : decode cX9_readsMessage 332 = .ok (.aload_n 0, 1) := by decide +kernel
theorem dX9_readsMessage_333 : decode cX9_readsMessage 333 = .ok (.getfield 187, 3) := by decide +kernel
theorem dX9_readsMessage_336 : decode cX9_readsMessage 336 = .ok (.ifCond .ne 10, 3) := by decide +kernel
theorem dX9_readsMessage_339 : decode cX9_readsMessage 339 = .ok (.iload_n 2, 1) := by decide +kernel
theorem dX9_readsMessage_340 : decode cX9_readsMessage 340 = .ok (.bipush 8, 2) := by decide +kernel
theorem dX9_readsMessage_342 : decode cX9_readsMessage 342 = .ok (.idiv, 1) := by decide +kernel
