theorem dL_law_0 : decode cL_law 0 = .ok (.aload_n 0, 1) := by decide +kernel
theorem dL_law_1 : decode cL_law 1 = .ok (.invokestatic 115, 3) := by decide +kernel
theorem dL_law_4 : decode cL_law 4 = .ok (.astore_n 1, 1) := by decide +kernel
theorem dL_law_5 : decode cL_law 5 = .ok (.aload_n 1, 1) := by decide +kernel
theorem dL_law_6 : decode cL_law 6 = .ok (.iconst 0, 1) := by decide +kernel
theorem dL_law_7 : decode cL_law 7 = .ok (.invokevirtual 103, 3) := by decide +kernel
theorem dL_law_10 : decode cL_law 10 = .ok (.istore_n 2, 1) := by decide +kernel
theorem dL_law_11 : decode cL_law 11 = .ok (.aload_n 1, 1) := by decide +kernel
theorem dL_law_12 : decode cL_law 12 = .ok (.invokestatic 119, 3) := by decide +kernel
theorem dL_law_15 : decode cL_law 15 = .ok (.astore_n 3, 1) := by decide +kernel
theorem dL_law_16 : decode cL_law 16 = .ok (.iconst 0, 1) := by decide +kernel
theorem dL_law_17 : decode cL_law 17 = .ok (.istore 4, 2) := by decide +kernel
theorem dL_law_19 : decode cL_law 19 = .ok (.iload 4, 2) := by decide +kernel
theorem dL_law_21 : decode cL_law 21 = .ok (.aload_n 1, 1) := by decide +kernel
theorem dL_law_22 : decode cL_law 22 = .ok (.iconst 2, 1) := by decide +kernel
theorem dL_law_23 : decode cL_law 23 = .ok (.invokevirtual 103, 3) := by decide +kernel
theorem dL_law_26 : decode cL_law 26 = .ok (.if_icmp .ge 819, 3) := by decide +kernel
theorem dL_law_29 : decode cL_law 29 = .ok (.aload_n 1, 1) := by decide +kernel
theorem dL_law_30 : decode cL_law 30 = .ok (.iload 4, 2) := by decide +kernel
theorem dL_law_32 : decode cL_law 32 = .ok (.invokestatic 123, 3) := by decide +kernel
theorem dL_law_35 : decode cL_law 35 = .ok (.astore 5, 2) := by decide +kernel
theorem dL_law_37 : decode cL_law 37 = .ok (.iconst 0, 1) := by decide +kernel
theorem dL_law_38 : decode cL_law 38 = .ok (.istore 6, 2) := by decide +kernel
theorem dL_law_40 : decode cL_law 40 = .ok (.iconst 0, 1) := by decide +kernel
theorem dL_law_41 : decode cL_law 41 = .ok (.istore 7, 2) := by decide +kernel
theorem dL_law_43 : decode cL_law 43 = .ok (.iload 7, 2) := by decide +kernel
theorem dL_law_45 : decode cL_law 45 = .ok (.iload_n 2, 1) := by decide +kernel
theorem dL_law_46 : decode cL_law 46 = .ok (.if_icmp .ge 30, 3) := by decide +kernel
theorem dL_law_49 : decode cL_law 49 = .ok (.iload 6, 2) := by decide +kernel
theorem dL_law_51 : decode cL_law 51 = .ok (.aload 5, 2) := by decide +kernel
theorem dL_law_53 : decode cL_law 53 = .ok (.iload 7, 2) := by decide +kernel
theorem dL_law_55 : decode cL_law 55 = .ok (.iaload, 1) := by decide +kernel
theorem dL_law_56 : decode cL_law 56 = .ok (.ifCond .ge 10, 3) := by decide +kernel
theorem dL_law_59 : decode cL_law 59 = .ok (.iconst 1, 1) := by decide +kernel
theorem dL_law_60 : decode cL_law 60 = .ok (.iload 7, 2) := by decide +kernel
theorem dL_law_62 : decode cL_law 62 = .ok (.ishl, 1) := by decide +kernel
theorem dL_law_63 : decode cL_law 63 = .ok (.goto 4, 3) := by decide +kernel
theorem dL_law_66 : decode cL_law 66 = .ok (.iconst 0, 1) := by decide +kernel
theorem dL_law_67 : decode cL_law 67 = .ok (.ior, 1) := by decide +kernel
theorem dL_law_68 : decode cL_law 68 = .ok (.istore 6, 2) := by decide +kernel
theorem dL_law_70 : decode cL_law 70 = .ok (.iinc 7 1, 3) := by decide +kernel
theorem dL_law_73 : decode cL_law 73 = .ok (.goto (-30), 3) := by decide +kernel
theorem dL_law_76 : decode cL_law 76 = .ok (.iconst (-1), 1) := by decide +kernel
theorem dL_law_77 : decode cL_law 77 = .ok (.istore 7, 2) := by decide +kernel
theorem dL_law_79 : decode cL_law 79 = .ok (.iconst 0, 1) := by decide +kernel
theorem dL_law_80 : decode cL_law 80 = .ok (.istore 8, 2) := by decide +kernel
theorem dL_law_82 : decode cL_law 82 = .ok (.iconst 0, 1) := by decide +kernel
theorem dL_law_83 : decode cL_law 83 = .ok (.istore 9, 2) := by decide +kernel
theorem dL_law_85 : decode cL_law 85 = .ok (.iconst 0, 1) := by decide +kernel
theorem dL_law_86 : decode cL_law 86 = .ok (.istore 10, 2) := by decide +kernel
theorem dL_law_88 : decode cL_law 88 = .ok (.iload 10, 2) := by decide +kernel
theorem dL_law_90 : decode cL_law 90 = .ok (.iconst 1, 1) := by decide +kernel
theorem dL_law_91 : decode cL_law 91 = .ok (.iload_n 2, 1) := by decide +kernel
theorem dL_law_92 : decode cL_law 92 = .ok (.ishl, 1) := by decide +kernel
theorem dL_law_93 : decode cL_law 93 = .ok (.if_icmp .ge 385, 3) := by decide +kernel
theorem dL_law_96 : decode cL_law 96 = .ok (.iconst 0, 1) := by decide +kernel
theorem dL_law_97 : decode cL_law 97 = .ok (.istore 11, 2) := by decide +kernel
theorem dL_law_99 : decode cL_law 99 = .ok (.aload_n 3, 1) := by decide +kernel
theorem dL_law_100 : decode cL_law 100 = .ok (.astore 12, 2) := by decide +kernel
theorem dL_law_102 : decode cL_law 102 = .ok (.aload 12, 2) := by decide +kernel
theorem dL_law_104 : decode cL_law 104 = .ok (.arraylength, 1) := by decide +kernel
theorem dL_law_105 : decode cL_law 105 = .ok (.istore 13, 2) := by decide +kernel
theorem dL_law_107 : decode cL_law 107 = .ok (.iconst 0, 1) := by decide +kernel
theorem dL_law_108 : decode cL_law 108 = .ok (.istore 14, 2) := by decide +kernel
theorem dL_law_110 : decode cL_law 110 = .ok (.iload 14, 2) := by decide +kernel
theorem dL_law_112 : decode cL_law 112 = .ok (.iload 13, 2) := by decide +kernel
theorem dL_law_114 : decode cL_law 114 = .ok (.if_icmp .ge 111, 3) := by decide +kernel
theorem dL_law_117 : decode cL_law 117 = .ok (.aload 12, 2) := by decide +kernel
theorem dL_law_119 : decode cL_law 119 = .ok (.iload 14, 2) := by decide +kernel
theorem dL_law_121 : decode cL_law 121 = .ok (.aaload, 1) := by decide +kernel
theorem dL_law_122 : decode cL_law 122 = .ok (.astore 15, 2) := by decide +kernel
theorem dL_law_124 : decode cL_law 124 = .ok (.iload 6, 2) := by decide +kernel
theorem dL_law_126 : decode cL_law 126 = .ok (.iload 10, 2) := by decide +kernel
theorem dL_law_128 : decode cL_law 128 = .ok (.iconst (-1), 1) := by decide +kernel
theorem dL_law_129 : decode cL_law 129 = .ok (.ixor, 1) := by decide +kernel
theorem dL_law_130 : decode cL_law 130 = .ok (.iand, 1) := by decide +kernel
theorem dL_law_131 : decode cL_law 131 = .ok (.ifCond .ne 19, 3) := by decide +kernel
theorem dL_law_134 : decode cL_law 134 = .ok (.aload_n 1, 1) := by decide +kernel
theorem dL_law_135 : decode cL_law 135 = .ok (.aload 15, 2) := by decide +kernel
theorem dL_law_137 : decode cL_law 137 = .ok (.invokestatic 126, 3) := by decide +kernel
theorem dL_law_140 : decode cL_law 140 = .ok (.invokevirtual 130, 3) := by decide +kernel
theorem dL_law_143 : decode cL_law 143 = .ok (.ifCond .ne 7, 3) := by decide +kernel
theorem dL_law_146 : decode cL_law 146 = .ok (.iconst 1, 1) := by decide +kernel
theorem dL_law_147 : decode cL_law 147 = .ok (.goto 4, 3) := by decide +kernel
theorem dL_law_150 : decode cL_law 150 = .ok (.iconst 0, 1) := by decide +kernel
theorem dL_law_151 : decode cL_law 151 = .ok (.istore 16, 2) := by decide +kernel
theorem dL_law_153 : decode cL_law 153 = .ok (.iconst 0, 1) := by decide +kernel
theorem dL_law_154 : decode cL_law 154 = .ok (.istore 17, 2) := by decide +kernel
theorem dL_law_156 : decode cL_law 156 = .ok (.iload 17, 2) := by decide +kernel
theorem dL_law_158 : decode cL_law 158 = .ok (.iload_n 2, 1) := by decide +kernel
theorem dL_law_159 : decode cL_law 159 = .ok (.if_icmp .ge 45, 3) := by decide +kernel
theorem dL_law_162 : decode cL_law 162 = .ok (.iload 16, 2) := by decide +kernel
theorem dL_law_164 : decode cL_law 164 = .ok (.ifCond .eq 40, 3) := by decide +kernel
theorem dL_law_167 : decode cL_law 167 = .ok (.iload 10, 2) := by decide +kernel
theorem dL_law_169 : decode cL_law 169 = .ok (.iload 17, 2) := by decide +kernel
theorem dL_law_171 : decode cL_law 171 = .ok (.ishr, 1) := by decide +kernel
theorem dL_law_172 : decode cL_law 172 = .ok (.iconst 1, 1) := by decide +kernel
theorem dL_law_173 : decode cL_law 173 = .ok (.iand, 1) := by decide +kernel
theorem dL_law_174 : decode cL_law 174 = .ok (.iconst 1, 1) := by decide +kernel
theorem dL_law_175 : decode cL_law 175 = .ok (.if_icmp .eq 16, 3) := by decide +kernel
theorem dL_law_178 : decode cL_law 178 = .ok (.aload 15, 2) := by decide +kernel
theorem dL_law_180 : decode cL_law 180 = .ok (.iload 17, 2) := by decide +kernel
theorem dL_law_182 : decode cL_law 182 = .ok (.iaload, 1) := by decide +kernel
theorem dL_law_183 : decode cL_law 183 = .ok (.aload 5, 2) := by decide +kernel
theorem dL_law_185 : decode cL_law 185 = .ok (.iload 17, 2) := by decide +kernel
theorem dL_law_187 : decode cL_law 187 = .ok (.iaload, 1) := by decide +kernel
theorem dL_law_188 : decode cL_law 188 = .ok (.if_icmp .ne 7, 3) := by decide +kernel
theorem dL_law_191 : decode cL_law 191 = .ok (.iconst 1, 1) := by decide +kernel
theorem dL_law_192 : decode cL_law 192 = .ok (.goto 4, 3) := by decide +kernel
theorem dL_law_195 : decode cL_law 195 = .ok (.iconst 0, 1) := by decide +kernel
theorem dL_law_196 : decode cL_law 196 = .ok (.istore 16, 2) := by decide +kernel
theorem dL_law_198 : decode cL_law 198 = .ok (.iinc 17 1, 3) := by decide +kernel
theorem dL_law_201 : decode cL_law 201 = .ok (.goto (-45), 3) := by decide +kernel
theorem dL_law_204 : decode cL_law 204 = .ok (.iload 11, 2) := by decide +kernel
theorem dL_law_206 : decode cL_law 206 = .ok (.iload 16, 2) := by decide +kernel
theorem dL_law_208 : decode cL_law 208 = .ok (.ifCond .eq 7, 3) := by decide +kernel
theorem dL_law_211 : decode cL_law 211 = .ok (.iconst 1, 1) := by decide +kernel
theorem dL_law_212 : decode cL_law 212 = .ok (.goto 4, 3) := by decide +kernel
theorem dL_law_215 : decode cL_law 215 = .ok (.iconst 0, 1) := by decide +kernel
theorem dL_law_216 : decode cL_law 216 = .ok (.iadd, 1) := by decide +kernel
theorem dL_law_217 : decode cL_law 217 = .ok (.istore 11, 2) := by decide +kernel
theorem dL_law_219 : decode cL_law 219 = .ok (.iinc 14 1, 3) := by decide +kernel
theorem dL_law_222 : decode cL_law 222 = .ok (.goto (-112), 3) := by decide +kernel
theorem dL_law_225 : decode cL_law 225 = .ok (.aload_n 1, 1) := by decide +kernel
theorem dL_law_226 : decode cL_law 226 = .ok (.iload 4, 2) := by decide +kernel
theorem dL_law_228 : decode cL_law 228 = .ok (.iload 10, 2) := by decide +kernel
theorem dL_law_230 : decode cL_law 230 = .ok (.invokevirtual 133, 3) := by decide +kernel
theorem dL_law_233 : decode cL_law 233 = .ok (.iload 11, 2) := by decide +kernel
theorem dL_law_235 : decode cL_law 235 = .ok (.if_icmp .ne 24, 3) := by decide +kernel
theorem dL_law_238 : decode cL_law 238 = .ok (.aload_n 1, 1) := by decide +kernel
theorem dL_law_239 : decode cL_law 239 = .ok (.iload 4, 2) := by decide +kernel
theorem dL_law_241 : decode cL_law 241 = .ok (.iload 10, 2) := by decide +kernel
theorem dL_law_243 : decode cL_law 243 = .ok (.invokevirtual 136, 3) := by decide +kernel
theorem dL_law_246 : decode cL_law 246 = .ok (.iload 11, 2) := by decide +kernel
theorem dL_law_248 : decode cL_law 248 = .ok (.ifCond .le 7, 3) := by decide +kernel
theorem dL_law_251 : decode cL_law 251 = .ok (.iconst 1, 1) := by decide +kernel
theorem dL_law_252 : decode cL_law 252 = .ok (.goto 4, 3) := by decide +kernel
theorem dL_law_255 : decode cL_law 255 = .ok (.iconst 0, 1) := by decide +kernel
theorem dL_law_256 : decode cL_law 256 = .ok (.if_icmp .eq 5, 3) := by decide +kernel
theorem dL_law_259 : decode cL_law 259 = .ok (.iconst 0, 1) := by decide +kernel
theorem dL_law_260 : decode cL_law 260 = .ok (.ireturn, 1) := by decide +kernel
theorem dL_law_261 : decode cL_law 261 = .ok (.iload 6, 2) := by decide +kernel
theorem dL_law_263 : decode cL_law 263 = .ok (.ifCond .ne 74, 3) := by decide +kernel
theorem dL_law_266 : decode cL_law 266 = .ok (.iconst 1, 1) := by decide +kernel
theorem dL_law_267 : decode cL_law 267 = .ok (.istore 12, 2) := by decide +kernel
theorem dL_law_269 : decode cL_law 269 = .ok (.iconst 0, 1) := by decide +kernel
theorem dL_law_270 : decode cL_law 270 = .ok (.istore 13, 2) := by decide +kernel
theorem dL_law_272 : decode cL_law 272 = .ok (.aload_n 1, 1) := by decide +kernel
theorem dL_law_273 : decode cL_law 273 = .ok (.iload 4, 2) := by decide +kernel
theorem dL_law_275 : decode cL_law 275 = .ok (.iload 13, 2) := by decide +kernel
theorem dL_law_277 : decode cL_law 277 = .ok (.invokevirtual 140, 3) := by decide +kernel
theorem dL_law_280 : decode cL_law 280 = .ok (.ifCond .lt 40, 3) := by decide +kernel
theorem dL_law_283 : decode cL_law 283 = .ok (.iload 12, 2) := by decide +kernel
theorem dL_law_285 : decode cL_law 285 = .ok (.ifCond .eq 26, 3) := by decide +kernel
theorem dL_law_288 : decode cL_law 288 = .ok (.aload_n 1, 1) := by decide +kernel
theorem dL_law_289 : decode cL_law 289 = .ok (.aload_n 1, 1) := by decide +kernel
theorem dL_law_290 : decode cL_law 290 = .ok (.iload 4, 2) := by decide +kernel
theorem dL_law_292 : decode cL_law 292 = .ok (.iload 13, 2) := by decide +kernel
theorem dL_law_294 : decode cL_law 294 = .ok (.invokevirtual 140, 3) := by decide +kernel
theorem dL_law_297 : decode cL_law 297 = .ok (.iconst (-1), 1) := by decide +kernel
theorem dL_law_298 : decode cL_law 298 = .ok (.invokevirtual 143, 3) := by decide +kernel
theorem dL_law_301 : decode cL_law 301 = .ok (.iload 10, 2) := by decide +kernel
theorem dL_law_303 : decode cL_law 303 = .ok (.iand, 1) := by decide +kernel
theorem dL_law_304 : decode cL_law 304 = .ok (.ifCond .eq 7, 3) := by decide +kernel
theorem dL_law_307 : decode cL_law 307 = .ok (.iconst 1, 1) := by decide +kernel
theorem dL_law_308 : decode cL_law 308 = .ok (.goto 4, 3) := by decide +kernel
theorem dL_law_311 : decode cL_law 311 = .ok (.iconst 0, 1) := by decide +kernel
theorem dL_law_312 : decode cL_law 312 = .ok (.istore 12, 2) := by decide +kernel
theorem dL_law_314 : decode cL_law 314 = .ok (.iinc 13 1, 3) := by decide +kernel
theorem dL_law_317 : decode cL_law 317 = .ok (.goto (-45), 3) := by decide +kernel
theorem dL_law_320 : decode cL_law 320 = .ok (.iload 12, 2) := by decide +kernel
theorem dL_law_322 : decode cL_law 322 = .ok (.iload 11, 2) := by decide +kernel
theorem dL_law_324 : decode cL_law 324 = .ok (.ifCond .le 7, 3) := by decide +kernel
theorem dL_law_327 : decode cL_law 327 = .ok (.iconst 1, 1) := by decide +kernel
theorem dL_law_328 : decode cL_law 328 = .ok (.goto 4, 3) := by decide +kernel
theorem dL_law_331 : decode cL_law 331 = .ok (.iconst 0, 1) := by decide +kernel
theorem dL_law_332 : decode cL_law 332 = .ok (.if_icmp .eq 5, 3) := by decide +kernel
theorem dL_law_335 : decode cL_law 335 = .ok (.iconst 0, 1) := by decide +kernel
theorem dL_law_336 : decode cL_law 336 = .ok (.ireturn, 1) := by decide +kernel
theorem dL_law_337 : decode cL_law 337 = .ok (.iload 11, 2) := by decide +kernel
theorem dL_law_339 : decode cL_law 339 = .ok (.ifCond .ne 6, 3) := by decide +kernel
theorem dL_law_342 : decode cL_law 342 = .ok (.goto 130, 3) := by decide +kernel
theorem dL_law_345 : decode cL_law 345 = .ok (.iconst 0, 1) := by decide +kernel
theorem dL_law_346 : decode cL_law 346 = .ok (.istore 12, 2) := by decide +kernel
theorem dL_law_348 : decode cL_law 348 = .ok (.iconst 0, 1) := by decide +kernel
theorem dL_law_349 : decode cL_law 349 = .ok (.istore 13, 2) := by decide +kernel
theorem dL_law_351 : decode cL_law 351 = .ok (.iload 13, 2) := by decide +kernel
theorem dL_law_353 : decode cL_law 353 = .ok (.iload_n 2, 1) := by decide +kernel
theorem dL_law_354 : decode cL_law 354 = .ok (.if_icmp .ge 29, 3) := by decide +kernel
theorem dL_law_357 : decode cL_law 357 = .ok (.iload 12, 2) := by decide +kernel
theorem dL_law_359 : decode cL_law 359 = .ok (.iload 10, 2) := by decide +kernel
theorem dL_law_361 : decode cL_law 361 = .ok (.iload 13, 2) := by decide +kernel
theorem dL_law_363 : decode cL_law 363 = .ok (.ishr, 1) := by decide +kernel
theorem dL_law_364 : decode cL_law 364 = .ok (.iconst 1, 1) := by decide +kernel
theorem dL_law_365 : decode cL_law 365 = .ok (.iand, 1) := by decide +kernel
theorem dL_law_366 : decode cL_law 366 = .ok (.aload_n 1, 1) := by decide +kernel
theorem dL_law_367 : decode cL_law 367 = .ok (.iload 13, 2) := by decide +kernel
theorem dL_law_369 : decode cL_law 369 = .ok (.iconst 1, 1) := by decide +kernel
theorem dL_law_370 : decode cL_law 370 = .ok (.invokevirtual 108, 3) := by decide +kernel
theorem dL_law_373 : decode cL_law 373 = .ok (.imul, 1) := by decide +kernel
theorem dL_law_374 : decode cL_law 374 = .ok (.iadd, 1) := by decide +kernel
theorem dL_law_375 : decode cL_law 375 = .ok (.istore 12, 2) := by decide +kernel
theorem dL_law_377 : decode cL_law 377 = .ok (.iinc 13 1, 3) := by decide +kernel
theorem dL_law_380 : decode cL_law 380 = .ok (.goto (-29), 3) := by decide +kernel
theorem dL_law_383 : decode cL_law 383 = .ok (.iload 7, 2) := by decide +kernel
theorem dL_law_385 : decode cL_law 385 = .ok (.ifCond .lt 30, 3) := by decide +kernel
theorem dL_law_388 : decode cL_law 388 = .ok (.iload 12, 2) := by decide +kernel
theorem dL_law_390 : decode cL_law 390 = .ok (.iload 8, 2) := by decide +kernel
theorem dL_law_392 : decode cL_law 392 = .ok (.if_icmp .lt 23, 3) := by decide +kernel
theorem dL_law_395 : decode cL_law 395 = .ok (.iload 12, 2) := by decide +kernel
theorem dL_law_397 : decode cL_law 397 = .ok (.iload 8, 2) := by decide +kernel
theorem dL_law_399 : decode cL_law 399 = .ok (.if_icmp .ne 20, 3) := by decide +kernel
theorem dL_law_402 : decode cL_law 402 = .ok (.iload 10, 2) := by decide +kernel
theorem dL_law_404 : decode cL_law 404 = .ok (.invokestatic 146, 3) := by decide +kernel
theorem dL_law_407 : decode cL_law 407 = .ok (.iload 7, 2) := by decide +kernel
theorem dL_law_409 : decode cL_law 409 = .ok (.invokestatic 146, 3) := by decide +kernel
theorem dL_law_412 : decode cL_law 412 = .ok (.if_icmp .ge 7, 3) := by decide +kernel
theorem dL_law_415 : decode cL_law 415 = .ok (.iconst 1, 1) := by decide +kernel
theorem dL_law_416 : decode cL_law 416 = .ok (.goto 4, 3) := by decide +kernel
theorem dL_law_419 : decode cL_law 419 = .ok (.iconst 0, 1) := by decide +kernel
theorem dL_law_420 : decode cL_law 420 = .ok (.istore 13, 2) := by decide +kernel
theorem dL_law_422 : decode cL_law 422 = .ok (.iload 7, 2) := by decide +kernel
theorem dL_law_424 : decode cL_law 424 = .ok (.ifCond .lt 10, 3) := by decide +kernel
theorem dL_law_427 : decode cL_law 427 = .ok (.iload 12, 2) := by decide +kernel
theorem dL_law_429 : decode cL_law 429 = .ok (.iload 8, 2) := by decide +kernel
theorem dL_law_431 : decode cL_law 431 = .ok (.if_icmp .ge 7, 3) := by decide +kernel
theorem dL_law_434 : decode cL_law 434 = .ok (.iconst 1, 1) := by decide +kernel
theorem dL_law_435 : decode cL_law 435 = .ok (.goto 19, 3) := by decide +kernel
theorem dL_law_438 : decode cL_law 438 = .ok (.iload 12, 2) := by decide +kernel
theorem dL_law_440 : decode cL_law 440 = .ok (.iload 8, 2) := by decide +kernel
theorem dL_law_442 : decode cL_law 442 = .ok (.if_icmp .ne 10, 3) := by decide +kernel
theorem dL_law_445 : decode cL_law 445 = .ok (.iload 9, 2) := by decide +kernel
theorem dL_law_447 : decode cL_law 447 = .ok (.iconst 1, 1) := by decide +kernel
theorem dL_law_448 : decode cL_law 448 = .ok (.iadd, 1) := by decide +kernel
theorem dL_law_449 : decode cL_law 449 = .ok (.goto 5, 3) := by decide +kernel
theorem dL_law_452 : decode cL_law 452 = .ok (.iload 9, 2) := by decide +kernel
theorem dL_law_454 : decode cL_law 454 = .ok (.istore 9, 2) := by decide +kernel
theorem dL_law_456 : decode cL_law 456 = .ok (.iload 13, 2) := by decide +kernel
theorem dL_law_458 : decode cL_law 458 = .ok (.ifCond .ne 6, 3) := by decide +kernel
theorem dL_law_461 : decode cL_law 461 = .ok (.goto 11, 3) := by decide +kernel
theorem dL_law_464 : decode cL_law 464 = .ok (.iload 10, 2) := by decide +kernel
theorem dL_law_466 : decode cL_law 466 = .ok (.istore 7, 2) := by decide +kernel
theorem dL_law_468 : decode cL_law 468 = .ok (.iload 12, 2) := by decide +kernel
theorem dL_law_470 : decode cL_law 470 = .ok (.istore 8, 2) := by decide +kernel
theorem dL_law_472 : decode cL_law 472 = .ok (.iinc 10 1, 3) := by decide +kernel
theorem dL_law_475 : decode cL_law 475 = .ok (.goto (-387), 3) := by decide +kernel
theorem dL_law_478 : decode cL_law 478 = .ok (.aload_n 1, 1) := by decide +kernel
theorem dL_law_479 : decode cL_law 479 = .ok (.iload 4, 2) := by decide +kernel
theorem dL_law_481 : decode cL_law 481 = .ok (.iconst 0, 1) := by decide +kernel
theorem dL_law_482 : decode cL_law 482 = .ok (.invokevirtual 151, 3) := by decide +kernel
theorem dL_law_485 : decode cL_law 485 = .ok (.iload 7, 2) := by decide +kernel
theorem dL_law_487 : decode cL_law 487 = .ok (.if_icmp .ne 36, 3) := by decide +kernel
theorem dL_law_490 : decode cL_law 490 = .ok (.aload_n 1, 1) := by decide +kernel
theorem dL_law_491 : decode cL_law 491 = .ok (.iload 4, 2) := by decide +kernel
theorem dL_law_493 : decode cL_law 493 = .ok (.iconst 1, 1) := by decide +kernel
theorem dL_law_494 : decode cL_law 494 = .ok (.invokevirtual 151, 3) := by decide +kernel
theorem dL_law_497 : decode cL_law 497 = .ok (.iload 7, 2) := by decide +kernel
theorem dL_law_499 : decode cL_law 499 = .ok (.ifCond .ge 7, 3) := by decide +kernel
theorem dL_law_502 : decode cL_law 502 = .ok (.iconst (-1), 1) := by decide +kernel
theorem dL_law_503 : decode cL_law 503 = .ok (.goto 5, 3) := by decide +kernel
theorem dL_law_506 : decode cL_law 506 = .ok (.iload 8, 2) := by decide +kernel
theorem dL_law_508 : decode cL_law 508 = .ok (.if_icmp .ne 15, 3) := by decide +kernel
theorem dL_law_511 : decode cL_law 511 = .ok (.aload_n 1, 1) := by decide +kernel
theorem dL_law_512 : decode cL_law 512 = .ok (.iload 4, 2) := by decide +kernel
theorem dL_law_514 : decode cL_law 514 = .ok (.iconst 2, 1) := by decide +kernel
theorem dL_law_515 : decode cL_law 515 = .ok (.invokevirtual 151, 3) := by decide +kernel
theorem dL_law_518 : decode cL_law 518 = .ok (.iload 9, 2) := by decide +kernel
theorem dL_law_520 : decode cL_law 520 = .ok (.if_icmp .eq 5, 3) := by decide +kernel
theorem dL_law_523 : decode cL_law 523 = .ok (.iconst 0, 1) := by decide +kernel
theorem dL_law_524 : decode cL_law 524 = .ok (.ireturn, 1) := by decide +kernel
theorem dL_law_525 : decode cL_law 525 = .ok (.iconst 0, 1) := by decide +kernel
theorem dL_law_526 : decode cL_law 526 = .ok (.istore 10, 2) := by decide +kernel
theorem dL_law_528 : decode cL_law 528 = .ok (.aload_n 1, 1) := by decide +kernel
theorem dL_law_529 : decode cL_law 529 = .ok (.iload 4, 2) := by decide +kernel
theorem dL_law_531 : decode cL_law 531 = .ok (.iload 10, 2) := by decide +kernel
theorem dL_law_533 : decode cL_law 533 = .ok (.invokevirtual 154, 3) := by decide +kernel
theorem dL_law_536 : decode cL_law 536 = .ok (.ifCond .lt 54, 3) := by decide +kernel
theorem dL_law_539 : decode cL_law 539 = .ok (.aload_n 1, 1) := by decide +kernel
theorem dL_law_540 : decode cL_law 540 = .ok (.iload 4, 2) := by decide +kernel
theorem dL_law_542 : decode cL_law 542 = .ok (.aload_n 1, 1) := by decide +kernel
theorem dL_law_543 : decode cL_law 543 = .ok (.iload 4, 2) := by decide +kernel
theorem dL_law_545 : decode cL_law 545 = .ok (.iload 10, 2) := by decide +kernel
theorem dL_law_547 : decode cL_law 547 = .ok (.invokevirtual 154, 3) := by decide +kernel
theorem dL_law_550 : decode cL_law 550 = .ok (.invokevirtual 136, 3) := by decide +kernel
theorem dL_law_553 : decode cL_law 553 = .ok (.ifCond .eq 29, 3) := by decide +kernel
theorem dL_law_556 : decode cL_law 556 = .ok (.iload 10, 2) := by decide +kernel
theorem dL_law_558 : decode cL_law 558 = .ok (.ifCond .le 26, 3) := by decide +kernel
theorem dL_law_561 : decode cL_law 561 = .ok (.aload_n 1, 1) := by decide +kernel
theorem dL_law_562 : decode cL_law 562 = .ok (.iload 4, 2) := by decide +kernel
theorem dL_law_564 : decode cL_law 564 = .ok (.iload 10, 2) := by decide +kernel
theorem dL_law_566 : decode cL_law 566 = .ok (.invokevirtual 154, 3) := by decide +kernel
theorem dL_law_569 : decode cL_law 569 = .ok (.aload_n 1, 1) := by decide +kernel
theorem dL_law_570 : decode cL_law 570 = .ok (.iload 4, 2) := by decide +kernel
theorem dL_law_572 : decode cL_law 572 = .ok (.iload 10, 2) := by decide +kernel
theorem dL_law_574 : decode cL_law 574 = .ok (.iconst 1, 1) := by decide +kernel
theorem dL_law_575 : decode cL_law 575 = .ok (.isub, 1) := by decide +kernel
theorem dL_law_576 : decode cL_law 576 = .ok (.invokevirtual 154, 3) := by decide +kernel
theorem dL_law_579 : decode cL_law 579 = .ok (.if_icmp .gt 5, 3) := by decide +kernel
theorem dL_law_582 : decode cL_law 582 = .ok (.iconst 0, 1) := by decide +kernel
theorem dL_law_583 : decode cL_law 583 = .ok (.ireturn, 1) := by decide +kernel
theorem dL_law_584 : decode cL_law 584 = .ok (.iinc 10 1, 3) := by decide +kernel
theorem dL_law_587 : decode cL_law 587 = .ok (.goto (-59), 3) := by decide +kernel
theorem dL_law_590 : decode cL_law 590 = .ok (.iload 10, 2) := by decide +kernel
theorem dL_law_592 : decode cL_law 592 = .ok (.iload 9, 2) := by decide +kernel
theorem dL_law_594 : decode cL_law 594 = .ok (.if_icmp .eq 5, 3) := by decide +kernel
theorem dL_law_597 : decode cL_law 597 = .ok (.iconst 0, 1) := by decide +kernel
theorem dL_law_598 : decode cL_law 598 = .ok (.ireturn, 1) := by decide +kernel
theorem dL_law_599 : decode cL_law 599 = .ok (.iconst 0, 1) := by decide +kernel
theorem dL_law_600 : decode cL_law 600 = .ok (.istore 11, 2) := by decide +kernel
theorem dL_law_602 : decode cL_law 602 = .ok (.iload 11, 2) := by decide +kernel
theorem dL_law_604 : decode cL_law 604 = .ok (.iload_n 2, 1) := by decide +kernel
theorem dL_law_605 : decode cL_law 605 = .ok (.if_icmp .ge 107, 3) := by decide +kernel
theorem dL_law_608 : decode cL_law 608 = .ok (.iload 7, 2) := by decide +kernel
theorem dL_law_610 : decode cL_law 610 = .ok (.ifCond .lt 102, 3) := by decide +kernel
theorem dL_law_613 : decode cL_law 613 = .ok (.aload_n 1, 1) := by decide +kernel
theorem dL_law_614 : decode cL_law 614 = .ok (.iload 4, 2) := by decide +kernel
theorem dL_law_616 : decode cL_law 616 = .ok (.iload 7, 2) := by decide +kernel
theorem dL_law_618 : decode cL_law 618 = .ok (.iload 11, 2) := by decide +kernel
theorem dL_law_620 : decode cL_law 620 = .ok (.invokevirtual 157, 3) := by decide +kernel
theorem dL_law_623 : decode cL_law 623 = .ok (.istore 12, 2) := by decide +kernel
theorem dL_law_625 : decode cL_law 625 = .ok (.iload 7, 2) := by decide +kernel
theorem dL_law_627 : decode cL_law 627 = .ok (.iload 11, 2) := by decide +kernel
theorem dL_law_629 : decode cL_law 629 = .ok (.ishr, 1) := by decide +kernel
theorem dL_law_630 : decode cL_law 630 = .ok (.iconst 1, 1) := by decide +kernel
theorem dL_law_631 : decode cL_law 631 = .ok (.iand, 1) := by decide +kernel
theorem dL_law_632 : decode cL_law 632 = .ok (.iconst 1, 1) := by decide +kernel
theorem dL_law_633 : decode cL_law 633 = .ok (.if_icmp .ne 16, 3) := by decide +kernel
theorem dL_law_636 : decode cL_law 636 = .ok (.iload 12, 2) := by decide +kernel
theorem dL_law_638 : decode cL_law 638 = .ok (.invokestatic 146, 3) := by decide +kernel
theorem dL_law_641 : decode cL_law 641 = .ok (.iconst 1, 1) := by decide +kernel
theorem dL_law_642 : decode cL_law 642 = .ok (.if_icmp .ne 7, 3) := by decide +kernel
theorem dL_law_645 : decode cL_law 645 = .ok (.iconst 1, 1) := by decide +kernel
theorem dL_law_646 : decode cL_law 646 = .ok (.goto 4, 3) := by decide +kernel
theorem dL_law_649 : decode cL_law 649 = .ok (.iconst 0, 1) := by decide +kernel
theorem dL_law_650 : decode cL_law 650 = .ok (.istore 13, 2) := by decide +kernel
theorem dL_law_652 : decode cL_law 652 = .ok (.iload 12, 2) := by decide +kernel
theorem dL_law_654 : decode cL_law 654 = .ok (.ifCond .eq 50, 3) := by decide +kernel
theorem dL_law_657 : decode cL_law 657 = .ok (.iload 13, 2) := by decide +kernel
theorem dL_law_659 : decode cL_law 659 = .ok (.aload_n 1, 1) := by decide +kernel
theorem dL_law_660 : decode cL_law 660 = .ok (.iload 4, 2) := by decide +kernel
theorem dL_law_662 : decode cL_law 662 = .ok (.invokevirtual 161, 3) := by decide +kernel
theorem dL_law_665 : decode cL_law 665 = .ok (.iload 11, 2) := by decide +kernel
theorem dL_law_667 : decode cL_law 667 = .ok (.ishr, 1) := by decide +kernel
theorem dL_law_668 : decode cL_law 668 = .ok (.iconst 1, 1) := by decide +kernel
theorem dL_law_669 : decode cL_law 669 = .ok (.iand, 1) := by decide +kernel
theorem dL_law_670 : decode cL_law 670 = .ok (.iconst 1, 1) := by decide +kernel
theorem dL_law_671 : decode cL_law 671 = .ok (.if_icmp .ne 7, 3) := by decide +kernel
theorem dL_law_674 : decode cL_law 674 = .ok (.iconst 1, 1) := by decide +kernel
theorem dL_law_675 : decode cL_law 675 = .ok (.goto 4, 3) := by decide +kernel
theorem dL_law_678 : decode cL_law 678 = .ok (.iconst 0, 1) := by decide +kernel
theorem dL_law_679 : decode cL_law 679 = .ok (.if_icmp .ne 25, 3) := by decide +kernel
theorem dL_law_682 : decode cL_law 682 = .ok (.iload 7, 2) := by decide +kernel
theorem dL_law_684 : decode cL_law 684 = .ok (.iload 11, 2) := by decide +kernel
theorem dL_law_686 : decode cL_law 686 = .ok (.ishr, 1) := by decide +kernel
theorem dL_law_687 : decode cL_law 687 = .ok (.iconst 1, 1) := by decide +kernel
theorem dL_law_688 : decode cL_law 688 = .ok (.iand, 1) := by decide +kernel
theorem dL_law_689 : decode cL_law 689 = .ok (.ifCond .ne 17, 3) := by decide +kernel
theorem dL_law_692 : decode cL_law 692 = .ok (.iload 12, 2) := by decide +kernel
theorem dL_law_694 : decode cL_law 694 = .ok (.iconst 1, 1) := by decide +kernel
theorem dL_law_695 : decode cL_law 695 = .ok (.aload 5, 2) := by decide +kernel
theorem dL_law_697 : decode cL_law 697 = .ok (.iload 11, 2) := by decide +kernel
theorem dL_law_699 : decode cL_law 699 = .ok (.iaload, 1) := by decide +kernel
theorem dL_law_700 : decode cL_law 700 = .ok (.ishl, 1) := by decide +kernel
theorem dL_law_701 : decode cL_law 701 = .ok (.if_icmp .eq 5, 3) := by decide +kernel
theorem dL_law_704 : decode cL_law 704 = .ok (.iconst 0, 1) := by decide +kernel
theorem dL_law_705 : decode cL_law 705 = .ok (.ireturn, 1) := by decide +kernel
theorem dL_law_706 : decode cL_law 706 = .ok (.iinc 11 1, 3) := by decide +kernel
theorem dL_law_709 : decode cL_law 709 = .ok (.goto (-107), 3) := by decide +kernel
theorem dL_law_712 : decode cL_law 712 = .ok (.iconst 0, 1) := by decide +kernel
theorem dL_law_713 : decode cL_law 713 = .ok (.istore 11, 2) := by decide +kernel
theorem dL_law_715 : decode cL_law 715 = .ok (.iload 11, 2) := by decide +kernel
theorem dL_law_717 : decode cL_law 717 = .ok (.iconst 3, 1) := by decide +kernel
theorem dL_law_718 : decode cL_law 718 = .ok (.if_icmp .ge 121, 3) := by decide +kernel
theorem dL_law_721 : decode cL_law 721 = .ok (.aload_n 1, 1) := by decide +kernel
theorem dL_law_722 : decode cL_law 722 = .ok (.iload 4, 2) := by decide +kernel
theorem dL_law_724 : decode cL_law 724 = .ok (.iload 11, 2) := by decide +kernel
theorem dL_law_726 : decode cL_law 726 = .ok (.invokevirtual 164, 3) := by decide +kernel
theorem dL_law_729 : decode cL_law 729 = .ok (.istore 12, 2) := by decide +kernel
theorem dL_law_731 : decode cL_law 731 = .ok (.iload 12, 2) := by decide +kernel
theorem dL_law_733 : decode cL_law 733 = .ok (.ifCond .lt 12, 3) := by decide +kernel
theorem dL_law_736 : decode cL_law 736 = .ok (.aload_n 1, 1) := by decide +kernel
theorem dL_law_737 : decode cL_law 737 = .ok (.iload 12, 2) := by decide +kernel
theorem dL_law_739 : decode cL_law 739 = .ok (.invokevirtual 130, 3) := by decide +kernel
theorem dL_law_742 : decode cL_law 742 = .ok (.ifCond .ne 29, 3) := by decide +kernel
theorem dL_law_745 : decode cL_law 745 = .ok (.iload 7, 2) := by decide +kernel
theorem dL_law_747 : decode cL_law 747 = .ok (.ifCond .ge 8, 3) := by decide +kernel
theorem dL_law_750 : decode cL_law 750 = .ok (.iload 12, 2) := by decide +kernel
theorem dL_law_752 : decode cL_law 752 = .ok (.ifCond .ge 19, 3) := by decide +kernel
theorem dL_law_755 : decode cL_law 755 = .ok (.iload 11, 2) := by decide +kernel
theorem dL_law_757 : decode cL_law 757 = .ok (.iconst 2, 1) := by decide +kernel
theorem dL_law_758 : decode cL_law 758 = .ok (.if_icmp .ne 15, 3) := by decide +kernel
theorem dL_law_761 : decode cL_law 761 = .ok (.iload 7, 2) := by decide +kernel
theorem dL_law_763 : decode cL_law 763 = .ok (.ifCond .lt 10, 3) := by decide +kernel
theorem dL_law_766 : decode cL_law 766 = .ok (.iload 12, 2) := by decide +kernel
theorem dL_law_768 : decode cL_law 768 = .ok (.ifCond .ge 5, 3) := by decide +kernel
theorem dL_law_771 : decode cL_law 771 = .ok (.iconst 0, 1) := by decide +kernel
theorem dL_law_772 : decode cL_law 772 = .ok (.ireturn, 1) := by decide +kernel
theorem dL_law_773 : decode cL_law 773 = .ok (.iload 12, 2) := by decide +kernel
theorem dL_law_775 : decode cL_law 775 = .ok (.ifCond .ge 6, 3) := by decide +kernel
theorem dL_law_778 : decode cL_law 778 = .ok (.goto 55, 3) := by decide +kernel
theorem dL_law_781 : decode cL_law 781 = .ok (.iload 12, 2) := by decide +kernel
theorem dL_law_783 : decode cL_law 783 = .ok (.istore 13, 2) := by decide +kernel
theorem dL_law_785 : decode cL_law 785 = .ok (.iload_n 2, 1) := by decide +kernel
theorem dL_law_786 : decode cL_law 786 = .ok (.iconst 1, 1) := by decide +kernel
theorem dL_law_787 : decode cL_law 787 = .ok (.isub, 1) := by decide +kernel
theorem dL_law_788 : decode cL_law 788 = .ok (.istore 14, 2) := by decide +kernel
theorem dL_law_790 : decode cL_law 790 = .ok (.iload 14, 2) := by decide +kernel
theorem dL_law_792 : decode cL_law 792 = .ok (.ifCond .lt 41, 3) := by decide +kernel
theorem dL_law_795 : decode cL_law 795 = .ok (.iload 7, 2) := by decide +kernel
theorem dL_law_797 : decode cL_law 797 = .ok (.iload 14, 2) := by decide +kernel
theorem dL_law_799 : decode cL_law 799 = .ok (.ishr, 1) := by decide +kernel
theorem dL_law_800 : decode cL_law 800 = .ok (.iconst 1, 1) := by decide +kernel
theorem dL_law_801 : decode cL_law 801 = .ok (.iand, 1) := by decide +kernel
theorem dL_law_802 : decode cL_law 802 = .ok (.ifCond .ne 18, 3) := by decide +kernel
theorem dL_law_805 : decode cL_law 805 = .ok (.iload 13, 2) := by decide +kernel
theorem dL_law_807 : decode cL_law 807 = .ok (.bipush 10, 2) := by decide +kernel
theorem dL_law_809 : decode cL_law 809 = .ok (.irem, 1) := by decide +kernel
theorem dL_law_810 : decode cL_law 810 = .ok (.aload 5, 2) := by decide +kernel
theorem dL_law_812 : decode cL_law 812 = .ok (.iload 14, 2) := by decide +kernel
theorem dL_law_814 : decode cL_law 814 = .ok (.iaload, 1) := by decide +kernel
theorem dL_law_815 : decode cL_law 815 = .ok (.if_icmp .eq 5, 3) := by decide +kernel
theorem dL_law_818 : decode cL_law 818 = .ok (.iconst 0, 1) := by decide +kernel
theorem dL_law_819 : decode cL_law 819 = .ok (.ireturn, 1) := by decide +kernel
theorem dL_law_820 : decode cL_law 820 = .ok (.iload 13, 2) := by decide +kernel
theorem dL_law_822 : decode cL_law 822 = .ok (.bipush 10, 2) := by decide +kernel
theorem dL_law_824 : decode cL_law 824 = .ok (.idiv, 1) := by decide +kernel
theorem dL_law_825 : decode cL_law 825 = .ok (.istore 13, 2) := by decide +kernel
theorem dL_law_827 : decode cL_law 827 = .ok (.iinc 14 (-1), 3) := by decide +kernel
theorem dL_law_830 : decode cL_law 830 = .ok (.goto (-40), 3) := by decide +kernel
theorem dL_law_833 : decode cL_law 833 = .ok (.iinc 11 1, 3) := by decide +kernel
theorem dL_law_836 : decode cL_law 836 = .ok (.goto (-121), 3) := by decide +kernel
theorem dL_law_839 : decode cL_law 839 = .ok (.iinc 4 1, 3) := by decide +kernel
theorem dL_law_842 : decode cL_law 842 = .ok (.goto (-823), 3) := by decide +kernel
theorem dL_law_845 : decode cL_law 845 = .ok (.iconst 1, 1) := by decide +kernel
theorem dL_law_846 : decode cL_law 846 = .ok (.ireturn, 1) := by decide +kernel
/-! ===== the law's walk: its world, what is missing, the forms that pass ===== -/
def zEg (c n : Nat) : List zDs := zEf c n ++ [.inr (0, n)]
theorem zEg_e (c n : Nat) : zD ++ zEg c n = (zD ++ zEf c n) ++ [.inr (0, n)] := (List.append_assoc _ _ _).symm
theorem zEg_f (c n : Nat) : (zEg c n).all zfr1 = true := by
  unfold zEg
  rw [List.all_append, zEf_f]
  rfl
theorem zEg_48 (c n : Nat) : (zD ++ zEg c n)[48]? = some (.inr (c + 7, 49)) := by
  rw [zEg_e]
  exact zatL (zEf_48 c n)
theorem zEg_r {c n k : Nat} (hk : k < c) : (zD ++ zEg c n)[49 + k]? = some (.inr (0, n)) := by
  rw [zEg_e]
  exact zatL (zEf_r hk)
theorem zEg_N (c n : Nat) : (zD ++ zEg c n)[49 + c]? = some (.inr (0, n)) := by
  rw [zEg_e, ← zEf_n c n]
  exact zat0
theorem zog_48 (c n : Nat) : zoks (zD ++ zEg c n).length (.ref 48) = true := zoks_of (zEg_48 c n) (by decide)
theorem zog_N (c n : Nat) : zoks (zD ++ zEg c n).length (.ref (49 + c)) = true := zoks_of (zEg_N c n) (by omega)
theorem zog_r {c n k : Nat} (hk : k < c) : zoks (zD ++ zEg c n).length (.ref (49 + k)) = true := zoks_of (zEg_r hk) (by omega)
def bJ (b : Bool) : Int32 := if b then 1 else 0
/-- the class's state, the forms, the row's answers -/
def lwW (S : zSt) (c i : Nat) (σ : zS) : Prop := cI S σ ∧ (∀ j, j < c → ∀ f, f < pn S.1 → σ.1 (49 + j) f = nI (mxv (pq S.1) (pn S.1) j f)) ∧ (∀ e, e < pn S.1 → σ.1 (49 + c) e = nJ (rv (S.2.1.2.1 i) e))
theorem lwW_hi {S : zSt} {c i : Nat} {σ σ' : zS} (h : lwW S c i σ) (hc : cI S σ') (hh : hiE σ σ') : lwW S c i σ' := ⟨hc, fun j hj f hf => by rw [(hh (49 + j) (by omega)).1]; exact h.2.1 j hj f hf, fun e he => by rw [(hh (49 + c) (by omega)).1]; exact h.2.2 e he⟩
def lwB (S : zSt) (c i : Nat) : Prop := menO S ∧ c = mxr (pq S.1) (pn S.1) (pn S.1) ∧ i < S.2.1.1
theorem lwB.c256 {S : zSt} {c i : Nat} (h : lwB S c i) : c ≤ 256 := by
  rw [h.2.1]
  exact mxr_256 h.1.2.1 (fun f hf => (h.1.2.2.1 f hf).2)
theorem lwB.p0 {S : zSt} {c i : Nat} (h : lwB S c i) : pn S.1 ≠ 0 := by
  have := h.1.1
  omega
theorem lwW.rok {S : zSt} {c i : Nat} {σ : zS} (h : lwW S c i σ) (hB : lwB S c i) : rOK S.1 (S.2.1.2.1 i) := (h.1.2.2.1.1.2.2 i hB.2.2).2
theorem nJ_lt0 {r : Nat} (h : r < 2147483648) : nJ r < 0 ↔ r = 0 := by
  cases r with
  | zero => exact ⟨fun _ => rfl, fun _ => by decide⟩
  | succ k =>
    rw [nJ_s1]
    exact ⟨fun z => absurd z (nI_nn (by omega)), fun z => absurd z (Nat.succ_ne_zero k)⟩
theorem nJ_eqv {r v : Nat} (hr : r < 2147483648) (hv : v < 2147483647) : nI v = nJ r ↔ r = v + 1 := by
  cases r with
  | zero =>
    refine ⟨fun z => ?_, fun z => absurd z (by omega)⟩
    have h : nJ 0 < 0 := (nJ_lt0 (by decide)).mpr rfl
    rw [← z] at h
    exact absurd h (nI_nn (by omega))
  | succ k =>
    rw [nJ_s1, nI_eq (by omega) (by omega)]
    omega
theorem rv_lt8 (c f : Nat) : rv c f < 8 := rv_lt c f
theorem lm_one {l : Launch} (hl0 : l.flags = flags0) {S : zSt} {σ : zS} {c i : Nat} (hB : lwB S c i) (hW : lwW S c i σ) {f : Nat} (hf : f < pn S.1) {A B : Nat} : ∀ x, zG x cL_law 18 RL ret ∧ zl0 x = l → zK x 70 43 [(7, .int (nI (f + 1))), (6, .int (nI (rmis (S.2.1.2.1 i) (f + 1)))), (5, .ref (49 + c)), (4, .int (nI i)), (3, .ref 48), (2, .int (nI (pn S.1))), (1, .ref 0), (0, .ref 1041)] [] (zD ++ zEg c (pn S.1)) σ A B → zK x 70 43 [(7, .int (nI f)), (6, .int (nI (rmis (S.2.1.2.1 i) f))), (5, .ref (49 + c)), (4, .int (nI i)), (3, .ref 48), (2, .int (nI (pn S.1))), (1, .ref 0), (0, .ref 1041)] [] (zD ++ zEg c (pn S.1)) σ A B := by
  have hn4 := hB.1.2.1
  have h8 := rv_lt8 (S.2.1.2.1 i) f
  have hor0 : ∀ v : Nat, v = (if rv (S.2.1.2.1 i) f == 0 then 2 ^ f else 0) → nI (rmis (S.2.1.2.1 i) f) ||| nI v = nI (rmis (S.2.1.2.1 i) (f + 1)) := fun v hv => by
    rw [nI_or, hv]
    exact congrArg nI (bS_one (fun f => rv (S.2.1.2.1 i) f == 0) f)
  rintro x ⟨hG, hxl⟩ kk
  subst hxl
  refine z_iload (pc := 43) hG 0 rfl dL_law_43 ?_
  refine z_iload_n (pc := 45) hG 5 rfl rfl dL_law_45 ?_
  refine z_icmp_ge (pc := 46) (tgt := 76) hG dL_law_46 rfl (fun hbr => False.elim ((fun h => nI_nle2 hf (by omega) h) hbr)) (fun _ => ?_)
  refine z_iload (pc := 49) hG 1 rfl dL_law_49 ?_
  refine z_aload (pc := 51) hG 2 rfl dL_law_51 ?_
  refine z_iload (pc := 53) hG 0 rfl dL_law_53 ?_
  refine z_iald (pc := 55) hG (zEg_N _ _) (vp_in_nI hf (by omega)) dL_law_55 ?_
  rw [nI_clamp (show f < 2 ^ 31 by omega), hW.2.2 f hf]
  by_cases h0 : rv (S.2.1.2.1 i) f = 0
  · refine z_if_ge (pc := 56) (tgt := 66) hG dL_law_56 rfl (fun hbr => False.elim ((fun h => Int32.not_lt.mpr h ((nJ_lt0 (by omega)).mpr h0)) hbr)) (fun _ => ?_)
    refine z_iconst (pc := 59) (v := (1 : Int32)) hG (by decide) dL_law_59 ?_
    refine z_iload (pc := 60) hG 0 rfl dL_law_60 ?_
    refine z_ishl (pc := 62) hG dL_law_62 ?_
    rw [show ((1 : Int32) <<< ((nI f) &&& 31)) = (nI (2 ^ f)) from nI_shl (by omega)]
    refine z_goto (pc := 63) (tgt := 67) hG dL_law_63 rfl ?_
    refine z_ior (pc := 67) hG dL_law_67 ?_
    rw [show ((nI (rmis (S.2.1.2.1 i) f)) ||| (nI (2 ^ f))) = (nI (rmis (S.2.1.2.1 i) (f + 1))) from hor0 (2 ^ f) (by rw [h0]; rfl)]
    refine z_istore (pc := 68) (ls' := [(6, .int ((nI (rmis (S.2.1.2.1 i) (f + 1))))), (7, .int ((nI f))), (5, .ref (49 + c)), (4, .int ((nI i))), (3, .ref 48), (2, .int ((nI (pn S.1)))), (1, .ref 0), (0, .ref 1041)]) hG [0, 1, 2, 3, 4, 5, 6, 7] (by decide) rfl dL_law_68 ?_
    refine z_iinc (pc := 70) (v := (nI (f + 1))) (ls' := [(7, .int ((nI (f + 1)))), (6, .int ((nI (rmis (S.2.1.2.1 i) (f + 1))))), (5, .ref (49 + c)), (4, .int ((nI i))), (3, .ref 48), (2, .int ((nI (pn S.1)))), (1, .ref 0), (0, .ref 1041)]) hG 1 rfl [0, 1, 2, 3, 4, 5, 6, 7] (nI_1s) (by decide) rfl dL_law_70 ?_
    refine z_goto (pc := 73) (tgt := 43) hG dL_law_73 rfl ?_
    refine z_sub (ls' := [(7, .int (nI (f + 1))), (6, .int (nI (rmis (S.2.1.2.1 i) (f + 1)))), (5, .ref (49 + c)), (4, .int (nI i)), (3, .ref 48), (2, .int (nI (pn S.1))), (1, .ref 0), (0, .ref 1041)]) [0, 1, 2, 3, 4, 5, 6, 7] rfl ?_
    exact kk
  · refine z_if_ge (pc := 56) (tgt := 66) hG dL_law_56 rfl (fun _ => ?_) (fun hbr => False.elim (hbr (Int32.not_lt.mp (fun h => h0 ((nJ_lt0 (by omega)).mp h)))))
    refine z_iconst (pc := 66) (v := (0 : Int32)) hG (by decide) dL_law_66 ?_
    refine z_ior (pc := 67) hG dL_law_67 ?_
    rw [show ((nI (rmis (S.2.1.2.1 i) f)) ||| (0 : Int32)) = (nI (rmis (S.2.1.2.1 i) (f + 1))) from hor0 0 (if_neg (fun z => h0 (beq_iff_eq.mp z))).symm]
    refine z_istore (pc := 68) (ls' := [(6, .int ((nI (rmis (S.2.1.2.1 i) (f + 1))))), (7, .int ((nI f))), (5, .ref (49 + c)), (4, .int ((nI i))), (3, .ref 48), (2, .int ((nI (pn S.1)))), (1, .ref 0), (0, .ref 1041)]) hG [0, 1, 2, 3, 4, 5, 6, 7] (by decide) rfl dL_law_68 ?_
    refine z_iinc (pc := 70) (v := (nI (f + 1))) (ls' := [(7, .int ((nI (f + 1)))), (6, .int ((nI (rmis (S.2.1.2.1 i) (f + 1))))), (5, .ref (49 + c)), (4, .int ((nI i))), (3, .ref 48), (2, .int ((nI (pn S.1)))), (1, .ref 0), (0, .ref 1041)]) hG 1 rfl [0, 1, 2, 3, 4, 5, 6, 7] (nI_1s) (by decide) rfl dL_law_70 ?_
    refine z_goto (pc := 73) (tgt := 43) hG dL_law_73 rfl ?_
    refine z_sub (ls' := [(7, .int (nI (f + 1))), (6, .int (nI (rmis (S.2.1.2.1 i) (f + 1)))), (5, .ref (49 + c)), (4, .int (nI i)), (3, .ref 48), (2, .int (nI (pn S.1))), (1, .ref 0), (0, .ref 1041)]) [0, 1, 2, 3, 4, 5, 6, 7] rfl ?_
    exact kk
theorem lm_all {l : Launch} (hl0 : l.flags = flags0) {S : zSt} {σ : zS} {c i : Nat} (hB : lwB S c i) (hW : lwW S c i σ) {A B : Nat} : ∀ (q f : Nat), f + q = pn S.1 → ∀ x, zG x cL_law 18 RL ret ∧ zl0 x = l → zK x 70 76 [(7, .int (nI (pn S.1))), (6, .int (nI (rmis (S.2.1.2.1 i) (pn S.1)))), (5, .ref (49 + c)), (4, .int (nI i)), (3, .ref 48), (2, .int (nI (pn S.1))), (1, .ref 0), (0, .ref 1041)] [] (zD ++ zEg c (pn S.1)) σ A B → zK x 70 43 [(7, .int (nI f)), (6, .int (nI (rmis (S.2.1.2.1 i) f))), (5, .ref (49 + c)), (4, .int (nI i)), (3, .ref 48), (2, .int (nI (pn S.1))), (1, .ref 0), (0, .ref 1041)] [] (zD ++ zEg c (pn S.1)) σ A B
  | 0, f, h, x, hx, kk => by
    obtain rfl : f = pn S.1 := h
    have hG := hx.1
    have hn4 := hB.1.2.1
    refine z_iload (pc := 43) hG 0 rfl dL_law_43 ?_
    refine z_iload_n (pc := 45) hG 5 rfl rfl dL_law_45 ?_
    refine z_icmp_ge (pc := 46) (tgt := 76) hG dL_law_46 rfl (fun _ => ?_) (fun hbr => False.elim (hbr (Int32.le_refl _)))
    exact kk
  | q + 1, f, h, x, hx, kk => lm_one hl0 hB hW (by omega) x hx (lm_all hl0 hB hW q (f + 1) (by omega) x hx kk)
theorem fo_beg {l : Launch} (hl0 : l.flags = flags0) {S : zSt} {σ : zS} {c i : Nat} (hB : lwB S c i) (hW : lwW S c i σ) {j w T : Nat} {v7 v8 v9 : Int32} (hj : j < c) {A B : Nat} : ∀ x, zG x cL_law 18 RL ret ∧ zl0 x = l → zK x 70 156 [(17, .int (nI 0)), (16, .int (bJ (mSb (S.2.1.2.1 i) T (pn S.1) && (fs S.1 (mxv (pq S.1) (pn S.1) j) == 0)))), (15, .ref (49 + j)), (14, .int (nI j)), (13, .int (nI c)), (12, .ref 48), (11, .int (nI w)), (10, .int (nI T)), (9, .int v9), (8, .int v8), (7, .int v7), (6, .int (nI (rmis (S.2.1.2.1 i) (pn S.1)))), (5, .ref (49 + c)), (4, .int (nI i)), (3, .ref 48), (2, .int (nI (pn S.1))), (1, .ref 0), (0, .ref 1041)] [] (zD ++ zEg c (pn S.1)) σ A B → zK x 70 110 [(14, .int (nI j)), (13, .int (nI c)), (12, .ref 48), (11, .int (nI w)), (10, .int (nI T)), (9, .int v9), (8, .int v8), (7, .int v7), (6, .int (nI (rmis (S.2.1.2.1 i) (pn S.1)))), (5, .ref (49 + c)), (4, .int (nI i)), (3, .ref 48), (2, .int (nI (pn S.1))), (1, .ref 0), (0, .ref 1041)] [] (zD ++ zEg c (pn S.1)) σ (A + 1) (B + 6) := by
  have hn4 := hB.1.2.1
  have hc256 := hB.c256
  have hO : pOK S.1 := hW.1.1
  have hq : ∀ f, f < pn S.1 → mxv (pq S.1) (pn S.1) j f < pq S.1 f := fun f hf => Nat.mod_lt _ (by have := (hB.1.2.2.1 f hf).1; omega)
  have hD := dga_isD hB.p0 hO hq
  have hfl : fs S.1 (mxv (pq S.1) (pn S.1) j) < 64 := Nat.lt_of_lt_of_le (bS_lt _ _) (Nat.pow_le_pow_right (n := 2) (by decide) hO.2.2.2.1)
  have hml : rmis (S.2.1.2.1 i) (pn S.1) < 32 := Nat.lt_of_lt_of_le (bS_lt _ _) (Nat.pow_le_pow_right (n := 2) (by decide) (show pn S.1 ≤ 5 by omega))
  have hal : rmis (S.2.1.2.1 i) (pn S.1) &&& (T ^^^ 4294967295) < 32 := Nat.lt_of_le_of_lt Nat.and_le_left hml
  rintro x ⟨hG, hxl⟩ kk
  subst hxl
  refine z_iload (pc := 110) hG 0 rfl dL_law_110 ?_
  refine z_iload (pc := 112) hG 1 rfl dL_law_112 ?_
  refine z_icmp_ge (pc := 114) (tgt := 225) hG dL_law_114 rfl (fun hbr => False.elim ((fun h => nI_nle2 hj (by omega) h) hbr)) (fun _ => ?_)
  refine z_aload (pc := 117) hG 2 rfl dL_law_117 ?_
  refine z_iload (pc := 119) hG 0 rfl dL_law_119 ?_
  refine z_aald (pc := 121) hG (zEg_48 _ _) (vp_in_nI hj (by omega)) dL_law_121 ?_
  rw [nI_clamp (show j < 2 ^ 31 by omega)]
  refine z_astore (pc := 122) (ls' := [(15, .ref (49 + j)), (14, .int ((nI j))), (13, .int ((nI c))), (12, .ref 48), (11, .int ((nI w))), (10, .int ((nI T))), (9, .int v9), (8, .int v8), (7, .int v7), (6, .int ((nI (rmis (S.2.1.2.1 i) (pn S.1))))), (5, .ref (49 + c)), (4, .int ((nI i))), (3, .ref 48), (2, .int ((nI (pn S.1)))), (1, .ref 0), (0, .ref 1041)]) hG [0, 1, 2, 3, 4, 5, 6, 7, 8, 9, 10, 11, 12, 13, 14, 15] (by decide) rfl dL_law_122 ?_
  refine z_iload (pc := 124) hG 9 rfl dL_law_124 ?_
  refine z_iload (pc := 126) hG 5 rfl dL_law_126 ?_
  refine z_iconst (pc := 128) (v := (-1 : Int32)) hG (by decide) dL_law_128 ?_
  refine z_ixor (pc := 129) hG dL_law_129 ?_
  rw [nI_m1]
  rw [show (nI T ^^^ nI 4294967295) = (nI (T ^^^ 4294967295)) from nI_xor _ _]
  refine z_iand (pc := 130) hG dL_law_130 ?_
  rw [show ((nI (rmis (S.2.1.2.1 i) (pn S.1))) &&& (nI (T ^^^ 4294967295))) = (nI (rmis (S.2.1.2.1 i) (pn S.1) &&& (T ^^^ 4294967295))) from nI_and _ _]
  by_cases hm0 : rmis (S.2.1.2.1 i) (pn S.1) &&& (T ^^^ 4294967295) = 0
  · have hmS : mSb (S.2.1.2.1 i) T (pn S.1) = true := beq_iff_eq.mpr hm0
    have hms : nI (rmis (S.2.1.2.1 i) (pn S.1) &&& (T ^^^ 4294967295)) = 0 := congrArg nI hm0
    rw [hmS, Bool.true_and] at kk
    refine z_if_ne (pc := 131) (tgt := 150) hG dL_law_131 rfl (fun hbr => False.elim ((fun h => h hms) hbr)) (fun _ => ?_)
    refine z_aload_n (pc := 134) hG 14 rfl rfl dL_law_134 ?_
    refine z_aload (pc := 135) hG 0 rfl dL_law_135 ?_
    refine z_statS (pc := 137) (A' := A + 1) (B' := B + 6) (st2 := [.int ((nI (dga (mxv (pq S.1) (pn S.1) j) (pn S.1)))), .ref 0]) (v := some (.int ((nI (dga (mxv (pq S.1) (pn S.1) j) (pn S.1)))))) hG [.ref (49 + j)] [.ref 0] (c_dig hl0 (zEg_r hj) (by omega) (fun f hf => hW.2.1 j hj f hf)) zy_L_digits w1255 w1254 dL_law_137 rfl (Nat.le_of_ble_eq_true rfl) (Nat.le_refl _) (zand (zo_0 _) rfl) (zand (zog_r hj) (zand rfl (zand rfl (zand (zog_48 _ _) (zand rfl (zand rfl (zand rfl (zand rfl (zand rfl (zand rfl (zand (zog_N _ _) (zand rfl (zand (zog_48 _ _) (zand rfl (zand (zo_0 _) (zand (zoks_hi (by decide)) rfl)))))))))))))))) rfl rfl (Nat.le_of_ble_eq_true rfl) rfl rfl ?_
    refine z_virtS (pc := 140) (A' := A) (B' := B) (st2 := [.int ((nI (fs S.1 (dxt (dga (mxv (pq S.1) (pn S.1) j) (pn S.1)) (pn S.1)))))]) (v := some (.int ((nI (fs S.1 (dxt (dga (mxv (pq S.1) (pn S.1) j) (pn S.1)) (pn S.1))))))) hG [.int ((nI (dga (mxv (pq S.1) (pn S.1) j) (pn S.1))))] [] zc_X10 (zEo_0 _) (q_tried hl0 (zEg_f _ _) hW.1 hD.2.1 hD.1) zy_X10_tried ⟨w214, w215⟩ w213 dL_law_140 rfl (Nat.le_of_ble_eq_true rfl) (Nat.le_refl _) rfl (zand (zog_r hj) (zand rfl (zand rfl (zand (zog_48 _ _) (zand rfl (zand rfl (zand rfl (zand rfl (zand rfl (zand rfl (zand (zog_N _ _) (zand rfl (zand (zog_48 _ _) (zand rfl (zand (zo_0 _) (zand (zoks_hi (by decide)) rfl)))))))))))))))) rfl rfl (Nat.le_of_ble_eq_true rfl) rfl rfl ?_
    rw [show (nI (fs S.1 (dxt (dga (mxv (pq S.1) (pn S.1) j) (pn S.1)) (pn S.1)))) = (nI (fs S.1 (mxv (pq S.1) (pn S.1) j))) from congrArg nI hD.2.2]
    by_cases hfs : fs S.1 (mxv (pq S.1) (pn S.1) j) = 0
    · rw [hfs] at kk
      refine z_if_ne (pc := 143) (tgt := 150) hG dL_law_143 rfl (fun hbr => False.elim ((fun h => h (congrArg nI hfs)) hbr)) (fun _ => ?_)
      refine z_iconst (pc := 146) (v := (1 : Int32)) hG (by decide) dL_law_146 ?_
      refine z_goto (pc := 147) (tgt := 151) hG dL_law_147 rfl ?_
      refine z_istore (pc := 151) (ls' := [(16, .int ((1 : Int32))), (15, .ref (49 + j)), (14, .int ((nI j))), (13, .int ((nI c))), (12, .ref 48), (11, .int ((nI w))), (10, .int ((nI T))), (9, .int v9), (8, .int v8), (7, .int v7), (6, .int ((nI (rmis (S.2.1.2.1 i) (pn S.1))))), (5, .ref (49 + c)), (4, .int ((nI i))), (3, .ref 48), (2, .int ((nI (pn S.1)))), (1, .ref 0), (0, .ref 1041)]) hG [0, 1, 2, 3, 4, 5, 6, 7, 8, 9, 10, 11, 12, 13, 14, 15, 16] (by decide) rfl dL_law_151 ?_
      refine z_iconst (pc := 153) (v := (0 : Int32)) hG (by decide) dL_law_153 ?_
      refine z_istore (pc := 154) (ls' := [(17, .int ((0 : Int32))), (16, .int ((1 : Int32))), (15, .ref (49 + j)), (14, .int ((nI j))), (13, .int ((nI c))), (12, .ref 48), (11, .int ((nI w))), (10, .int ((nI T))), (9, .int v9), (8, .int v8), (7, .int v7), (6, .int ((nI (rmis (S.2.1.2.1 i) (pn S.1))))), (5, .ref (49 + c)), (4, .int ((nI i))), (3, .ref 48), (2, .int ((nI (pn S.1)))), (1, .ref 0), (0, .ref 1041)]) hG [0, 1, 2, 3, 4, 5, 6, 7, 8, 9, 10, 11, 12, 13, 14, 15, 16, 17] (by decide) rfl dL_law_154 ?_
      refine z_sub (ls' := [(17, .int (nI 0)), (16, .int (bJ true)), (15, .ref (49 + j)), (14, .int (nI j)), (13, .int (nI c)), (12, .ref 48), (11, .int (nI w)), (10, .int (nI T)), (9, .int v9), (8, .int v8), (7, .int v7), (6, .int (nI (rmis (S.2.1.2.1 i) (pn S.1)))), (5, .ref (49 + c)), (4, .int (nI i)), (3, .ref 48), (2, .int (nI (pn S.1))), (1, .ref 0), (0, .ref 1041)]) [0, 1, 2, 3, 4, 5, 6, 7, 8, 9, 10, 11, 12, 13, 14, 15, 16, 17] rfl ?_
      exact kk
    · rw [show (fs S.1 (mxv (pq S.1) (pn S.1) j) == 0) = false from beq_eq_false_iff_ne.mpr hfs] at kk
      refine z_if_ne (pc := 143) (tgt := 150) hG dL_law_143 rfl (fun _ => ?_) (fun hbr => False.elim ((nI_neq (by omega) (by decide) hfs) hbr))
      refine z_iconst (pc := 150) (v := (0 : Int32)) hG (by decide) dL_law_150 ?_
      refine z_istore (pc := 151) (ls' := [(16, .int ((0 : Int32))), (15, .ref (49 + j)), (14, .int ((nI j))), (13, .int ((nI c))), (12, .ref 48), (11, .int ((nI w))), (10, .int ((nI T))), (9, .int v9), (8, .int v8), (7, .int v7), (6, .int ((nI (rmis (S.2.1.2.1 i) (pn S.1))))), (5, .ref (49 + c)), (4, .int ((nI i))), (3, .ref 48), (2, .int ((nI (pn S.1)))), (1, .ref 0), (0, .ref 1041)]) hG [0, 1, 2, 3, 4, 5, 6, 7, 8, 9, 10, 11, 12, 13, 14, 15, 16] (by decide) rfl dL_law_151 ?_
      refine z_iconst (pc := 153) (v := (0 : Int32)) hG (by decide) dL_law_153 ?_
      refine z_istore (pc := 154) (ls' := [(17, .int ((0 : Int32))), (16, .int ((0 : Int32))), (15, .ref (49 + j)), (14, .int ((nI j))), (13, .int ((nI c))), (12, .ref 48), (11, .int ((nI w))), (10, .int ((nI T))), (9, .int v9), (8, .int v8), (7, .int v7), (6, .int ((nI (rmis (S.2.1.2.1 i) (pn S.1))))), (5, .ref (49 + c)), (4, .int ((nI i))), (3, .ref 48), (2, .int ((nI (pn S.1)))), (1, .ref 0), (0, .ref 1041)]) hG [0, 1, 2, 3, 4, 5, 6, 7, 8, 9, 10, 11, 12, 13, 14, 15, 16, 17] (by decide) rfl dL_law_154 ?_
      refine z_sub (ls' := [(17, .int (nI 0)), (16, .int (bJ false)), (15, .ref (49 + j)), (14, .int (nI j)), (13, .int (nI c)), (12, .ref 48), (11, .int (nI w)), (10, .int (nI T)), (9, .int v9), (8, .int v8), (7, .int v7), (6, .int (nI (rmis (S.2.1.2.1 i) (pn S.1)))), (5, .ref (49 + c)), (4, .int (nI i)), (3, .ref 48), (2, .int (nI (pn S.1))), (1, .ref 0), (0, .ref 1041)]) [0, 1, 2, 3, 4, 5, 6, 7, 8, 9, 10, 11, 12, 13, 14, 15, 16, 17] rfl ?_
      exact kk
  · have hmS : mSb (S.2.1.2.1 i) T (pn S.1) = false := beq_eq_false_iff_ne.mpr hm0
    have hms : ¬ nI (rmis (S.2.1.2.1 i) (pn S.1) &&& (T ^^^ 4294967295)) = 0 := nI_neq (by omega) (by decide) hm0
    rw [hmS, Bool.false_and] at kk
    refine z_if_ne (pc := 131) (tgt := 150) hG dL_law_131 rfl (fun _ => ?_) (fun hbr => False.elim ((hms) hbr))
    refine z_iconst (pc := 150) (v := (0 : Int32)) hG (by decide) dL_law_150 ?_
    refine z_istore (pc := 151) (ls' := [(16, .int ((0 : Int32))), (15, .ref (49 + j)), (14, .int ((nI j))), (13, .int ((nI c))), (12, .ref 48), (11, .int ((nI w))), (10, .int ((nI T))), (9, .int v9), (8, .int v8), (7, .int v7), (6, .int ((nI (rmis (S.2.1.2.1 i) (pn S.1))))), (5, .ref (49 + c)), (4, .int ((nI i))), (3, .ref 48), (2, .int ((nI (pn S.1)))), (1, .ref 0), (0, .ref 1041)]) hG [0, 1, 2, 3, 4, 5, 6, 7, 8, 9, 10, 11, 12, 13, 14, 15, 16] (by decide) rfl dL_law_151 ?_
    refine z_iconst (pc := 153) (v := (0 : Int32)) hG (by decide) dL_law_153 ?_
    refine z_istore (pc := 154) (ls' := [(17, .int ((0 : Int32))), (16, .int ((0 : Int32))), (15, .ref (49 + j)), (14, .int ((nI j))), (13, .int ((nI c))), (12, .ref 48), (11, .int ((nI w))), (10, .int ((nI T))), (9, .int v9), (8, .int v8), (7, .int v7), (6, .int ((nI (rmis (S.2.1.2.1 i) (pn S.1))))), (5, .ref (49 + c)), (4, .int ((nI i))), (3, .ref 48), (2, .int ((nI (pn S.1)))), (1, .ref 0), (0, .ref 1041)]) hG [0, 1, 2, 3, 4, 5, 6, 7, 8, 9, 10, 11, 12, 13, 14, 15, 16, 17] (by decide) rfl dL_law_154 ?_
    refine z_sub (ls' := [(17, .int (nI 0)), (16, .int (bJ false)), (15, .ref (49 + j)), (14, .int (nI j)), (13, .int (nI c)), (12, .ref 48), (11, .int (nI w)), (10, .int (nI T)), (9, .int v9), (8, .int v8), (7, .int v7), (6, .int (nI (rmis (S.2.1.2.1 i) (pn S.1)))), (5, .ref (49 + c)), (4, .int (nI i)), (3, .ref 48), (2, .int (nI (pn S.1))), (1, .ref 0), (0, .ref 1041)]) [0, 1, 2, 3, 4, 5, 6, 7, 8, 9, 10, 11, 12, 13, 14, 15, 16, 17] rfl ?_
    exact z_wk (Nat.le_add_right _ _) (Nat.le_add_right _ _) kk
