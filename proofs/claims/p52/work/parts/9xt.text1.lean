/-! ===== text: its stretches ===== -/
theorem i2c_ok {c : Nat} (h : c < 256) : ((nI c).toUInt32 % 65536).toInt32 = nI c := (sb_byte c h).2.1
theorem zW1_42 : zW1[42]? = some zDi := by rfl
theorem zW3_42 : zW3[42]? = some zDi := by rfl
theorem zW3_43 : zW3[43]? = some (zSB 44) := by rfl
theorem zW4_43 : zW4[43]? = some (zSB 44) := by rfl
theorem zW4_45 : zW4[45]? = some (.inr (6, 0)) := by rfl
theorem zW8_43 : zW8[43]? = some (zSB 44) := by rfl
theorem zW8_M48 : zstM zW8 48 49 := ⟨rfl, ⟨0, rfl⟩, by decide, by decide, rfl⟩
theorem zW4_S43 : sbIn zW4 43 44 := sbIn_of rfl rfl rfl rfl (by decide) (by decide +kernel) (by decide +kernel) (by decide +kernel) (by decide +kernel)
theorem zW8_S43 : sbIn zW8 43 44 := sbIn_of rfl rfl rfl rfl (by decide) (by decide +kernel) (by decide +kernel) (by decide +kernel) (by decide +kernel)
theorem zo42_4 : zoks zW4.length (.ref 42) = true := by rfl
theorem zo43_4 : zoks zW4.length (.ref 43) = true := by rfl
theorem zo45_4 : zoks zW4.length (.ref 45) = true := by rfl
theorem zk42_4 : zok zW4.length (.ref 42) = true := by rfl
theorem zk43_4 : zok zW4.length (.ref 43) = true := by rfl
theorem zk45_4 : zok zW4.length (.ref 45) = true := by rfl
def updN (g : Nat → Nat) (k v : Nat) : Nat → Nat := fun e => if e = k then v else g e
/-- the row of the fields' values: n of them, the first f told -/
def mnR (σ : zS) (n f : Nat) (many : Nat → Nat) : Prop := zLn σ 45 = n ∧ ∀ e, e < f → σ.1 45 e = nI (many e)
theorem mnR_ag {X : List Nat} {N n f : Nat} {σ σ' : zS} {many : Nat → Nat} (h : agX X N σ σ') (hN : 45 < N) (hX : 45 ∉ X) (hm : mnR σ n f many) : mnR σ' n f many := by
  have h1 := h.1 45 hN hX
  exact ⟨by rw [← hm.1]; exact congrArg (fun z => (z 0).toNatClampNeg) h1.2, fun e he => by rw [h1.1]; exact hm.2 e he⟩
theorem dL_text_0 : decode cL_text 0 = .ok (.new 8, 3) := by decide +kernel
theorem dL_text_3 : decode cL_text 3 = .ok (.dup, 1) := by decide +kernel
theorem dL_text_4 : decode cL_text 4 = .ok (.invokespecial 10, 3) := by decide +kernel
theorem dL_text_7 : decode cL_text 7 = .ok (.astore_n 1, 1) := by decide +kernel
theorem dL_text_8 : decode cL_text 8 = .ok (.iconst 2, 1) := by decide +kernel
theorem dL_text_9 : decode cL_text 9 = .ok (.aload_n 0, 1) := by decide +kernel
theorem dL_text_10 : decode cL_text 10 = .ok (.iconst 3, 1) := by decide +kernel
theorem dL_text_11 : decode cL_text 11 = .ok (.invokevirtual 11, 3) := by decide +kernel
theorem dL_text_14 : decode cL_text 14 = .ok (.iadd, 1) := by decide +kernel
theorem dL_text_15 : decode cL_text 15 = .ok (.istore_n 2, 1) := by decide +kernel
theorem dL_text_16 : decode cL_text 16 = .ok (.iload_n 2, 1) := by decide +kernel
theorem dL_text_17 : decode cL_text 17 = .ok (.newarray .int, 2) := by decide +kernel
theorem dL_text_19 : decode cL_text 19 = .ok (.astore_n 3, 1) := by decide +kernel
theorem dL_text_20 : decode cL_text 20 = .ok (.iconst 0, 1) := by decide +kernel
theorem dL_text_21 : decode cL_text 21 = .ok (.istore 4, 2) := by decide +kernel
theorem dL_text_23 : decode cL_text 23 = .ok (.iload 4, 2) := by decide +kernel
theorem dL_text_25 : decode cL_text 25 = .ok (.iload_n 2, 1) := by decide +kernel
theorem dL_text_26 : decode cL_text 26 = .ok (.if_icmp .ge 93, 3) := by decide +kernel
theorem dL_text_29 : decode cL_text 29 = .ok (.aload_n 3, 1) := by decide +kernel
theorem dL_text_30 : decode cL_text 30 = .ok (.iload 4, 2) := by decide +kernel
theorem dL_text_32 : decode cL_text 32 = .ok (.iconst 2, 1) := by decide +kernel
theorem dL_text_33 : decode cL_text 33 = .ok (.aload_n 0, 1) := by decide +kernel
theorem dL_text_34 : decode cL_text 34 = .ok (.iconst 3, 1) := by decide +kernel
theorem dL_text_35 : decode cL_text 35 = .ok (.invokevirtual 11, 3) := by decide +kernel
theorem dL_text_38 : decode cL_text 38 = .ok (.iadd, 1) := by decide +kernel
theorem dL_text_39 : decode cL_text 39 = .ok (.iastore, 1) := by decide +kernel
theorem dL_text_40 : decode cL_text 40 = .ok (.aload_n 1, 1) := by decide +kernel
theorem dL_text_41 : decode cL_text 41 = .ok (.ldc 34, 2) := by decide +kernel
theorem dL_text_43 : decode cL_text 43 = .ok (.invokevirtual 21, 3) := by decide +kernel
theorem dL_text_46 : decode cL_text 46 = .ok (.bipush 112, 2) := by decide +kernel
theorem dL_text_48 : decode cL_text 48 = .ok (.iload 4, 2) := by decide +kernel
theorem dL_text_50 : decode cL_text 50 = .ok (.iadd, 1) := by decide +kernel
theorem dL_text_51 : decode cL_text 51 = .ok (.i2c, 1) := by decide +kernel
theorem dL_text_52 : decode cL_text 52 = .ok (.invokevirtual 36, 3) := by decide +kernel
theorem dL_text_55 : decode cL_text 55 = .ok (.aload_n 0, 1) := by decide +kernel
theorem dL_text_56 : decode cL_text 56 = .ok (.iconst 2, 1) := by decide +kernel
theorem dL_text_57 : decode cL_text 57 = .ok (.invokevirtual 11, 3) := by decide +kernel
theorem dL_text_60 : decode cL_text 60 = .ok (.ifCond .ne 8, 3) := by decide +kernel
theorem dL_text_63 : decode cL_text 63 = .ok (.ldc 39, 2) := by decide +kernel
theorem dL_text_65 : decode cL_text 65 = .ok (.goto 5, 3) := by decide +kernel
theorem dL_text_68 : decode cL_text 68 = .ok (.ldc 41, 2) := by decide +kernel
theorem dL_text_70 : decode cL_text 70 = .ok (.invokevirtual 21, 3) := by decide +kernel
theorem dL_text_73 : decode cL_text 73 = .ok (.aload_n 3, 1) := by decide +kernel
theorem dL_text_74 : decode cL_text 74 = .ok (.iload 4, 2) := by decide +kernel
theorem dL_text_76 : decode cL_text 76 = .ok (.iaload, 1) := by decide +kernel
theorem dL_text_77 : decode cL_text 77 = .ok (.invokevirtual 25, 3) := by decide +kernel
theorem dL_text_80 : decode cL_text 80 = .ok (.pop, 1) := by decide +kernel
theorem dL_text_81 : decode cL_text 81 = .ok (.aload_n 0, 1) := by decide +kernel
theorem dL_text_82 : decode cL_text 82 = .ok (.iconst 2, 1) := by decide +kernel
theorem dL_text_83 : decode cL_text 83 = .ok (.invokevirtual 11, 3) := by decide +kernel
theorem dL_text_86 : decode cL_text 86 = .ok (.ifCond .ne 20, 3) := by decide +kernel
theorem dL_text_89 : decode cL_text 89 = .ok (.aload_n 1, 1) := by decide +kernel
theorem dL_text_90 : decode cL_text 90 = .ok (.ldc 43, 2) := by decide +kernel
theorem dL_text_92 : decode cL_text 92 = .ok (.invokevirtual 21, 3) := by decide +kernel
theorem dL_text_95 : decode cL_text 95 = .ok (.iconst 1, 1) := by decide +kernel
theorem dL_text_96 : decode cL_text 96 = .ok (.aload_n 0, 1) := by decide +kernel
theorem dL_text_97 : decode cL_text 97 = .ok (.iconst 4, 1) := by decide +kernel
theorem dL_text_98 : decode cL_text 98 = .ok (.invokevirtual 11, 3) := by decide +kernel
theorem dL_text_101 : decode cL_text 101 = .ok (.iadd, 1) := by decide +kernel
theorem dL_text_102 : decode cL_text 102 = .ok (.invokevirtual 25, 3) := by decide +kernel
theorem dL_text_105 : decode cL_text 105 = .ok (.pop, 1) := by decide +kernel
theorem dL_text_106 : decode cL_text 106 = .ok (.aload_n 1, 1) := by decide +kernel
theorem dL_text_107 : decode cL_text 107 = .ok (.ldc 45, 2) := by decide +kernel
theorem dL_text_109 : decode cL_text 109 = .ok (.invokevirtual 21, 3) := by decide +kernel
theorem dL_text_112 : decode cL_text 112 = .ok (.pop, 1) := by decide +kernel
theorem dL_text_113 : decode cL_text 113 = .ok (.iinc 4 1, 3) := by decide +kernel
theorem dL_text_116 : decode cL_text 116 = .ok (.goto (-93), 3) := by decide +kernel
theorem dL_text_119 : decode cL_text 119 = .ok (.aload_n 0, 1) := by decide +kernel
theorem dL_text_120 : decode cL_text 120 = .ok (.iconst 3, 1) := by decide +kernel
theorem dL_text_121 : decode cL_text 121 = .ok (.invokevirtual 11, 3) := by decide +kernel
theorem dL_text_124 : decode cL_text 124 = .ok (.ifCond .ne 27, 3) := by decide +kernel
theorem dL_text_127 : decode cL_text 127 = .ok (.aload_n 1, 1) := by decide +kernel
theorem dL_text_128 : decode cL_text 128 = .ok (.ldc 47, 2) := by decide +kernel
theorem dL_text_130 : decode cL_text 130 = .ok (.invokevirtual 21, 3) := by decide +kernel
theorem dL_text_133 : decode cL_text 133 = .ok (.bipush 112, 2) := by decide +kernel
theorem dL_text_135 : decode cL_text 135 = .ok (.aload_n 0, 1) := by decide +kernel
theorem dL_text_136 : decode cL_text 136 = .ok (.iload_n 2, 1) := by decide +kernel
theorem dL_text_137 : decode cL_text 137 = .ok (.invokevirtual 11, 3) := by decide +kernel
theorem dL_text_140 : decode cL_text 140 = .ok (.iadd, 1) := by decide +kernel
theorem dL_text_141 : decode cL_text 141 = .ok (.i2c, 1) := by decide +kernel
theorem dL_text_142 : decode cL_text 142 = .ok (.invokevirtual 36, 3) := by decide +kernel
theorem dL_text_145 : decode cL_text 145 = .ok (.ldc 45, 2) := by decide +kernel
theorem dL_text_147 : decode cL_text 147 = .ok (.invokevirtual 21, 3) := by decide +kernel
theorem dL_text_150 : decode cL_text 150 = .ok (.pop, 1) := by decide +kernel
theorem dL_text_151 : decode cL_text 151 = .ok (.aload_n 0, 1) := by decide +kernel
theorem dL_text_152 : decode cL_text 152 = .ok (.iconst 5, 1) := by decide +kernel
theorem dL_text_153 : decode cL_text 153 = .ok (.invokevirtual 11, 3) := by decide +kernel
theorem dL_text_156 : decode cL_text 156 = .ok (.istore 4, 2) := by decide +kernel
theorem dL_text_158 : decode cL_text 158 = .ok (.iconst 0, 1) := by decide +kernel
theorem dL_text_159 : decode cL_text 159 = .ok (.istore 5, 2) := by decide +kernel
theorem dL_text_161 : decode cL_text 161 = .ok (.iload 5, 2) := by decide +kernel
theorem dL_text_163 : decode cL_text 163 = .ok (.iload 4, 2) := by decide +kernel
theorem dL_text_165 : decode cL_text 165 = .ok (.if_icmp .ge 111, 3) := by decide +kernel
theorem dL_text_168 : decode cL_text 168 = .ok (.aload_n 0, 1) := by decide +kernel
theorem dL_text_169 : decode cL_text 169 = .ok (.iload_n 2, 1) := by decide +kernel
theorem dL_text_170 : decode cL_text 170 = .ok (.invokevirtual 11, 3) := by decide +kernel
theorem dL_text_173 : decode cL_text 173 = .ok (.istore 6, 2) := by decide +kernel
theorem dL_text_175 : decode cL_text 175 = .ok (.iload 6, 2) := by decide +kernel
theorem dL_text_177 : decode cL_text 177 = .ok (.iconst 1, 1) := by decide +kernel
theorem dL_text_178 : decode cL_text 178 = .ok (.iadd, 1) := by decide +kernel
theorem dL_text_179 : decode cL_text 179 = .ok (.aload_n 0, 1) := by decide +kernel
theorem dL_text_180 : decode cL_text 180 = .ok (.iload_n 2, 1) := by decide +kernel
theorem dL_text_181 : decode cL_text 181 = .ok (.iconst 1, 1) := by decide +kernel
theorem dL_text_182 : decode cL_text 182 = .ok (.isub, 1) := by decide +kernel
theorem dL_text_183 : decode cL_text 183 = .ok (.invokevirtual 11, 3) := by decide +kernel
theorem dL_text_186 : decode cL_text 186 = .ok (.iadd, 1) := by decide +kernel
theorem dL_text_187 : decode cL_text 187 = .ok (.iload_n 2, 1) := by decide +kernel
theorem dL_text_188 : decode cL_text 188 = .ok (.irem, 1) := by decide +kernel
theorem dL_text_189 : decode cL_text 189 = .ok (.istore 7, 2) := by decide +kernel
theorem dL_text_191 : decode cL_text 191 = .ok (.aload_n 1, 1) := by decide +kernel
theorem dL_text_192 : decode cL_text 192 = .ok (.ldc 49, 2) := by decide +kernel
theorem dL_text_194 : decode cL_text 194 = .ok (.invokevirtual 21, 3) := by decide +kernel
theorem dL_text_197 : decode cL_text 197 = .ok (.bipush 112, 2) := by decide +kernel
theorem dL_text_199 : decode cL_text 199 = .ok (.iload 6, 2) := by decide +kernel
theorem dL_text_201 : decode cL_text 201 = .ok (.iadd, 1) := by decide +kernel
theorem dL_text_202 : decode cL_text 202 = .ok (.i2c, 1) := by decide +kernel
theorem dL_text_203 : decode cL_text 203 = .ok (.invokevirtual 36, 3) := by decide +kernel
theorem dL_text_206 : decode cL_text 206 = .ok (.ldc 51, 2) := by decide +kernel
theorem dL_text_208 : decode cL_text 208 = .ok (.invokevirtual 21, 3) := by decide +kernel
theorem dL_text_211 : decode cL_text 211 = .ok (.aload_n 0, 1) := by decide +kernel
theorem dL_text_212 : decode cL_text 212 = .ok (.aload_n 3, 1) := by decide +kernel
theorem dL_text_213 : decode cL_text 213 = .ok (.iload 6, 2) := by decide +kernel
theorem dL_text_215 : decode cL_text 215 = .ok (.iaload, 1) := by decide +kernel
theorem dL_text_216 : decode cL_text 216 = .ok (.invokestatic 53, 3) := by decide +kernel
theorem dL_text_219 : decode cL_text 219 = .ok (.invokevirtual 21, 3) := by decide +kernel
theorem dL_text_222 : decode cL_text 222 = .ok (.pop, 1) := by decide +kernel
theorem dL_text_223 : decode cL_text 223 = .ok (.aload_n 0, 1) := by decide +kernel
theorem dL_text_224 : decode cL_text 224 = .ok (.iconst 5, 1) := by decide +kernel
theorem dL_text_225 : decode cL_text 225 = .ok (.invokevirtual 11, 3) := by decide +kernel
theorem dL_text_228 : decode cL_text 228 = .ok (.ifCond .le 35, 3) := by decide +kernel
theorem dL_text_231 : decode cL_text 231 = .ok (.aload_n 1, 1) := by decide +kernel
theorem dL_text_232 : decode cL_text 232 = .ok (.ldc 59, 2) := by decide +kernel
theorem dL_text_234 : decode cL_text 234 = .ok (.invokevirtual 21, 3) := by decide +kernel
theorem dL_text_237 : decode cL_text 237 = .ok (.bipush 112, 2) := by decide +kernel
theorem dL_text_239 : decode cL_text 239 = .ok (.iload 7, 2) := by decide +kernel
theorem dL_text_241 : decode cL_text 241 = .ok (.iadd, 1) := by decide +kernel
theorem dL_text_242 : decode cL_text 242 = .ok (.i2c, 1) := by decide +kernel
theorem dL_text_243 : decode cL_text 243 = .ok (.invokevirtual 36, 3) := by decide +kernel
theorem dL_text_246 : decode cL_text 246 = .ok (.ldc 51, 2) := by decide +kernel
theorem dL_text_248 : decode cL_text 248 = .ok (.invokevirtual 21, 3) := by decide +kernel
theorem dL_text_251 : decode cL_text 251 = .ok (.aload_n 0, 1) := by decide +kernel
theorem dL_text_252 : decode cL_text 252 = .ok (.aload_n 3, 1) := by decide +kernel
theorem dL_text_253 : decode cL_text 253 = .ok (.iload 7, 2) := by decide +kernel
theorem dL_text_255 : decode cL_text 255 = .ok (.iaload, 1) := by decide +kernel
theorem dL_text_256 : decode cL_text 256 = .ok (.invokestatic 53, 3) := by decide +kernel
theorem dL_text_259 : decode cL_text 259 = .ok (.invokevirtual 21, 3) := by decide +kernel
theorem dL_text_262 : decode cL_text 262 = .ok (.pop, 1) := by decide +kernel
theorem dL_text_263 : decode cL_text 263 = .ok (.aload_n 1, 1) := by decide +kernel
theorem dL_text_264 : decode cL_text 264 = .ok (.ldc 45, 2) := by decide +kernel
theorem dL_text_266 : decode cL_text 266 = .ok (.invokevirtual 21, 3) := by decide +kernel
theorem dL_text_269 : decode cL_text 269 = .ok (.pop, 1) := by decide +kernel
theorem dL_text_270 : decode cL_text 270 = .ok (.iinc 5 1, 3) := by decide +kernel
theorem dL_text_273 : decode cL_text 273 = .ok (.goto (-112), 3) := by decide +kernel
theorem dL_text_276 : decode cL_text 276 = .ok (.iconst 2, 1) := by decide +kernel
theorem dL_text_277 : decode cL_text 277 = .ok (.aload_n 0, 1) := by decide +kernel
theorem dL_text_278 : decode cL_text 278 = .ok (.bipush 7, 2) := by decide +kernel
theorem dL_text_280 : decode cL_text 280 = .ok (.invokevirtual 11, 3) := by decide +kernel
theorem dL_text_283 : decode cL_text 283 = .ok (.iadd, 1) := by decide +kernel
theorem dL_text_284 : decode cL_text 284 = .ok (.istore 5, 2) := by decide +kernel
theorem dL_text_286 : decode cL_text 286 = .ok (.iconst 0, 1) := by decide +kernel
theorem dL_text_287 : decode cL_text 287 = .ok (.istore 6, 2) := by decide +kernel
theorem dL_text_289 : decode cL_text 289 = .ok (.iload 6, 2) := by decide +kernel
theorem dL_text_291 : decode cL_text 291 = .ok (.iload 5, 2) := by decide +kernel
theorem dL_text_293 : decode cL_text 293 = .ok (.if_icmp .ge 98, 3) := by decide +kernel
theorem dL_text_296 : decode cL_text 296 = .ok (.aload_n 1, 1) := by decide +kernel
theorem dL_text_297 : decode cL_text 297 = .ok (.invokevirtual 61, 3) := by decide +kernel
theorem dL_text_300 : decode cL_text 300 = .ok (.sipush 370, 3) := by decide +kernel
theorem dL_text_303 : decode cL_text 303 = .ok (.if_icmp .ge 88, 3) := by decide +kernel
theorem dL_text_306 : decode cL_text 306 = .ok (.aload_n 1, 1) := by decide +kernel
theorem dL_text_307 : decode cL_text 307 = .ok (.ldc 65, 2) := by decide +kernel
theorem dL_text_309 : decode cL_text 309 = .ok (.invokevirtual 21, 3) := by decide +kernel
theorem dL_text_312 : decode cL_text 312 = .ok (.pop, 1) := by decide +kernel
theorem dL_text_313 : decode cL_text 313 = .ok (.iconst 0, 1) := by decide +kernel
theorem dL_text_314 : decode cL_text 314 = .ok (.istore 7, 2) := by decide +kernel
theorem dL_text_316 : decode cL_text 316 = .ok (.iload 7, 2) := by decide +kernel
theorem dL_text_318 : decode cL_text 318 = .ok (.iload_n 2, 1) := by decide +kernel
theorem dL_text_319 : decode cL_text 319 = .ok (.if_icmp .ge 59, 3) := by decide +kernel
theorem dL_text_322 : decode cL_text 322 = .ok (.aload_n 1, 1) := by decide +kernel
theorem dL_text_323 : decode cL_text 323 = .ok (.ldc 67, 2) := by decide +kernel
theorem dL_text_325 : decode cL_text 325 = .ok (.invokevirtual 21, 3) := by decide +kernel
theorem dL_text_328 : decode cL_text 328 = .ok (.aload_n 0, 1) := by decide +kernel
theorem dL_text_329 : decode cL_text 329 = .ok (.bipush 9, 2) := by decide +kernel
theorem dL_text_331 : decode cL_text 331 = .ok (.invokevirtual 11, 3) := by decide +kernel
theorem dL_text_334 : decode cL_text 334 = .ok (.ifCond .ne 8, 3) := by decide +kernel
theorem dL_text_337 : decode cL_text 337 = .ok (.ldc 69, 2) := by decide +kernel
theorem dL_text_339 : decode cL_text 339 = .ok (.goto 29, 3) := by decide +kernel
theorem dL_text_342 : decode cL_text 342 = .ok (.new 8, 3) := by decide +kernel
theorem dL_text_345 : decode cL_text 345 = .ok (.dup, 1) := by decide +kernel
theorem dL_text_346 : decode cL_text 346 = .ok (.invokespecial 10, 3) := by decide +kernel
theorem dL_text_349 : decode cL_text 349 = .ok (.ldc 19, 2) := by decide +kernel
theorem dL_text_351 : decode cL_text 351 = .ok (.invokevirtual 21, 3) := by decide +kernel
theorem dL_text_354 : decode cL_text 354 = .ok (.aload_n 0, 1) := by decide +kernel
theorem dL_text_355 : decode cL_text 355 = .ok (.aload_n 3, 1) := by decide +kernel
theorem dL_text_356 : decode cL_text 356 = .ok (.iload 7, 2) := by decide +kernel
theorem dL_text_358 : decode cL_text 358 = .ok (.iaload, 1) := by decide +kernel
theorem dL_text_359 : decode cL_text 359 = .ok (.invokevirtual 11, 3) := by decide +kernel
theorem dL_text_362 : decode cL_text 362 = .ok (.invokevirtual 25, 3) := by decide +kernel
theorem dL_text_365 : decode cL_text 365 = .ok (.invokevirtual 30, 3) := by decide +kernel
theorem dL_text_368 : decode cL_text 368 = .ok (.invokevirtual 21, 3) := by decide +kernel
theorem dL_text_371 : decode cL_text 371 = .ok (.pop, 1) := by decide +kernel
theorem dL_text_372 : decode cL_text 372 = .ok (.iinc 7 1, 3) := by decide +kernel
theorem dL_text_375 : decode cL_text 375 = .ok (.goto (-59), 3) := by decide +kernel
theorem dL_text_378 : decode cL_text 378 = .ok (.aload_n 1, 1) := by decide +kernel
theorem dL_text_379 : decode cL_text 379 = .ok (.ldc 45, 2) := by decide +kernel
theorem dL_text_381 : decode cL_text 381 = .ok (.invokevirtual 21, 3) := by decide +kernel
theorem dL_text_384 : decode cL_text 384 = .ok (.pop, 1) := by decide +kernel
theorem dL_text_385 : decode cL_text 385 = .ok (.iinc 6 1, 3) := by decide +kernel
theorem dL_text_388 : decode cL_text 388 = .ok (.goto (-99), 3) := by decide +kernel
theorem dL_text_391 : decode cL_text 391 = .ok (.aload_n 1, 1) := by decide +kernel
theorem dL_text_392 : decode cL_text 392 = .ok (.invokevirtual 30, 3) := by decide +kernel
theorem dL_text_395 : decode cL_text 395 = .ok (.areturn, 1) := by decide +kernel
theorem tx_A {l : Launch} (hl0 : l.flags = flags0) {n : Nat} {T : List Nat} {σ : zS} {f : Nat} {many : Nat → Nat} (hf : f < n) (hn : n ≤ 5) (hM : mnR σ n f many) (hL : sbL σ 43 44 T) (hln : T.length + 60 ≤ 499) {A B : Nat} : ∃ σ' q r, 2 ≤ q ∧ q ≤ 4 ∧ r < 2 ∧ mnR σ' n (f + 1) (updN many f q) ∧ sbL σ' 43 44 (T ++ [102, 105, 101, 108, 100, 32] ++ [112 + f]) ∧ agX [42, 43, 44, 45] 46 σ σ' ∧ ∀ x, zHx l cL_text 8 (Option.some (Jvm.ClassFile.FieldType.object "java/lang/String")) 43 x → zK x 9 60 [(4, .int (nI f)), (3, .ref 45), (2, .int (nI n)), (1, .ref 43), (0, .ref 42)] [.int (nI r), .ref 43] zW4 σ' A B → zK x 9 23 [(4, .int (nI f)), (3, .ref 45), (2, .int (nI n)), (1, .ref 43), (0, .ref 42)] [] zW4 σ (A + 2) (B + 2000) := by
  obtain ⟨r1, v1, hr1, c1⟩ := c_of hl0 (dl := zW4) (σ := σ) (d := 42) (m := 3) zW4_42 (by decide) (by decide)
  have L1 : sbL (zi σ 42 0 v1) 43 44 (T) := sbL_ag (zi_ag (N := 60)) (by decide) (by decide) (by decide) (by decide) hL
  have G2 : agX [42, 43, 44] 46 σ (zi σ 42 0 v1) := agX.tr2 (agX.rf (X := []) (N := 46)) (zi_ag (N := 60)) (by decide) (by decide) (by decide) (by decide)
  have hM1 : mnR (zi σ 42 0 v1) n f many := mnR_ag (zi_ag (N := 60)) (by decide) (by decide) hM
  have LA : sbL (zi (zi σ 42 0 v1) 45 f (nI (2 + r1))) 43 44 T := sbL_ag (zi_ag (N := 60)) (by decide) (by decide) (by decide) (by decide) L1
  have GA : agX [42, 43, 44, 45] 46 σ (zi (zi σ 42 0 v1) 45 f (nI (2 + r1))) := G2.tr2 (zi_ag (N := 60)) (by decide) (by decide) (by decide) (by decide)
  obtain ⟨s3, c3, L3, g3⟩ := a_T hl0 zW4_S43 LA (q := 1000) (w := [102, 105, 101, 108, 100, 32]) rfl (by decide) (by simp only [List.length_append, List.length_cons, List.length_nil]; omega)
  have G4 : agX [42, 43, 44] 46 (zi (zi σ 42 0 v1) 45 f (nI (2 + r1))) s3 := agX.tr2 (agX.rf (X := []) (N := 46)) (g3) (by decide) (by decide) (by decide) (by decide)
  obtain ⟨s5, c5, L5, g5⟩ := a_C hl0 zW4_S43 L3 (k := (112 + f)) (by omega) (by simp only [List.length_append, List.length_cons, List.length_nil]; omega)
  have G6 : agX [42, 43, 44] 46 (zi (zi σ 42 0 v1) 45 f (nI (2 + r1))) s5 := G4.tr2 (g5) (by decide) (by decide) (by decide) (by decide)
  obtain ⟨r7, v7, hr7, c7⟩ := c_of hl0 (dl := zW4) (σ := s5) (d := 42) (m := 2) zW4_42 (by decide) (by decide)
  have L7 : sbL (zi s5 42 0 v7) 43 44 (T ++ [102, 105, 101, 108, 100, 32] ++ [(112 + f)]) := sbL_ag (zi_ag (N := 60)) (by decide) (by decide) (by decide) (by decide) L5
  have G8 : agX [42, 43, 44] 46 (zi (zi σ 42 0 v1) 45 f (nI (2 + r1))) (zi s5 42 0 v7) := G6.tr2 (zi_ag (N := 60)) (by decide) (by decide) (by decide) (by decide)
  have hM2 : mnR (zi (zi σ 42 0 v1) 45 f (nI (2 + r1))) n (f + 1) (updN many f (2 + r1)) := by
    refine ⟨hM1.1, fun e he => ?_⟩
    rw [zupd]
    by_cases h : e = f
    · rw [h, pk_us]
      exact congrArg nI (if_pos rfl).symm
    · rw [pk_un h, hM1.2 e (by omega)]
      exact congrArg nI (if_neg h).symm
  refine ⟨_, 2 + r1, r7, by omega, by omega, hr7, mnR_ag G8 (by decide) (by decide) hM2, L7, GA.tr2 G8 (by decide) (by decide) (by decide) (by decide), ?_⟩
  rintro x ⟨hG, hxl, hns, hn0⟩ kk
  subst hxl
  refine z_iload (pc := 23) hG 0 rfl dL_text_23 ?_
  refine z_iload_n (pc := 25) hG 2 rfl rfl dL_text_25 ?_
  refine z_icmp_ge (pc := 26) (tgt := 119) hG dL_text_26 rfl (fun hbr => False.elim ((fun h => (nI_nle2 hf (by omega)) h) hbr)) (fun _ => ?_)
  refine z_aload_n (pc := 29) hG 1 rfl rfl dL_text_29 ?_
  refine z_iload (pc := 30) hG 0 rfl dL_text_30 ?_
  refine z_iconst (pc := 32) (v := (2 : Int32)) hG (by decide) dL_text_32 ?_
  refine z_aload_n (pc := 33) hG 4 rfl rfl dL_text_33 ?_
  refine z_iconst (pc := 34) (v := (3 : Int32)) hG (by decide) dL_text_34 ?_
  refine z_virtS (pc := 35) (A' := A + 2) (B' := B + 2000) (st2 := [.int ((nI r1)), .int ((2 : Int32)), .int ((nI f)), .ref 45]) (v := some (.int ((nI r1)))) hG [.int ((3 : Int32))] [.int ((2 : Int32)), .int ((nI f)), .ref 45] zc_X11 zW4_42 (c1) zy_X11_of ⟨w833, w834⟩ w832 dL_text_35 rfl (Nat.le_of_ble_eq_true rfl) (Nat.le_refl _) (zand rfl (zand rfl (zand zo45_4 rfl))) (zand rfl (zand zo45_4 (zand rfl (zand zo43_4 (zand zo42_4 rfl))))) rfl rfl (Nat.le_of_ble_eq_true rfl) rfl rfl ?_
  refine z_iadd (pc := 38) hG dL_text_38 ?_
  rw [show ((2 : Int32) + (nI r1)) = (nI (2 + r1)) from nI_add 2 r1]
  refine z_ast6 (pc := 39) hG zW4_45 (vp_in_nI (show f < zLn (zi σ 42 0 v1) 45 by rw [hM1.1]; exact hf) (by rw [hM1.1]; omega)) dL_text_39 ?_
  rw [nI_clamp (show f < 2 ^ 31 by omega)]
  refine z_aload_n (pc := 40) hG 3 rfl rfl dL_text_40 ?_
  refine z_lds (pc := 41) hG (by decide : (RL, 34, "field ", 1000) ∈ zrefs) dL_text_41 ?_
  refine z_virtG (pc := 43) (A' := A + 1) (B' := B + 1000) (st2 := [.ref 43]) (v := some (.ref 43)) hG hns [.ref 1000] [] zc_J4 zW4_43 (c3) zy_J4_append_15ec4 ⟨w839, w840⟩ w838 dL_text_43 rfl (Nat.le_of_ble_eq_true rfl) (Nat.le_refl _) rfl (zand rfl (zand zk45_4 (zand rfl (zand zk43_4 (zand zk42_4 rfl))))) rfl rfl (Nat.le_of_ble_eq_true rfl) rfl rfl ?_
  refine z_bipush (pc := 46) (v := (112 : Int32)) hG (by decide) dL_text_46 ?_
  refine z_iload (pc := 48) hG 0 rfl dL_text_48 ?_
  refine z_iadd (pc := 50) hG dL_text_50 ?_
  rw [show ((112 : Int32) + (nI f)) = (nI (112 + f)) from nI_add 112 f]
  refine z_i2c (pc := 51) hG dL_text_51 ?_
  rw [show ((nI (112 + f)).toUInt32 % 65536).toInt32 = (nI (112 + f)) from i2c_ok (by omega)]
  refine z_virtG (pc := 52) (A' := A + 0) (B' := B + 0) (st2 := [.ref 43]) (v := some (.ref 43)) hG hns [.int ((nI (112 + f)))] [] zc_J4 zW4_43 (c5) zy_J4_append_cf468 ⟨w951, w952⟩ w950 dL_text_52 rfl (Nat.le_of_ble_eq_true rfl) (Nat.le_refl _) rfl (zand rfl (zand zk45_4 (zand rfl (zand zk43_4 (zand zk42_4 rfl))))) rfl rfl (Nat.le_of_ble_eq_true rfl) rfl rfl ?_
  refine z_aload_n (pc := 55) hG 4 rfl rfl dL_text_55 ?_
  refine z_iconst (pc := 56) (v := (2 : Int32)) hG (by decide) dL_text_56 ?_
  refine z_virtS (pc := 57) (A' := A + 0) (B' := B + 0) (st2 := [.int ((nI r7)), .ref 43]) (v := some (.int ((nI r7)))) hG [.int ((2 : Int32))] [.ref 43] zc_X11 zW4_42 (c7) zy_X11_of ⟨w833, w834⟩ w832 dL_text_57 rfl (Nat.le_of_ble_eq_true rfl) (Nat.le_refl _) (zand zo43_4 rfl) (zand rfl (zand zo45_4 (zand rfl (zand zo43_4 (zand zo42_4 rfl))))) rfl rfl (Nat.le_of_ble_eq_true rfl) rfl rfl ?_
  exact kk
theorem tx_B0 {l : Launch} (hl0 : l.flags = flags0) {n : Nat} {T : List Nat} {σ : zS} {f : Nat} {many : Nat → Nat} (hf : f < n) (hn : n ≤ 5) (hM : mnR σ n (f + 1) many) (hq : many f ≤ 4) (hL : sbL σ 43 44 T) (hln : T.length + 60 ≤ 499) {A B : Nat} : ∃ σ' r, r < 2 ∧ sbL σ' 43 44 (T ++ [32, 110, 97, 109, 101, 100, 32] ++ [48 + many f]) ∧ agX [42, 43, 44] 46 σ σ' ∧ ∀ x, zHx l cL_text 8 (Option.some (Jvm.ClassFile.FieldType.object "java/lang/String")) 43 x → zK x 9 86 [(4, .int (nI f)), (3, .ref 45), (2, .int (nI n)), (1, .ref 43), (0, .ref 42)] [.int (nI r)] zW4 σ' A B → zK x 9 60 [(4, .int (nI f)), (3, .ref 45), (2, .int (nI n)), (1, .ref 43), (0, .ref 42)] [.int (nI 0), .ref 43] zW4 σ (A + 2) (B + 2000) := by
  obtain ⟨s1, c1, L1, g1⟩ := a_T hl0 zW4_S43 hL (q := 1001) (w := [32, 110, 97, 109, 101, 100, 32]) rfl (by decide) (by simp only [List.length_append, List.length_cons, List.length_nil]; omega)
  have G2 : agX [42, 43, 44] 46 σ s1 := agX.tr2 (agX.rf (X := []) (N := 46)) (g1) (by decide) (by decide) (by decide) (by decide)
  have hMm := mnR_ag g1 (by decide) (by decide) hM
  obtain ⟨s3, c3, L3, g3⟩ := a_I hl0 zW4_S43 L1 (k := (many f)) (by omega) (by simp only [List.length_append, List.length_cons, List.length_nil]; omega)
  have G4 : agX [42, 43, 44] 46 σ s3 := G2.tr2 (g3) (by decide) (by decide) (by decide) (by decide)
  obtain ⟨r5, v5, hr5, c5⟩ := c_of hl0 (dl := zW4) (σ := s3) (d := 42) (m := 2) zW4_42 (by decide) (by decide)
  have L5 : sbL (zi s3 42 0 v5) 43 44 (T ++ [32, 110, 97, 109, 101, 100, 32] ++ [48 + (many f)]) := sbL_ag (zi_ag (N := 60)) (by decide) (by decide) (by decide) (by decide) L3
  have G6 : agX [42, 43, 44] 46 σ (zi s3 42 0 v5) := G4.tr2 (zi_ag (N := 60)) (by decide) (by decide) (by decide) (by decide)
  refine ⟨_, r5, hr5, L5, G6, ?_⟩
  rintro x ⟨hG, hxl, hns, hn0⟩ kk
  subst hxl
  refine z_if_ne (pc := 60) (tgt := 68) hG dL_text_60 rfl (fun hbr => False.elim ((fun h => h rfl) hbr)) (fun _ => ?_)
  refine z_lds (pc := 63) hG (by decide : (RL, 39, " named ", 1001) ∈ zrefs) dL_text_63 ?_
  refine z_goto (pc := 65) (tgt := 70) hG dL_text_65 rfl ?_
  refine z_virtG (pc := 70) (A' := A + 1) (B' := B + 1000) (st2 := [.ref 43]) (v := some (.ref 43)) hG hns [.ref 1001] [] zc_J4 zW4_43 (c1) zy_J4_append_15ec4 ⟨w839, w840⟩ w838 dL_text_70 rfl (Nat.le_of_ble_eq_true rfl) (Nat.le_refl _) rfl (zand rfl (zand zk45_4 (zand rfl (zand zk43_4 (zand zk42_4 rfl))))) rfl rfl (Nat.le_of_ble_eq_true rfl) rfl rfl ?_
  refine z_aload_n (pc := 73) hG 1 rfl rfl dL_text_73 ?_
  refine z_iload (pc := 74) hG 0 rfl dL_text_74 ?_
  refine z_ald6 (pc := 76) hG zW4_45 (vp_in_nI (show f < zLn (s1) 45 by rw [hMm.1]; exact hf) (by rw [hMm.1]; omega)) dL_text_76 ?_
  rw [nI_clamp (show f < 2 ^ 31 by omega), hMm.2 f (Nat.lt_succ_self f)]
  refine z_virtG (pc := 77) (A' := A + 0) (B' := B + 0) (st2 := [.ref 43]) (v := some (.ref 43)) hG hns [.int ((nI (many f)))] [] zc_J4 zW4_43 (c3) zy_J4_append_bf812 ⟨w975, w976⟩ w974 dL_text_77 rfl (Nat.le_of_ble_eq_true rfl) (Nat.le_refl _) rfl (zand rfl (zand zk45_4 (zand rfl (zand zk43_4 (zand zk42_4 rfl))))) rfl rfl (Nat.le_of_ble_eq_true rfl) rfl rfl ?_
  refine z_pop (pc := 80) hG rfl dL_text_80 ?_
  refine z_aload_n (pc := 81) hG 4 rfl rfl dL_text_81 ?_
  refine z_iconst (pc := 82) (v := (2 : Int32)) hG (by decide) dL_text_82 ?_
  refine z_virtS (pc := 83) (A' := A + 0) (B' := B + 0) (st2 := [.int ((nI r5))]) (v := some (.int ((nI r5)))) hG [.int ((2 : Int32))] [] zc_X11 zW4_42 (c5) zy_X11_of ⟨w833, w834⟩ w832 dL_text_83 rfl (Nat.le_of_ble_eq_true rfl) (Nat.le_refl _) rfl (zand rfl (zand zo45_4 (zand rfl (zand zo43_4 (zand zo42_4 rfl))))) rfl rfl (Nat.le_of_ble_eq_true rfl) rfl rfl ?_
  exact kk
theorem tx_B1 {l : Launch} (hl0 : l.flags = flags0) {n : Nat} {T : List Nat} {σ : zS} {f : Nat} {many : Nat → Nat} (hf : f < n) (hn : n ≤ 5) (hM : mnR σ n (f + 1) many) (hq : many f ≤ 4) (hL : sbL σ 43 44 T) (hln : T.length + 60 ≤ 499) {A B : Nat} : ∃ σ' r, r < 2 ∧ sbL σ' 43 44 (T ++ [32, 115, 99, 97, 108, 101, 100, 32] ++ [48 + many f]) ∧ agX [42, 43, 44] 46 σ σ' ∧ ∀ x, zHx l cL_text 8 (Option.some (Jvm.ClassFile.FieldType.object "java/lang/String")) 43 x → zK x 9 86 [(4, .int (nI f)), (3, .ref 45), (2, .int (nI n)), (1, .ref 43), (0, .ref 42)] [.int (nI r)] zW4 σ' A B → zK x 9 60 [(4, .int (nI f)), (3, .ref 45), (2, .int (nI n)), (1, .ref 43), (0, .ref 42)] [.int (nI 1), .ref 43] zW4 σ (A + 2) (B + 2000) := by
  obtain ⟨s1, c1, L1, g1⟩ := a_T hl0 zW4_S43 hL (q := 1002) (w := [32, 115, 99, 97, 108, 101, 100, 32]) rfl (by decide) (by simp only [List.length_append, List.length_cons, List.length_nil]; omega)
  have G2 : agX [42, 43, 44] 46 σ s1 := agX.tr2 (agX.rf (X := []) (N := 46)) (g1) (by decide) (by decide) (by decide) (by decide)
  have hMm := mnR_ag g1 (by decide) (by decide) hM
  obtain ⟨s3, c3, L3, g3⟩ := a_I hl0 zW4_S43 L1 (k := (many f)) (by omega) (by simp only [List.length_append, List.length_cons, List.length_nil]; omega)
  have G4 : agX [42, 43, 44] 46 σ s3 := G2.tr2 (g3) (by decide) (by decide) (by decide) (by decide)
  obtain ⟨r5, v5, hr5, c5⟩ := c_of hl0 (dl := zW4) (σ := s3) (d := 42) (m := 2) zW4_42 (by decide) (by decide)
  have L5 : sbL (zi s3 42 0 v5) 43 44 (T ++ [32, 115, 99, 97, 108, 101, 100, 32] ++ [48 + (many f)]) := sbL_ag (zi_ag (N := 60)) (by decide) (by decide) (by decide) (by decide) L3
  have G6 : agX [42, 43, 44] 46 σ (zi s3 42 0 v5) := G4.tr2 (zi_ag (N := 60)) (by decide) (by decide) (by decide) (by decide)
  refine ⟨_, r5, hr5, L5, G6, ?_⟩
  rintro x ⟨hG, hxl, hns, hn0⟩ kk
  subst hxl
  refine z_if_ne (pc := 60) (tgt := 68) hG dL_text_60 rfl (fun _ => ?_) (fun hbr => False.elim ((fun h => absurd h (by decide)) hbr))
  refine z_lds (pc := 68) hG (by decide : (RL, 41, " scaled ", 1002) ∈ zrefs) dL_text_68 ?_
  refine z_virtG (pc := 70) (A' := A + 1) (B' := B + 1000) (st2 := [.ref 43]) (v := some (.ref 43)) hG hns [.ref 1002] [] zc_J4 zW4_43 (c1) zy_J4_append_15ec4 ⟨w839, w840⟩ w838 dL_text_70 rfl (Nat.le_of_ble_eq_true rfl) (Nat.le_refl _) rfl (zand rfl (zand zk45_4 (zand rfl (zand zk43_4 (zand zk42_4 rfl))))) rfl rfl (Nat.le_of_ble_eq_true rfl) rfl rfl ?_
  refine z_aload_n (pc := 73) hG 1 rfl rfl dL_text_73 ?_
  refine z_iload (pc := 74) hG 0 rfl dL_text_74 ?_
  refine z_ald6 (pc := 76) hG zW4_45 (vp_in_nI (show f < zLn (s1) 45 by rw [hMm.1]; exact hf) (by rw [hMm.1]; omega)) dL_text_76 ?_
  rw [nI_clamp (show f < 2 ^ 31 by omega), hMm.2 f (Nat.lt_succ_self f)]
  refine z_virtG (pc := 77) (A' := A + 0) (B' := B + 0) (st2 := [.ref 43]) (v := some (.ref 43)) hG hns [.int ((nI (many f)))] [] zc_J4 zW4_43 (c3) zy_J4_append_bf812 ⟨w975, w976⟩ w974 dL_text_77 rfl (Nat.le_of_ble_eq_true rfl) (Nat.le_refl _) rfl (zand rfl (zand zk45_4 (zand rfl (zand zk43_4 (zand zk42_4 rfl))))) rfl rfl (Nat.le_of_ble_eq_true rfl) rfl rfl ?_
  refine z_pop (pc := 80) hG rfl dL_text_80 ?_
  refine z_aload_n (pc := 81) hG 4 rfl rfl dL_text_81 ?_
  refine z_iconst (pc := 82) (v := (2 : Int32)) hG (by decide) dL_text_82 ?_
  refine z_virtS (pc := 83) (A' := A + 0) (B' := B + 0) (st2 := [.int ((nI r5))]) (v := some (.int ((nI r5)))) hG [.int ((2 : Int32))] [] zc_X11 zW4_42 (c5) zy_X11_of ⟨w833, w834⟩ w832 dL_text_83 rfl (Nat.le_of_ble_eq_true rfl) (Nat.le_refl _) rfl (zand rfl (zand zo45_4 (zand rfl (zand zo43_4 (zand zo42_4 rfl))))) rfl rfl (Nat.le_of_ble_eq_true rfl) rfl rfl ?_
  exact kk
theorem tx_C {l : Launch} (hl0 : l.flags = flags0) {n : Nat} {T : List Nat} {σ : zS} {f : Nat} (hL : sbL σ 43 44 T) (hln : T.length + 60 ≤ 499) {A B : Nat} : ∃ σ' r, r < 4 ∧ sbL σ' 43 44 (T ++ [32, 119, 101, 105, 103, 104, 116, 32] ++ [48 + (1 + r)]) ∧ agX [42, 43, 44] 46 σ σ' ∧ ∀ x, zHx l cL_text 8 (Option.some (Jvm.ClassFile.FieldType.object "java/lang/String")) 43 x → zK x 9 106 [(4, .int (nI f)), (3, .ref 45), (2, .int (nI n)), (1, .ref 43), (0, .ref 42)] [] zW4 σ' A B → zK x 9 89 [(4, .int (nI f)), (3, .ref 45), (2, .int (nI n)), (1, .ref 43), (0, .ref 42)] [] zW4 σ (A + 2) (B + 2000) := by
  obtain ⟨s1, c1, L1, g1⟩ := a_T hl0 zW4_S43 hL (q := 1003) (w := [32, 119, 101, 105, 103, 104, 116, 32]) rfl (by decide) (by simp only [List.length_append, List.length_cons, List.length_nil]; omega)
  have G2 : agX [42, 43, 44] 46 σ s1 := agX.tr2 (agX.rf (X := []) (N := 46)) (g1) (by decide) (by decide) (by decide) (by decide)
  obtain ⟨r3, v3, hr3, c3⟩ := c_of hl0 (dl := zW4) (σ := s1) (d := 42) (m := 4) zW4_42 (by decide) (by decide)
  have L3 : sbL (zi s1 42 0 v3) 43 44 (T ++ [32, 119, 101, 105, 103, 104, 116, 32]) := sbL_ag (zi_ag (N := 60)) (by decide) (by decide) (by decide) (by decide) L1
  have G4 : agX [42, 43, 44] 46 σ (zi s1 42 0 v3) := G2.tr2 (zi_ag (N := 60)) (by decide) (by decide) (by decide) (by decide)
  obtain ⟨s5, c5, L5, g5⟩ := a_I hl0 zW4_S43 L3 (k := (1 + r3)) (by omega) (by simp only [List.length_append, List.length_cons, List.length_nil]; omega)
  have G6 : agX [42, 43, 44] 46 σ s5 := G4.tr2 (g5) (by decide) (by decide) (by decide) (by decide)
  refine ⟨_, r3, hr3, L5, G6, ?_⟩
  rintro x ⟨hG, hxl, hns, hn0⟩ kk
  subst hxl
  refine z_aload_n (pc := 89) hG 3 rfl rfl dL_text_89 ?_
  refine z_lds (pc := 90) hG (by decide : (RL, 43, " weight ", 1003) ∈ zrefs) dL_text_90 ?_
  refine z_virtG (pc := 92) (A' := A + 1) (B' := B + 1000) (st2 := [.ref 43]) (v := some (.ref 43)) hG hns [.ref 1003] [] zc_J4 zW4_43 (c1) zy_J4_append_15ec4 ⟨w839, w840⟩ w838 dL_text_92 rfl (Nat.le_of_ble_eq_true rfl) (Nat.le_refl _) rfl (zand rfl (zand zk45_4 (zand rfl (zand zk43_4 (zand zk42_4 rfl))))) rfl rfl (Nat.le_of_ble_eq_true rfl) rfl rfl ?_
  refine z_iconst (pc := 95) (v := (1 : Int32)) hG (by decide) dL_text_95 ?_
  refine z_aload_n (pc := 96) hG 4 rfl rfl dL_text_96 ?_
  refine z_iconst (pc := 97) (v := (4 : Int32)) hG (by decide) dL_text_97 ?_
  refine z_virtS (pc := 98) (A' := A + 1) (B' := B + 1000) (st2 := [.int ((nI r3)), .int ((1 : Int32)), .ref 43]) (v := some (.int ((nI r3)))) hG [.int ((4 : Int32))] [.int ((1 : Int32)), .ref 43] zc_X11 zW4_42 (c3) zy_X11_of ⟨w833, w834⟩ w832 dL_text_98 rfl (Nat.le_of_ble_eq_true rfl) (Nat.le_refl _) (zand rfl (zand zo43_4 rfl)) (zand rfl (zand zo45_4 (zand rfl (zand zo43_4 (zand zo42_4 rfl))))) rfl rfl (Nat.le_of_ble_eq_true rfl) rfl rfl ?_
  refine z_iadd (pc := 101) hG dL_text_101 ?_
  rw [show ((1 : Int32) + (nI r3)) = (nI (1 + r3)) from nI_add 1 r3]
  refine z_virtG (pc := 102) (A' := A + 0) (B' := B + 0) (st2 := [.ref 43]) (v := some (.ref 43)) hG hns [.int ((nI (1 + r3)))] [] zc_J4 zW4_43 (c5) zy_J4_append_bf812 ⟨w975, w976⟩ w974 dL_text_102 rfl (Nat.le_of_ble_eq_true rfl) (Nat.le_refl _) rfl (zand rfl (zand zk45_4 (zand rfl (zand zk43_4 (zand zk42_4 rfl))))) rfl rfl (Nat.le_of_ble_eq_true rfl) rfl rfl ?_
  refine z_pop (pc := 105) hG rfl dL_text_105 ?_
  exact kk
theorem tx_D {l : Launch} (hl0 : l.flags = flags0) {n : Nat} {T : List Nat} {σ : zS} {f : Nat} (hL : sbL σ 43 44 T) (hln : T.length + 60 ≤ 499) {A B : Nat} : ∃ σ' , True ∧ sbL σ' 43 44 (T ++ [59]) ∧ agX [42, 43, 44] 46 σ σ' ∧ ∀ x, zHx l cL_text 8 (Option.some (Jvm.ClassFile.FieldType.object "java/lang/String")) 43 x → zK x 9 23 [(4, .int (nI (f + 1))), (3, .ref 45), (2, .int (nI n)), (1, .ref 43), (0, .ref 42)] [] zW4 σ' A B → zK x 9 106 [(4, .int (nI f)), (3, .ref 45), (2, .int (nI n)), (1, .ref 43), (0, .ref 42)] [] zW4 σ (A + 1) (B + 1000) := by
  obtain ⟨s1, c1, L1, g1⟩ := a_T hl0 zW4_S43 hL (q := 1004) (w := [59]) rfl (by decide) (by simp only [List.length_append, List.length_cons, List.length_nil]; omega)
  have G2 : agX [42, 43, 44] 46 σ s1 := agX.tr2 (agX.rf (X := []) (N := 46)) (g1) (by decide) (by decide) (by decide) (by decide)
  refine ⟨_, trivial, L1, G2, ?_⟩
  rintro x ⟨hG, hxl, hns, hn0⟩ kk
  subst hxl
  refine z_aload_n (pc := 106) hG 3 rfl rfl dL_text_106 ?_
  refine z_lds (pc := 107) hG (by decide : (RL, 45, ";", 1004) ∈ zrefs) dL_text_107 ?_
  refine z_virtG (pc := 109) (A' := A + 0) (B' := B + 0) (st2 := [.ref 43]) (v := some (.ref 43)) hG hns [.ref 1004] [] zc_J4 zW4_43 (c1) zy_J4_append_15ec4 ⟨w839, w840⟩ w838 dL_text_109 rfl (Nat.le_of_ble_eq_true rfl) (Nat.le_refl _) rfl (zand rfl (zand zk45_4 (zand rfl (zand zk43_4 (zand zk42_4 rfl))))) rfl rfl (Nat.le_of_ble_eq_true rfl) rfl rfl ?_
  refine z_pop (pc := 112) hG rfl dL_text_112 ?_
  refine z_iinc (pc := 113) (v := (nI (f + 1))) (ls' := [(4, .int ((nI (f + 1)))), (3, .ref 45), (2, .int ((nI n))), (1, .ref 43), (0, .ref 42)]) hG 0 rfl [0, 1, 2, 3, 4] (nI_1s) (by decide) rfl dL_text_113 ?_
  refine z_goto (pc := 116) (tgt := 23) hG dL_text_116 rfl ?_
  exact kk
