-- 0: PactLedgerLaw.law([I)Z
theorem znl_0 : (z_meth[0]?).map (fun m => m.2.2.1) = some 7 := by decide +kernel
theorem zrt_0 : (z_meth[0]?).map (fun m => m.2.2.2.1) = some (some .boolean) := by decide +kernel
theorem zfe_0_0 : zfetch 0 0 = some (.new 8, 3) := by decide +kernel
theorem zfe_0_3 : zfetch 0 3 = some (.dup, 1) := by decide +kernel
theorem zfe_0_4 : zfetch 0 4 = some (.invokespecial 36, 3) := by decide +kernel
theorem zfe_0_7 : zfetch 0 7 = some (.astore_n 1, 1) := by decide +kernel
theorem zfe_0_8 : zfetch 0 8 = some (.new 37, 3) := by decide +kernel
theorem zfe_0_11 : zfetch 0 11 = some (.dup, 1) := by decide +kernel
theorem zfe_0_12 : zfetch 0 12 = some (.invokespecial 39, 3) := by decide +kernel
theorem zfe_0_15 : zfetch 0 15 = some (.astore_n 2, 1) := by decide +kernel
theorem zfe_0_16 : zfetch 0 16 = some (.iconst 1, 1) := by decide +kernel
theorem zfe_0_17 : zfetch 0 17 = some (.newarray .long, 2) := by decide +kernel
theorem zfe_0_19 : zfetch 0 19 = some (.astore_n 3, 1) := by decide +kernel
theorem zfe_0_20 : zfetch 0 20 = some (.iconst 0, 1) := by decide +kernel
theorem zfe_0_21 : zfetch 0 21 = some (.istore 4, 2) := by decide +kernel
theorem zfe_0_23 : zfetch 0 23 = some (.iload 4, 2) := by decide +kernel
theorem zfe_0_25 : zfetch 0 25 = some (.aload_n 0, 1) := by decide +kernel
theorem zfe_0_26 : zfetch 0 26 = some (.arraylength, 1) := by decide +kernel
theorem zfe_0_27 : zfetch 0 27 = some (.iconst 4, 1) := by decide +kernel
theorem zfe_0_28 : zfetch 0 28 = some (.isub, 1) := by decide +kernel
theorem zfe_0_29 : zfetch 0 29 = some (.if_icmp .gt 501, 3) := by decide +kernel
theorem zfe_0_32 : zfetch 0 32 = some (.aload_n 0, 1) := by decide +kernel
theorem zfe_0_33 : zfetch 0 33 = some (.iload 4, 2) := by decide +kernel
theorem zfe_0_35 : zfetch 0 35 = some (.iaload, 1) := by decide +kernel
theorem zfe_0_36 : zfetch 0 36 = some (.bipush 15, 2) := by decide +kernel
theorem zfe_0_38 : zfetch 0 38 = some (.iand, 1) := by decide +kernel
theorem zfe_0_39 : zfetch 0 39 = some (.tableswitch 485 0 8 #[49, 149, 193, 206, 286, 342, 398, 423, 460], 49) := by decide +kernel
theorem zfe_0_88 : zfetch 0 88 = some (.aload_n 1, 1) := by decide +kernel
theorem zfe_0_89 : zfetch 0 89 = some (.aload_n 0, 1) := by decide +kernel
theorem zfe_0_90 : zfetch 0 90 = some (.iload 4, 2) := by decide +kernel
theorem zfe_0_92 : zfetch 0 92 = some (.iconst 1, 1) := by decide +kernel
theorem zfe_0_93 : zfetch 0 93 = some (.iadd, 1) := by decide +kernel
theorem zfe_0_94 : zfetch 0 94 = some (.iaload, 1) := by decide +kernel
theorem zfe_0_95 : zfetch 0 95 = some (.i2l, 1) := by decide +kernel
theorem zfe_0_96 : zfetch 0 96 = some (.bipush 32, 2) := by decide +kernel
theorem zfe_0_98 : zfetch 0 98 = some (.lshl, 1) := by decide +kernel
theorem zfe_0_99 : zfetch 0 99 = some (.aload_n 0, 1) := by decide +kernel
theorem zfe_0_100 : zfetch 0 100 = some (.iload 4, 2) := by decide +kernel
theorem zfe_0_102 : zfetch 0 102 = some (.iconst 2, 1) := by decide +kernel
theorem zfe_0_103 : zfetch 0 103 = some (.iadd, 1) := by decide +kernel
theorem zfe_0_104 : zfetch 0 104 = some (.iaload, 1) := by decide +kernel
theorem zfe_0_105 : zfetch 0 105 = some (.i2l, 1) := by decide +kernel
theorem zfe_0_106 : zfetch 0 106 = some (.ldc2_w 40, 3) := by decide +kernel
theorem zfe_0_109 : zfetch 0 109 = some (.land, 1) := by decide +kernel
theorem zfe_0_110 : zfetch 0 110 = some (.lor, 1) := by decide +kernel
theorem zfe_0_111 : zfetch 0 111 = some (.aload_n 0, 1) := by decide +kernel
theorem zfe_0_112 : zfetch 0 112 = some (.iload 4, 2) := by decide +kernel
theorem zfe_0_114 : zfetch 0 114 = some (.iconst 3, 1) := by decide +kernel
theorem zfe_0_115 : zfetch 0 115 = some (.iadd, 1) := by decide +kernel
theorem zfe_0_116 : zfetch 0 116 = some (.iaload, 1) := by decide +kernel
theorem zfe_0_117 : zfetch 0 117 = some (.aload_n 3, 1) := by decide +kernel
theorem zfe_0_118 : zfetch 0 118 = some (.invokestatic 42, 3) := by decide +kernel
theorem zfe_0_121 : zfetch 0 121 = some (.istore 5, 2) := by decide +kernel
theorem zfe_0_123 : zfetch 0 123 = some (.aload_n 2, 1) := by decide +kernel
theorem zfe_0_124 : zfetch 0 124 = some (.aload_n 0, 1) := by decide +kernel
theorem zfe_0_125 : zfetch 0 125 = some (.iload 4, 2) := by decide +kernel
theorem zfe_0_127 : zfetch 0 127 = some (.iconst 1, 1) := by decide +kernel
theorem zfe_0_128 : zfetch 0 128 = some (.iadd, 1) := by decide +kernel
theorem zfe_0_129 : zfetch 0 129 = some (.iaload, 1) := by decide +kernel
theorem zfe_0_130 : zfetch 0 130 = some (.i2l, 1) := by decide +kernel
theorem zfe_0_131 : zfetch 0 131 = some (.bipush 32, 2) := by decide +kernel
theorem zfe_0_133 : zfetch 0 133 = some (.lshl, 1) := by decide +kernel
theorem zfe_0_134 : zfetch 0 134 = some (.aload_n 0, 1) := by decide +kernel
theorem zfe_0_135 : zfetch 0 135 = some (.iload 4, 2) := by decide +kernel
theorem zfe_0_137 : zfetch 0 137 = some (.iconst 2, 1) := by decide +kernel
theorem zfe_0_138 : zfetch 0 138 = some (.iadd, 1) := by decide +kernel
theorem zfe_0_139 : zfetch 0 139 = some (.iaload, 1) := by decide +kernel
theorem zfe_0_140 : zfetch 0 140 = some (.i2l, 1) := by decide +kernel
theorem zfe_0_141 : zfetch 0 141 = some (.ldc2_w 40, 3) := by decide +kernel
theorem zfe_0_144 : zfetch 0 144 = some (.land, 1) := by decide +kernel
theorem zfe_0_145 : zfetch 0 145 = some (.lor, 1) := by decide +kernel
theorem zfe_0_146 : zfetch 0 146 = some (.aload_n 0, 1) := by decide +kernel
theorem zfe_0_147 : zfetch 0 147 = some (.iload 4, 2) := by decide +kernel
theorem zfe_0_149 : zfetch 0 149 = some (.iconst 3, 1) := by decide +kernel
theorem zfe_0_150 : zfetch 0 150 = some (.iadd, 1) := by decide +kernel
theorem zfe_0_151 : zfetch 0 151 = some (.iaload, 1) := by decide +kernel
theorem zfe_0_152 : zfetch 0 152 = some (.invokevirtual 47, 3) := by decide +kernel
theorem zfe_0_155 : zfetch 0 155 = some (.istore 6, 2) := by decide +kernel
theorem zfe_0_157 : zfetch 0 157 = some (.aload_n 2, 1) := by decide +kernel
theorem zfe_0_158 : zfetch 0 158 = some (.invokevirtual 48, 3) := by decide +kernel
theorem zfe_0_161 : zfetch 0 161 = some (.iload 5, 2) := by decide +kernel
theorem zfe_0_163 : zfetch 0 163 = some (.if_icmp .eq 5, 3) := by decide +kernel
theorem zfe_0_166 : zfetch 0 166 = some (.iconst 0, 1) := by decide +kernel
theorem zfe_0_167 : zfetch 0 167 = some (.ireturn, 1) := by decide +kernel
theorem zfe_0_168 : zfetch 0 168 = some (.iload 5, 2) := by decide +kernel
theorem zfe_0_170 : zfetch 0 170 = some (.ifCond .ne 15, 3) := by decide +kernel
theorem zfe_0_173 : zfetch 0 173 = some (.aload_n 3, 1) := by decide +kernel
theorem zfe_0_174 : zfetch 0 174 = some (.iconst 0, 1) := by decide +kernel
theorem zfe_0_175 : zfetch 0 175 = some (.laload, 1) := by decide +kernel
theorem zfe_0_176 : zfetch 0 176 = some (.iload 6, 2) := by decide +kernel
theorem zfe_0_178 : zfetch 0 178 = some (.i2l, 1) := by decide +kernel
theorem zfe_0_179 : zfetch 0 179 = some (.lcmp, 1) := by decide +kernel
theorem zfe_0_180 : zfetch 0 180 = some (.ifCond .eq 5, 3) := by decide +kernel
theorem zfe_0_183 : zfetch 0 183 = some (.iconst 0, 1) := by decide +kernel
theorem zfe_0_184 : zfetch 0 184 = some (.ireturn, 1) := by decide +kernel
theorem zfe_0_185 : zfetch 0 185 = some (.goto 339, 3) := by decide +kernel
theorem zfe_0_188 : zfetch 0 188 = some (.aload_n 1, 1) := by decide +kernel
theorem zfe_0_189 : zfetch 0 189 = some (.aload_n 3, 1) := by decide +kernel
theorem zfe_0_190 : zfetch 0 190 = some (.invokestatic 51, 3) := by decide +kernel
theorem zfe_0_193 : zfetch 0 193 = some (.istore 5, 2) := by decide +kernel
theorem zfe_0_195 : zfetch 0 195 = some (.aload_n 2, 1) := by decide +kernel
theorem zfe_0_196 : zfetch 0 196 = some (.invokevirtual 54, 3) := by decide +kernel
theorem zfe_0_199 : zfetch 0 199 = some (.istore 6, 2) := by decide +kernel
theorem zfe_0_201 : zfetch 0 201 = some (.aload_n 2, 1) := by decide +kernel
theorem zfe_0_202 : zfetch 0 202 = some (.invokevirtual 48, 3) := by decide +kernel
theorem zfe_0_205 : zfetch 0 205 = some (.iload 5, 2) := by decide +kernel
theorem zfe_0_207 : zfetch 0 207 = some (.if_icmp .eq 5, 3) := by decide +kernel
theorem zfe_0_210 : zfetch 0 210 = some (.iconst 0, 1) := by decide +kernel
theorem zfe_0_211 : zfetch 0 211 = some (.ireturn, 1) := by decide +kernel
theorem zfe_0_212 : zfetch 0 212 = some (.iload 5, 2) := by decide +kernel
theorem zfe_0_214 : zfetch 0 214 = some (.ifCond .ne 15, 3) := by decide +kernel
theorem zfe_0_217 : zfetch 0 217 = some (.aload_n 3, 1) := by decide +kernel
theorem zfe_0_218 : zfetch 0 218 = some (.iconst 0, 1) := by decide +kernel
theorem zfe_0_219 : zfetch 0 219 = some (.laload, 1) := by decide +kernel
theorem zfe_0_220 : zfetch 0 220 = some (.iload 6, 2) := by decide +kernel
theorem zfe_0_222 : zfetch 0 222 = some (.i2l, 1) := by decide +kernel
theorem zfe_0_223 : zfetch 0 223 = some (.lcmp, 1) := by decide +kernel
theorem zfe_0_224 : zfetch 0 224 = some (.ifCond .eq 5, 3) := by decide +kernel
theorem zfe_0_227 : zfetch 0 227 = some (.iconst 0, 1) := by decide +kernel
theorem zfe_0_228 : zfetch 0 228 = some (.ireturn, 1) := by decide +kernel
theorem zfe_0_229 : zfetch 0 229 = some (.goto 295, 3) := by decide +kernel
theorem zfe_0_232 : zfetch 0 232 = some (.aload_n 1, 1) := by decide +kernel
theorem zfe_0_233 : zfetch 0 233 = some (.invokevirtual 55, 3) := by decide +kernel
theorem zfe_0_236 : zfetch 0 236 = some (.aload_n 2, 1) := by decide +kernel
theorem zfe_0_237 : zfetch 0 237 = some (.invokevirtual 58, 3) := by decide +kernel
theorem zfe_0_240 : zfetch 0 240 = some (.if_icmp .eq 284, 3) := by decide +kernel
theorem zfe_0_243 : zfetch 0 243 = some (.iconst 0, 1) := by decide +kernel
theorem zfe_0_244 : zfetch 0 244 = some (.ireturn, 1) := by decide +kernel
theorem zfe_0_245 : zfetch 0 245 = some (.aload_n 1, 1) := by decide +kernel
theorem zfe_0_246 : zfetch 0 246 = some (.aload_n 0, 1) := by decide +kernel
theorem zfe_0_247 : zfetch 0 247 = some (.iload 4, 2) := by decide +kernel
theorem zfe_0_249 : zfetch 0 249 = some (.iconst 1, 1) := by decide +kernel
theorem zfe_0_250 : zfetch 0 250 = some (.iadd, 1) := by decide +kernel
theorem zfe_0_251 : zfetch 0 251 = some (.iaload, 1) := by decide +kernel
theorem zfe_0_252 : zfetch 0 252 = some (.aload_n 0, 1) := by decide +kernel
theorem zfe_0_253 : zfetch 0 253 = some (.iload 4, 2) := by decide +kernel
theorem zfe_0_255 : zfetch 0 255 = some (.iconst 2, 1) := by decide +kernel
theorem zfe_0_256 : zfetch 0 256 = some (.iadd, 1) := by decide +kernel
theorem zfe_0_257 : zfetch 0 257 = some (.iaload, 1) := by decide +kernel
theorem zfe_0_258 : zfetch 0 258 = some (.aload_n 0, 1) := by decide +kernel
theorem zfe_0_259 : zfetch 0 259 = some (.iload 4, 2) := by decide +kernel
theorem zfe_0_261 : zfetch 0 261 = some (.iconst 3, 1) := by decide +kernel
theorem zfe_0_262 : zfetch 0 262 = some (.iadd, 1) := by decide +kernel
theorem zfe_0_263 : zfetch 0 263 = some (.iaload, 1) := by decide +kernel
theorem zfe_0_264 : zfetch 0 264 = some (.aload_n 3, 1) := by decide +kernel
theorem zfe_0_265 : zfetch 0 265 = some (.invokestatic 59, 3) := by decide +kernel
theorem zfe_0_268 : zfetch 0 268 = some (.istore 5, 2) := by decide +kernel
theorem zfe_0_270 : zfetch 0 270 = some (.aload_n 2, 1) := by decide +kernel
theorem zfe_0_271 : zfetch 0 271 = some (.aload_n 0, 1) := by decide +kernel
theorem zfe_0_272 : zfetch 0 272 = some (.iload 4, 2) := by decide +kernel
theorem zfe_0_274 : zfetch 0 274 = some (.iconst 1, 1) := by decide +kernel
theorem zfe_0_275 : zfetch 0 275 = some (.iadd, 1) := by decide +kernel
theorem zfe_0_276 : zfetch 0 276 = some (.iaload, 1) := by decide +kernel
theorem zfe_0_277 : zfetch 0 277 = some (.aload_n 0, 1) := by decide +kernel
theorem zfe_0_278 : zfetch 0 278 = some (.iload 4, 2) := by decide +kernel
theorem zfe_0_280 : zfetch 0 280 = some (.iconst 2, 1) := by decide +kernel
theorem zfe_0_281 : zfetch 0 281 = some (.iadd, 1) := by decide +kernel
theorem zfe_0_282 : zfetch 0 282 = some (.iaload, 1) := by decide +kernel
theorem zfe_0_283 : zfetch 0 283 = some (.aload_n 0, 1) := by decide +kernel
theorem zfe_0_284 : zfetch 0 284 = some (.iload 4, 2) := by decide +kernel
theorem zfe_0_286 : zfetch 0 286 = some (.iconst 3, 1) := by decide +kernel
theorem zfe_0_287 : zfetch 0 287 = some (.iadd, 1) := by decide +kernel
theorem zfe_0_288 : zfetch 0 288 = some (.iaload, 1) := by decide +kernel
theorem zfe_0_289 : zfetch 0 289 = some (.invokevirtual 62, 3) := by decide +kernel
theorem zfe_0_292 : zfetch 0 292 = some (.istore 6, 2) := by decide +kernel
theorem zfe_0_294 : zfetch 0 294 = some (.aload_n 2, 1) := by decide +kernel
theorem zfe_0_295 : zfetch 0 295 = some (.invokevirtual 48, 3) := by decide +kernel
theorem zfe_0_298 : zfetch 0 298 = some (.iload 5, 2) := by decide +kernel
theorem zfe_0_300 : zfetch 0 300 = some (.if_icmp .eq 5, 3) := by decide +kernel
theorem zfe_0_303 : zfetch 0 303 = some (.iconst 0, 1) := by decide +kernel
theorem zfe_0_304 : zfetch 0 304 = some (.ireturn, 1) := by decide +kernel
theorem zfe_0_305 : zfetch 0 305 = some (.iload 5, 2) := by decide +kernel
theorem zfe_0_307 : zfetch 0 307 = some (.ifCond .ne 15, 3) := by decide +kernel
theorem zfe_0_310 : zfetch 0 310 = some (.aload_n 3, 1) := by decide +kernel
theorem zfe_0_311 : zfetch 0 311 = some (.iconst 0, 1) := by decide +kernel
theorem zfe_0_312 : zfetch 0 312 = some (.laload, 1) := by decide +kernel
theorem zfe_0_313 : zfetch 0 313 = some (.iload 6, 2) := by decide +kernel
theorem zfe_0_315 : zfetch 0 315 = some (.i2l, 1) := by decide +kernel
theorem zfe_0_316 : zfetch 0 316 = some (.lcmp, 1) := by decide +kernel
theorem zfe_0_317 : zfetch 0 317 = some (.ifCond .eq 5, 3) := by decide +kernel
theorem zfe_0_320 : zfetch 0 320 = some (.iconst 0, 1) := by decide +kernel
theorem zfe_0_321 : zfetch 0 321 = some (.ireturn, 1) := by decide +kernel
theorem zfe_0_322 : zfetch 0 322 = some (.goto 202, 3) := by decide +kernel
theorem zfe_0_325 : zfetch 0 325 = some (.aload_n 1, 1) := by decide +kernel
theorem zfe_0_326 : zfetch 0 326 = some (.aload_n 0, 1) := by decide +kernel
theorem zfe_0_327 : zfetch 0 327 = some (.iload 4, 2) := by decide +kernel
theorem zfe_0_329 : zfetch 0 329 = some (.iconst 1, 1) := by decide +kernel
theorem zfe_0_330 : zfetch 0 330 = some (.iadd, 1) := by decide +kernel
theorem zfe_0_331 : zfetch 0 331 = some (.iaload, 1) := by decide +kernel
theorem zfe_0_332 : zfetch 0 332 = some (.aload_n 3, 1) := by decide +kernel
theorem zfe_0_333 : zfetch 0 333 = some (.invokestatic 63, 3) := by decide +kernel
theorem zfe_0_336 : zfetch 0 336 = some (.istore 5, 2) := by decide +kernel
theorem zfe_0_338 : zfetch 0 338 = some (.aload_n 2, 1) := by decide +kernel
theorem zfe_0_339 : zfetch 0 339 = some (.aload_n 0, 1) := by decide +kernel
theorem zfe_0_340 : zfetch 0 340 = some (.iload 4, 2) := by decide +kernel
theorem zfe_0_342 : zfetch 0 342 = some (.iconst 1, 1) := by decide +kernel
theorem zfe_0_343 : zfetch 0 343 = some (.iadd, 1) := by decide +kernel
theorem zfe_0_344 : zfetch 0 344 = some (.iaload, 1) := by decide +kernel
theorem zfe_0_345 : zfetch 0 345 = some (.invokevirtual 66, 3) := by decide +kernel
theorem zfe_0_348 : zfetch 0 348 = some (.istore 6, 2) := by decide +kernel
theorem zfe_0_350 : zfetch 0 350 = some (.aload_n 2, 1) := by decide +kernel
theorem zfe_0_351 : zfetch 0 351 = some (.invokevirtual 48, 3) := by decide +kernel
theorem zfe_0_354 : zfetch 0 354 = some (.iload 5, 2) := by decide +kernel
theorem zfe_0_356 : zfetch 0 356 = some (.if_icmp .eq 5, 3) := by decide +kernel
theorem zfe_0_359 : zfetch 0 359 = some (.iconst 0, 1) := by decide +kernel
theorem zfe_0_360 : zfetch 0 360 = some (.ireturn, 1) := by decide +kernel
theorem zfe_0_361 : zfetch 0 361 = some (.iload 5, 2) := by decide +kernel
theorem zfe_0_363 : zfetch 0 363 = some (.ifCond .ne 15, 3) := by decide +kernel
theorem zfe_0_366 : zfetch 0 366 = some (.aload_n 3, 1) := by decide +kernel
theorem zfe_0_367 : zfetch 0 367 = some (.iconst 0, 1) := by decide +kernel
theorem zfe_0_368 : zfetch 0 368 = some (.laload, 1) := by decide +kernel
theorem zfe_0_369 : zfetch 0 369 = some (.iload 6, 2) := by decide +kernel
theorem zfe_0_371 : zfetch 0 371 = some (.i2l, 1) := by decide +kernel
theorem zfe_0_372 : zfetch 0 372 = some (.lcmp, 1) := by decide +kernel
theorem zfe_0_373 : zfetch 0 373 = some (.ifCond .eq 5, 3) := by decide +kernel
theorem zfe_0_376 : zfetch 0 376 = some (.iconst 0, 1) := by decide +kernel
theorem zfe_0_377 : zfetch 0 377 = some (.ireturn, 1) := by decide +kernel
theorem zfe_0_378 : zfetch 0 378 = some (.goto 146, 3) := by decide +kernel
theorem zfe_0_381 : zfetch 0 381 = some (.aload_n 1, 1) := by decide +kernel
theorem zfe_0_382 : zfetch 0 382 = some (.aload_n 0, 1) := by decide +kernel
theorem zfe_0_383 : zfetch 0 383 = some (.iload 4, 2) := by decide +kernel
theorem zfe_0_385 : zfetch 0 385 = some (.iconst 1, 1) := by decide +kernel
theorem zfe_0_386 : zfetch 0 386 = some (.iadd, 1) := by decide +kernel
theorem zfe_0_387 : zfetch 0 387 = some (.iaload, 1) := by decide +kernel
theorem zfe_0_388 : zfetch 0 388 = some (.aload_n 3, 1) := by decide +kernel
theorem zfe_0_389 : zfetch 0 389 = some (.invokestatic 67, 3) := by decide +kernel
theorem zfe_0_392 : zfetch 0 392 = some (.istore 5, 2) := by decide +kernel
theorem zfe_0_394 : zfetch 0 394 = some (.aload_n 2, 1) := by decide +kernel
theorem zfe_0_395 : zfetch 0 395 = some (.aload_n 0, 1) := by decide +kernel
theorem zfe_0_396 : zfetch 0 396 = some (.iload 4, 2) := by decide +kernel
theorem zfe_0_398 : zfetch 0 398 = some (.iconst 1, 1) := by decide +kernel
theorem zfe_0_399 : zfetch 0 399 = some (.iadd, 1) := by decide +kernel
theorem zfe_0_400 : zfetch 0 400 = some (.iaload, 1) := by decide +kernel
theorem zfe_0_401 : zfetch 0 401 = some (.invokevirtual 69, 3) := by decide +kernel
theorem zfe_0_404 : zfetch 0 404 = some (.istore 6, 2) := by decide +kernel
theorem zfe_0_406 : zfetch 0 406 = some (.aload_n 2, 1) := by decide +kernel
theorem zfe_0_407 : zfetch 0 407 = some (.invokevirtual 48, 3) := by decide +kernel
theorem zfe_0_410 : zfetch 0 410 = some (.iload 5, 2) := by decide +kernel
theorem zfe_0_412 : zfetch 0 412 = some (.if_icmp .eq 5, 3) := by decide +kernel
theorem zfe_0_415 : zfetch 0 415 = some (.iconst 0, 1) := by decide +kernel
theorem zfe_0_416 : zfetch 0 416 = some (.ireturn, 1) := by decide +kernel
theorem zfe_0_417 : zfetch 0 417 = some (.iload 5, 2) := by decide +kernel
theorem zfe_0_419 : zfetch 0 419 = some (.ifCond .ne 15, 3) := by decide +kernel
theorem zfe_0_422 : zfetch 0 422 = some (.aload_n 3, 1) := by decide +kernel
theorem zfe_0_423 : zfetch 0 423 = some (.iconst 0, 1) := by decide +kernel
theorem zfe_0_424 : zfetch 0 424 = some (.laload, 1) := by decide +kernel
theorem zfe_0_425 : zfetch 0 425 = some (.iload 6, 2) := by decide +kernel
theorem zfe_0_427 : zfetch 0 427 = some (.i2l, 1) := by decide +kernel
theorem zfe_0_428 : zfetch 0 428 = some (.lcmp, 1) := by decide +kernel
theorem zfe_0_429 : zfetch 0 429 = some (.ifCond .eq 5, 3) := by decide +kernel
theorem zfe_0_432 : zfetch 0 432 = some (.iconst 0, 1) := by decide +kernel
theorem zfe_0_433 : zfetch 0 433 = some (.ireturn, 1) := by decide +kernel
theorem zfe_0_434 : zfetch 0 434 = some (.goto 90, 3) := by decide +kernel
theorem zfe_0_437 : zfetch 0 437 = some (.aload_n 1, 1) := by decide +kernel
theorem zfe_0_438 : zfetch 0 438 = some (.aload_n 0, 1) := by decide +kernel
theorem zfe_0_439 : zfetch 0 439 = some (.iload 4, 2) := by decide +kernel
theorem zfe_0_441 : zfetch 0 441 = some (.iconst 1, 1) := by decide +kernel
theorem zfe_0_442 : zfetch 0 442 = some (.iadd, 1) := by decide +kernel
theorem zfe_0_443 : zfetch 0 443 = some (.iaload, 1) := by decide +kernel
theorem zfe_0_444 : zfetch 0 444 = some (.invokevirtual 70, 3) := by decide +kernel
theorem zfe_0_447 : zfetch 0 447 = some (.aload_n 2, 1) := by decide +kernel
theorem zfe_0_448 : zfetch 0 448 = some (.aload_n 0, 1) := by decide +kernel
theorem zfe_0_449 : zfetch 0 449 = some (.iload 4, 2) := by decide +kernel
theorem zfe_0_451 : zfetch 0 451 = some (.iconst 1, 1) := by decide +kernel
theorem zfe_0_452 : zfetch 0 452 = some (.iadd, 1) := by decide +kernel
theorem zfe_0_453 : zfetch 0 453 = some (.iaload, 1) := by decide +kernel
theorem zfe_0_454 : zfetch 0 454 = some (.invokevirtual 73, 3) := by decide +kernel
theorem zfe_0_457 : zfetch 0 457 = some (.if_icmp .eq 67, 3) := by decide +kernel
theorem zfe_0_460 : zfetch 0 460 = some (.iconst 0, 1) := by decide +kernel
theorem zfe_0_461 : zfetch 0 461 = some (.ireturn, 1) := by decide +kernel
theorem zfe_0_462 : zfetch 0 462 = some (.aload_n 1, 1) := by decide +kernel
theorem zfe_0_463 : zfetch 0 463 = some (.aload_n 0, 1) := by decide +kernel
theorem zfe_0_464 : zfetch 0 464 = some (.iload 4, 2) := by decide +kernel
theorem zfe_0_466 : zfetch 0 466 = some (.iconst 1, 1) := by decide +kernel
theorem zfe_0_467 : zfetch 0 467 = some (.iadd, 1) := by decide +kernel
theorem zfe_0_468 : zfetch 0 468 = some (.iaload, 1) := by decide +kernel
theorem zfe_0_469 : zfetch 0 469 = some (.aload_n 0, 1) := by decide +kernel
theorem zfe_0_470 : zfetch 0 470 = some (.iload 4, 2) := by decide +kernel
theorem zfe_0_472 : zfetch 0 472 = some (.iconst 2, 1) := by decide +kernel
theorem zfe_0_473 : zfetch 0 473 = some (.iadd, 1) := by decide +kernel
theorem zfe_0_474 : zfetch 0 474 = some (.iaload, 1) := by decide +kernel
theorem zfe_0_475 : zfetch 0 475 = some (.invokevirtual 74, 3) := by decide +kernel
theorem zfe_0_478 : zfetch 0 478 = some (.aload_n 2, 1) := by decide +kernel
theorem zfe_0_479 : zfetch 0 479 = some (.aload_n 0, 1) := by decide +kernel
theorem zfe_0_480 : zfetch 0 480 = some (.iload 4, 2) := by decide +kernel
theorem zfe_0_482 : zfetch 0 482 = some (.iconst 1, 1) := by decide +kernel
theorem zfe_0_483 : zfetch 0 483 = some (.iadd, 1) := by decide +kernel
theorem zfe_0_484 : zfetch 0 484 = some (.iaload, 1) := by decide +kernel
theorem zfe_0_485 : zfetch 0 485 = some (.aload_n 0, 1) := by decide +kernel
theorem zfe_0_486 : zfetch 0 486 = some (.iload 4, 2) := by decide +kernel
theorem zfe_0_488 : zfetch 0 488 = some (.iconst 2, 1) := by decide +kernel
theorem zfe_0_489 : zfetch 0 489 = some (.iadd, 1) := by decide +kernel
theorem zfe_0_490 : zfetch 0 490 = some (.iaload, 1) := by decide +kernel
theorem zfe_0_491 : zfetch 0 491 = some (.invokevirtual 78, 3) := by decide +kernel
theorem zfe_0_494 : zfetch 0 494 = some (.if_icmp .eq 30, 3) := by decide +kernel
theorem zfe_0_497 : zfetch 0 497 = some (.iconst 0, 1) := by decide +kernel
theorem zfe_0_498 : zfetch 0 498 = some (.ireturn, 1) := by decide +kernel
theorem zfe_0_499 : zfetch 0 499 = some (.aload_n 1, 1) := by decide +kernel
theorem zfe_0_500 : zfetch 0 500 = some (.aload_n 0, 1) := by decide +kernel
theorem zfe_0_501 : zfetch 0 501 = some (.iload 4, 2) := by decide +kernel
theorem zfe_0_503 : zfetch 0 503 = some (.iconst 1, 1) := by decide +kernel
theorem zfe_0_504 : zfetch 0 504 = some (.iadd, 1) := by decide +kernel
theorem zfe_0_505 : zfetch 0 505 = some (.iaload, 1) := by decide +kernel
theorem zfe_0_506 : zfetch 0 506 = some (.invokevirtual 79, 3) := by decide +kernel
theorem zfe_0_509 : zfetch 0 509 = some (.aload_n 2, 1) := by decide +kernel
theorem zfe_0_510 : zfetch 0 510 = some (.aload_n 0, 1) := by decide +kernel
theorem zfe_0_511 : zfetch 0 511 = some (.iload 4, 2) := by decide +kernel
theorem zfe_0_513 : zfetch 0 513 = some (.iconst 1, 1) := by decide +kernel
theorem zfe_0_514 : zfetch 0 514 = some (.iadd, 1) := by decide +kernel
theorem zfe_0_515 : zfetch 0 515 = some (.iaload, 1) := by decide +kernel
theorem zfe_0_516 : zfetch 0 516 = some (.invokevirtual 82, 3) := by decide +kernel
theorem zfe_0_519 : zfetch 0 519 = some (.if_icmp .eq 5, 3) := by decide +kernel
theorem zfe_0_522 : zfetch 0 522 = some (.iconst 0, 1) := by decide +kernel
theorem zfe_0_523 : zfetch 0 523 = some (.ireturn, 1) := by decide +kernel
theorem zfe_0_524 : zfetch 0 524 = some (.iinc 4 4, 3) := by decide +kernel
theorem zfe_0_527 : zfetch 0 527 = some (.goto (-504), 3) := by decide +kernel
theorem zfe_0_530 : zfetch 0 530 = some (.iconst 1, 1) := by decide +kernel
theorem zfe_0_531 : zfetch 0 531 = some (.ireturn, 1) := by decide +kernel
theorem zlk_0_8 : zlink 0 8 = some (2, 0, 0) := by decide +kernel
theorem zlk_0_36 : zlink 0 36 = some (9, 1, 0) := by decide +kernel
theorem zlk_0_37 : zlink 0 37 = some (2, 12, 0) := by decide +kernel
theorem zlk_0_39 : zlink 0 39 = some (9, 152, 0) := by decide +kernel
theorem zlk_0_40 : zlink 0 40 = some (13, 0, 0) := by decide +kernel
theorem zlk_0_42 : zlink 0 42 = some (5, 17, 4) := by decide +kernel
theorem zlk_0_47 : zlink 0 47 = some (7, 154, 2) := by decide +kernel
theorem zlk_0_48 : zlink 0 48 = some (7, 153, 0) := by decide +kernel
theorem zlk_0_51 : zlink 0 51 = some (5, 20, 2) := by decide +kernel
theorem zlk_0_54 : zlink 0 54 = some (7, 155, 0) := by decide +kernel
theorem zlk_0_55 : zlink 0 55 = some (7, 4, 0) := by decide +kernel
theorem zlk_0_58 : zlink 0 58 = some (7, 196, 0) := by decide +kernel
theorem zlk_0_59 : zlink 0 59 = some (5, 93, 5) := by decide +kernel
theorem zlk_0_62 : zlink 0 62 = some (7, 197, 3) := by decide +kernel
theorem zlk_0_63 : zlink 0 63 = some (5, 146, 3) := by decide +kernel
theorem zlk_0_66 : zlink 0 66 = some (7, 227, 1) := by decide +kernel
theorem zlk_0_67 : zlink 0 67 = some (5, 149, 3) := by decide +kernel
theorem zlk_0_69 : zlink 0 69 = some (7, 228, 1) := by decide +kernel
theorem zlk_0_70 : zlink 0 70 = some (7, 5, 1) := by decide +kernel
theorem zlk_0_73 : zlink 0 73 = some (7, 229, 1) := by decide +kernel
theorem zlk_0_74 : zlink 0 74 = some (7, 7, 2) := by decide +kernel
theorem zlk_0_78 : zlink 0 78 = some (7, 230, 2) := by decide +kernel
theorem zlk_0_79 : zlink 0 79 = some (7, 16, 1) := by decide +kernel
theorem zlk_0_82 : zlink 0 82 = some (7, 231, 1) := by decide +kernel
-- 1: PactLedger.<init>()V
theorem znl_1 : (z_meth[1]?).map (fun m => m.2.2.1) = some 1 := by decide +kernel
theorem zrt_1 : (z_meth[1]?).map (fun m => m.2.2.2.1) = some none := by decide +kernel
theorem zfe_1_0 : zfetch 1 0 = some (.aload_n 0, 1) := by decide +kernel
theorem zfe_1_1 : zfetch 1 1 = some (.invokespecial 1, 3) := by decide +kernel
theorem zfe_1_4 : zfetch 1 4 = some (.aload_n 0, 1) := by decide +kernel
theorem zfe_1_5 : zfetch 1 5 = some (.new 7, 3) := by decide +kernel
theorem zfe_1_8 : zfetch 1 8 = some (.dup, 1) := by decide +kernel
theorem zfe_1_9 : zfetch 1 9 = some (.invokespecial 9, 3) := by decide +kernel
theorem zfe_1_12 : zfetch 1 12 = some (.putfield 10, 3) := by decide +kernel
theorem zfe_1_15 : zfetch 1 15 = some (.aload_n 0, 1) := by decide +kernel
theorem zfe_1_16 : zfetch 1 16 = some (.new 16, 3) := by decide +kernel
theorem zfe_1_19 : zfetch 1 19 = some (.dup, 1) := by decide +kernel
theorem zfe_1_20 : zfetch 1 20 = some (.invokespecial 18, 3) := by decide +kernel
theorem zfe_1_23 : zfetch 1 23 = some (.putfield 19, 3) := by decide +kernel
theorem zfe_1_26 : zfetch 1 26 = some (.aload_n 0, 1) := by decide +kernel
theorem zfe_1_27 : zfetch 1 27 = some (.iconst 4, 1) := by decide +kernel
theorem zfe_1_28 : zfetch 1 28 = some (.anewarray 23, 3) := by decide +kernel
theorem zfe_1_31 : zfetch 1 31 = some (.putfield 25, 3) := by decide +kernel
theorem zfe_1_34 : zfetch 1 34 = some (.aload_n 0, 1) := by decide +kernel
theorem zfe_1_35 : zfetch 1 35 = some (.iconst 0, 1) := by decide +kernel
theorem zfe_1_36 : zfetch 1 36 = some (.putfield 29, 3) := by decide +kernel
theorem zfe_1_39 : zfetch 1 39 = some (.return_, 1) := by decide +kernel
theorem zlk_1_1 : zlink 1 1 = some (11, 0, 0) := by decide +kernel
theorem zlk_1_7 : zlink 1 7 = some (2, 1, 0) := by decide +kernel
theorem zlk_1_9 : zlink 1 9 = some (10, 2, 0) := by decide +kernel
theorem zlk_1_10 : zlink 1 10 = some (0, 0, 0) := by decide +kernel
theorem zlk_1_16 : zlink 1 16 = some (2, 2, 0) := by decide +kernel
theorem zlk_1_18 : zlink 1 18 = some (10, 3, 0) := by decide +kernel
theorem zlk_1_19 : zlink 1 19 = some (0, 0, 1) := by decide +kernel
theorem zlk_1_25 : zlink 1 25 = some (0, 0, 2) := by decide +kernel
theorem zlk_1_29 : zlink 1 29 = some (0, 0, 3) := by decide +kernel
theorem zlk_1_100023 : zlink 1 100023 = some (3, 5, 0) := by decide +kernel
-- 2: PactLedger$Buffer.<init>()V
theorem znl_2 : (z_meth[2]?).map (fun m => m.2.2.1) = some 1 := by decide +kernel
theorem zrt_2 : (z_meth[2]?).map (fun m => m.2.2.2.1) = some none := by decide +kernel
theorem zfe_2_0 : zfetch 2 0 = some (.aload_n 0, 1) := by decide +kernel
theorem zfe_2_1 : zfetch 2 1 = some (.invokespecial 3, 3) := by decide +kernel
theorem zfe_2_4 : zfetch 2 4 = some (.aload_n 0, 1) := by decide +kernel
theorem zfe_2_5 : zfetch 2 5 = some (.sipush 240, 3) := by decide +kernel
theorem zfe_2_8 : zfetch 2 8 = some (.newarray .byte, 2) := by decide +kernel
theorem zfe_2_10 : zfetch 2 10 = some (.putfield 9, 3) := by decide +kernel
theorem zfe_2_13 : zfetch 2 13 = some (.aload_n 0, 1) := by decide +kernel
theorem zfe_2_14 : zfetch 2 14 = some (.iconst 0, 1) := by decide +kernel
theorem zfe_2_15 : zfetch 2 15 = some (.anewarray 15, 3) := by decide +kernel
theorem zfe_2_18 : zfetch 2 18 = some (.putfield 17, 3) := by decide +kernel
theorem zfe_2_21 : zfetch 2 21 = some (.aload_n 0, 1) := by decide +kernel
theorem zfe_2_22 : zfetch 2 22 = some (.iconst 0, 1) := by decide +kernel
theorem zfe_2_23 : zfetch 2 23 = some (.putfield 21, 3) := by decide +kernel
theorem zfe_2_26 : zfetch 2 26 = some (.aload_n 0, 1) := by decide +kernel
theorem zfe_2_27 : zfetch 2 27 = some (.iconst (-1), 1) := by decide +kernel
theorem zfe_2_28 : zfetch 2 28 = some (.putfield 25, 3) := by decide +kernel
theorem zfe_2_31 : zfetch 2 31 = some (.aload_n 0, 1) := by decide +kernel
theorem zfe_2_32 : zfetch 2 32 = some (.iconst 0, 1) := by decide +kernel
theorem zfe_2_33 : zfetch 2 33 = some (.putfield 28, 3) := by decide +kernel
theorem zfe_2_36 : zfetch 2 36 = some (.aload_n 0, 1) := by decide +kernel
theorem zfe_2_37 : zfetch 2 37 = some (.iconst 0, 1) := by decide +kernel
theorem zfe_2_38 : zfetch 2 38 = some (.putfield 31, 3) := by decide +kernel
theorem zfe_2_41 : zfetch 2 41 = some (.aload_n 0, 1) := by decide +kernel
theorem zfe_2_42 : zfetch 2 42 = some (.iconst 0, 1) := by decide +kernel
theorem zfe_2_43 : zfetch 2 43 = some (.putfield 34, 3) := by decide +kernel
theorem zfe_2_46 : zfetch 2 46 = some (.return_, 1) := by decide +kernel
theorem zlk_2_3 : zlink 2 3 = some (11, 0, 0) := by decide +kernel
theorem zlk_2_9 : zlink 2 9 = some (0, 1, 0) := by decide +kernel
theorem zlk_2_17 : zlink 2 17 = some (0, 1, 1) := by decide +kernel
theorem zlk_2_21 : zlink 2 21 = some (0, 1, 2) := by decide +kernel
theorem zlk_2_25 : zlink 2 25 = some (0, 1, 3) := by decide +kernel
theorem zlk_2_28 : zlink 2 28 = some (0, 1, 4) := by decide +kernel
theorem zlk_2_31 : zlink 2 31 = some (0, 1, 5) := by decide +kernel
theorem zlk_2_34 : zlink 2 34 = some (0, 1, 6) := by decide +kernel
theorem zlk_2_100015 : zlink 2 100015 = some (3, 6, 0) := by decide +kernel
-- 3: PactLedger$Output.<init>()V
theorem znl_3 : (z_meth[3]?).map (fun m => m.2.2.1) = some 1 := by decide +kernel
theorem zrt_3 : (z_meth[3]?).map (fun m => m.2.2.2.1) = some none := by decide +kernel
theorem zfe_3_0 : zfetch 3 0 = some (.aload_n 0, 1) := by decide +kernel
theorem zfe_3_1 : zfetch 3 1 = some (.invokespecial 3, 3) := by decide +kernel
theorem zfe_3_4 : zfetch 3 4 = some (.aload_n 0, 1) := by decide +kernel
theorem zfe_3_5 : zfetch 3 5 = some (.sipush 2686, 3) := by decide +kernel
theorem zfe_3_8 : zfetch 3 8 = some (.newarray .byte, 2) := by decide +kernel
theorem zfe_3_10 : zfetch 3 10 = some (.putfield 9, 3) := by decide +kernel
theorem zfe_3_13 : zfetch 3 13 = some (.aload_n 0, 1) := by decide +kernel
theorem zfe_3_14 : zfetch 3 14 = some (.iconst 0, 1) := by decide +kernel
theorem zfe_3_15 : zfetch 3 15 = some (.putfield 15, 3) := by decide +kernel
theorem zfe_3_18 : zfetch 3 18 = some (.return_, 1) := by decide +kernel
theorem zlk_3_3 : zlink 3 3 = some (11, 0, 0) := by decide +kernel
theorem zlk_3_9 : zlink 3 9 = some (0, 2, 0) := by decide +kernel
theorem zlk_3_15 : zlink 3 15 = some (0, 2, 1) := by decide +kernel
-- 4: PactLedger.wrong()I
theorem znl_4 : (z_meth[4]?).map (fun m => m.2.2.1) = some 1 := by decide +kernel
theorem zrt_4 : (z_meth[4]?).map (fun m => m.2.2.2.1) = some (some .int) := by decide +kernel
theorem zfe_4_0 : zfetch 4 0 = some (.aload_n 0, 1) := by decide +kernel
theorem zfe_4_1 : zfetch 4 1 = some (.getfield 10, 3) := by decide +kernel
theorem zfe_4_4 : zfetch 4 4 = some (.getfield 123, 3) := by decide +kernel
theorem zfe_4_7 : zfetch 4 7 = some (.ireturn, 1) := by decide +kernel
theorem zlk_4_10 : zlink 4 10 = some (0, 0, 0) := by decide +kernel
theorem zlk_4_123 : zlink 4 123 = some (1, 1, 3) := by decide +kernel
-- 5: PactLedger.octet(I)I
theorem znl_5 : (z_meth[5]?).map (fun m => m.2.2.1) = some 2 := by decide +kernel
theorem zrt_5 : (z_meth[5]?).map (fun m => m.2.2.2.1) = some (some .int) := by decide +kernel
theorem zfe_5_0 : zfetch 5 0 = some (.aload_n 0, 1) := by decide +kernel
theorem zfe_5_1 : zfetch 5 1 = some (.getfield 19, 3) := by decide +kernel
theorem zfe_5_4 : zfetch 5 4 = some (.iload_n 1, 1) := by decide +kernel
theorem zfe_5_5 : zfetch 5 5 = some (.invokevirtual 211, 3) := by decide +kernel
theorem zfe_5_8 : zfetch 5 8 = some (.ireturn, 1) := by decide +kernel
theorem zlk_5_19 : zlink 5 19 = some (0, 0, 1) := by decide +kernel
theorem zlk_5_211 : zlink 5 211 = some (7, 6, 1) := by decide +kernel
-- 6: PactLedger$Output.at(I)I
theorem znl_6 : (z_meth[6]?).map (fun m => m.2.2.1) = some 2 := by decide +kernel
theorem zrt_6 : (z_meth[6]?).map (fun m => m.2.2.2.1) = some (some .int) := by decide +kernel
theorem zfe_6_0 : zfetch 6 0 = some (.iload_n 1, 1) := by decide +kernel
theorem zfe_6_1 : zfetch 6 1 = some (.ifCond .lt 20, 3) := by decide +kernel
theorem zfe_6_4 : zfetch 6 4 = some (.iload_n 1, 1) := by decide +kernel
theorem zfe_6_5 : zfetch 6 5 = some (.aload_n 0, 1) := by decide +kernel
theorem zfe_6_6 : zfetch 6 6 = some (.getfield 15, 3) := by decide +kernel
theorem zfe_6_9 : zfetch 6 9 = some (.if_icmp .ge 12, 3) := by decide +kernel
theorem zfe_6_12 : zfetch 6 12 = some (.iload_n 1, 1) := by decide +kernel
theorem zfe_6_13 : zfetch 6 13 = some (.aload_n 0, 1) := by decide +kernel
theorem zfe_6_14 : zfetch 6 14 = some (.getfield 9, 3) := by decide +kernel
theorem zfe_6_17 : zfetch 6 17 = some (.arraylength, 1) := by decide +kernel
theorem zfe_6_18 : zfetch 6 18 = some (.if_icmp .lt 7, 3) := by decide +kernel
theorem zfe_6_21 : zfetch 6 21 = some (.iconst (-1), 1) := by decide +kernel
theorem zfe_6_22 : zfetch 6 22 = some (.goto 13, 3) := by decide +kernel
theorem zfe_6_25 : zfetch 6 25 = some (.aload_n 0, 1) := by decide +kernel
theorem zfe_6_26 : zfetch 6 26 = some (.getfield 9, 3) := by decide +kernel
theorem zfe_6_29 : zfetch 6 29 = some (.iload_n 1, 1) := by decide +kernel
theorem zfe_6_30 : zfetch 6 30 = some (.baload, 1) := by decide +kernel
theorem zfe_6_31 : zfetch 6 31 = some (.sipush 255, 3) := by decide +kernel
theorem zfe_6_34 : zfetch 6 34 = some (.iand, 1) := by decide +kernel
theorem zfe_6_35 : zfetch 6 35 = some (.ireturn, 1) := by decide +kernel
theorem zlk_6_9 : zlink 6 9 = some (0, 2, 0) := by decide +kernel
theorem zlk_6_15 : zlink 6 15 = some (0, 2, 1) := by decide +kernel
-- 7: PactLedger.about(II)I
theorem znl_7 : (z_meth[7]?).map (fun m => m.2.2.1) = some 4 := by decide +kernel
theorem zrt_7 : (z_meth[7]?).map (fun m => m.2.2.2.1) = some (some .int) := by decide +kernel
theorem zfe_7_0 : zfetch 7 0 = some (.aload_n 0, 1) := by decide +kernel
theorem zfe_7_1 : zfetch 7 1 = some (.iload_n 1, 1) := by decide +kernel
theorem zfe_7_2 : zfetch 7 2 = some (.invokevirtual 127, 3) := by decide +kernel
theorem zfe_7_5 : zfetch 7 5 = some (.astore_n 3, 1) := by decide +kernel
theorem zfe_7_6 : zfetch 7 6 = some (.aload_n 3, 1) := by decide +kernel
theorem zfe_7_7 : zfetch 7 7 = some (.ifnonnull 5, 3) := by decide +kernel
theorem zfe_7_10 : zfetch 7 10 = some (.iconst (-1), 1) := by decide +kernel
theorem zfe_7_11 : zfetch 7 11 = some (.ireturn, 1) := by decide +kernel
theorem zfe_7_12 : zfetch 7 12 = some (.iload_n 2, 1) := by decide +kernel
theorem zfe_7_13 : zfetch 7 13 = some (.tableswitch 88 0 5 #[39, 44, 49, 54, 59, 78], 39) := by decide +kernel
theorem zfe_7_52 : zfetch 7 52 = some (.aload_n 3, 1) := by decide +kernel
theorem zfe_7_53 : zfetch 7 53 = some (.getfield 118, 3) := by decide +kernel
theorem zfe_7_56 : zfetch 7 56 = some (.ireturn, 1) := by decide +kernel
theorem zfe_7_57 : zfetch 7 57 = some (.aload_n 3, 1) := by decide +kernel
theorem zfe_7_58 : zfetch 7 58 = some (.getfield 122, 3) := by decide +kernel
theorem zfe_7_61 : zfetch 7 61 = some (.ireturn, 1) := by decide +kernel
theorem zfe_7_62 : zfetch 7 62 = some (.aload_n 3, 1) := by decide +kernel
theorem zfe_7_63 : zfetch 7 63 = some (.getfield 181, 3) := by decide +kernel
theorem zfe_7_66 : zfetch 7 66 = some (.ireturn, 1) := by decide +kernel
theorem zfe_7_67 : zfetch 7 67 = some (.aload_n 3, 1) := by decide +kernel
theorem zfe_7_68 : zfetch 7 68 = some (.getfield 184, 3) := by decide +kernel
theorem zfe_7_71 : zfetch 7 71 = some (.ireturn, 1) := by decide +kernel
theorem zfe_7_72 : zfetch 7 72 = some (.aload_n 3, 1) := by decide +kernel
theorem zfe_7_73 : zfetch 7 73 = some (.invokevirtual 197, 3) := by decide +kernel
theorem zfe_7_76 : zfetch 7 76 = some (.ifCond .eq 13, 3) := by decide +kernel
theorem zfe_7_79 : zfetch 7 79 = some (.aload_n 3, 1) := by decide +kernel
theorem zfe_7_80 : zfetch 7 80 = some (.invokevirtual 204, 3) := by decide +kernel
theorem zfe_7_83 : zfetch 7 83 = some (.getfield 214, 3) := by decide +kernel
theorem zfe_7_86 : zfetch 7 86 = some (.goto 4, 3) := by decide +kernel
theorem zfe_7_89 : zfetch 7 89 = some (.iconst (-1), 1) := by decide +kernel
theorem zfe_7_90 : zfetch 7 90 = some (.ireturn, 1) := by decide +kernel
theorem zfe_7_91 : zfetch 7 91 = some (.aload_n 3, 1) := by decide +kernel
theorem zfe_7_92 : zfetch 7 92 = some (.getfield 144, 3) := by decide +kernel
theorem zfe_7_95 : zfetch 7 95 = some (.bipush 100, 2) := by decide +kernel
theorem zfe_7_97 : zfetch 7 97 = some (.invokevirtual 171, 3) := by decide +kernel
theorem zfe_7_100 : zfetch 7 100 = some (.ireturn, 1) := by decide +kernel
theorem zfe_7_101 : zfetch 7 101 = some (.iconst (-1), 1) := by decide +kernel
theorem zfe_7_102 : zfetch 7 102 = some (.ireturn, 1) := by decide +kernel
theorem zlk_7_118 : zlink 7 118 = some (1, 10, 4) := by decide +kernel
theorem zlk_7_122 : zlink 7 122 = some (1, 10, 5) := by decide +kernel
theorem zlk_7_127 : zlink 7 127 = some (7, 8, 1) := by decide +kernel
theorem zlk_7_144 : zlink 7 144 = some (1, 10, 3) := by decide +kernel
theorem zlk_7_171 : zlink 7 171 = some (7, 13, 1) := by decide +kernel
theorem zlk_7_181 : zlink 7 181 = some (1, 10, 6) := by decide +kernel
theorem zlk_7_184 : zlink 7 184 = some (1, 10, 7) := by decide +kernel
theorem zlk_7_197 : zlink 7 197 = some (7, 9, 0) := by decide +kernel
theorem zlk_7_204 : zlink 7 204 = some (7, 11, 0) := by decide +kernel
theorem zlk_7_214 : zlink 7 214 = some (1, 3, 1) := by decide +kernel
-- 8: PactLedger.contractAt(I)LPactLedger$Contract;
theorem znl_8 : (z_meth[8]?).map (fun m => m.2.2.1) = some 2 := by decide +kernel
theorem zrt_8 : (z_meth[8]?).map (fun m => m.2.2.2.1) = some (some (.object "PactLedger$Contract")) := by decide +kernel
theorem zfe_8_0 : zfetch 8 0 = some (.iload_n 1, 1) := by decide +kernel
theorem zfe_8_1 : zfetch 8 1 = some (.ifCond .lt 20, 3) := by decide +kernel
theorem zfe_8_4 : zfetch 8 4 = some (.iload_n 1, 1) := by decide +kernel
theorem zfe_8_5 : zfetch 8 5 = some (.aload_n 0, 1) := by decide +kernel
theorem zfe_8_6 : zfetch 8 6 = some (.getfield 29, 3) := by decide +kernel
theorem zfe_8_9 : zfetch 8 9 = some (.if_icmp .ge 12, 3) := by decide +kernel
theorem zfe_8_12 : zfetch 8 12 = some (.iload_n 1, 1) := by decide +kernel
theorem zfe_8_13 : zfetch 8 13 = some (.aload_n 0, 1) := by decide +kernel
theorem zfe_8_14 : zfetch 8 14 = some (.getfield 25, 3) := by decide +kernel
theorem zfe_8_17 : zfetch 8 17 = some (.arraylength, 1) := by decide +kernel
theorem zfe_8_18 : zfetch 8 18 = some (.if_icmp .lt 7, 3) := by decide +kernel
theorem zfe_8_21 : zfetch 8 21 = some (.aconst_null, 1) := by decide +kernel
theorem zfe_8_22 : zfetch 8 22 = some (.goto 9, 3) := by decide +kernel
theorem zfe_8_25 : zfetch 8 25 = some (.aload_n 0, 1) := by decide +kernel
theorem zfe_8_26 : zfetch 8 26 = some (.getfield 25, 3) := by decide +kernel
theorem zfe_8_29 : zfetch 8 29 = some (.iload_n 1, 1) := by decide +kernel
theorem zfe_8_30 : zfetch 8 30 = some (.aaload, 1) := by decide +kernel
theorem zfe_8_31 : zfetch 8 31 = some (.areturn, 1) := by decide +kernel
theorem zlk_8_25 : zlink 8 25 = some (0, 0, 2) := by decide +kernel
theorem zlk_8_29 : zlink 8 29 = some (0, 0, 3) := by decide +kernel
-- 16: PactLedger.count(I)I
theorem znl_16 : (z_meth[16]?).map (fun m => m.2.2.1) = some 2 := by decide +kernel
theorem zrt_16 : (z_meth[16]?).map (fun m => m.2.2.2.1) = some (some .int) := by decide +kernel
theorem zfe_16_0 : zfetch 16 0 = some (.iload_n 1, 1) := by decide +kernel
theorem zfe_16_1 : zfetch 16 1 = some (.tableswitch 48 0 2 #[27, 32, 40], 27) := by decide +kernel
theorem zfe_16_28 : zfetch 16 28 = some (.aload_n 0, 1) := by decide +kernel
theorem zfe_16_29 : zfetch 16 29 = some (.getfield 29, 3) := by decide +kernel
theorem zfe_16_32 : zfetch 16 32 = some (.ireturn, 1) := by decide +kernel
theorem zfe_16_33 : zfetch 16 33 = some (.aload_n 0, 1) := by decide +kernel
theorem zfe_16_34 : zfetch 16 34 = some (.getfield 10, 3) := by decide +kernel
theorem zfe_16_37 : zfetch 16 37 = some (.getfield 36, 3) := by decide +kernel
theorem zfe_16_40 : zfetch 16 40 = some (.ireturn, 1) := by decide +kernel
theorem zfe_16_41 : zfetch 16 41 = some (.aload_n 0, 1) := by decide +kernel
theorem zfe_16_42 : zfetch 16 42 = some (.getfield 19, 3) := by decide +kernel
theorem zfe_16_45 : zfetch 16 45 = some (.getfield 196, 3) := by decide +kernel
theorem zfe_16_48 : zfetch 16 48 = some (.ireturn, 1) := by decide +kernel
theorem zfe_16_49 : zfetch 16 49 = some (.iconst (-1), 1) := by decide +kernel
theorem zfe_16_50 : zfetch 16 50 = some (.ireturn, 1) := by decide +kernel
theorem zlk_16_10 : zlink 16 10 = some (0, 0, 0) := by decide +kernel
theorem zlk_16_19 : zlink 16 19 = some (0, 0, 1) := by decide +kernel
theorem zlk_16_29 : zlink 16 29 = some (0, 0, 3) := by decide +kernel
theorem zlk_16_36 : zlink 16 36 = some (1, 1, 2) := by decide +kernel
theorem zlk_16_196 : zlink 16 196 = some (1, 2, 1) := by decide +kernel
-- 17: PactLedgerLaw.put(LPactLedger;JI[J)I
theorem znl_17 : (z_meth[17]?).map (fun m => m.2.2.1) = some 6 := by decide +kernel
theorem zrt_17 : (z_meth[17]?).map (fun m => m.2.2.2.1) = some (some .int) := by decide +kernel
theorem zfe_17_0 : zfetch 17 0 = some (.aload 4, 2) := by decide +kernel
theorem zfe_17_2 : zfetch 17 2 = some (.iconst 0, 1) := by decide +kernel
theorem zfe_17_3 : zfetch 17 3 = some (.aload_n 0, 1) := by decide +kernel
theorem zfe_17_4 : zfetch 17 4 = some (.lload_n 1, 1) := by decide +kernel
theorem zfe_17_5 : zfetch 17 5 = some (.iload_n 3, 1) := by decide +kernel
theorem zfe_17_6 : zfetch 17 6 = some (.invokevirtual 7, 3) := by decide +kernel
theorem zfe_17_9 : zfetch 17 9 = some (.i2l, 1) := by decide +kernel
theorem zfe_17_10 : zfetch 17 10 = some (.lastore, 1) := by decide +kernel
theorem zfe_17_11 : zfetch 17 11 = some (.goto 11, 3) := by decide +kernel
theorem zfe_17_14 : zfetch 17 14 = some (.astore 5, 2) := by decide +kernel
theorem zfe_17_16 : zfetch 17 16 = some (.iconst 1, 1) := by decide +kernel
theorem zfe_17_17 : zfetch 17 17 = some (.ireturn, 1) := by decide +kernel
theorem zfe_17_18 : zfetch 17 18 = some (.astore 5, 2) := by decide +kernel
theorem zfe_17_20 : zfetch 17 20 = some (.iconst 2, 1) := by decide +kernel
theorem zfe_17_21 : zfetch 17 21 = some (.ireturn, 1) := by decide +kernel
theorem zfe_17_22 : zfetch 17 22 = some (.iconst 0, 1) := by decide +kernel
theorem zfe_17_23 : zfetch 17 23 = some (.ireturn, 1) := by decide +kernel
theorem zlk_17_7 : zlink 17 7 = some (7, 18, 2) := by decide +kernel
-- 18: PactLedger.put(JI)I
theorem znl_18 : (z_meth[18]?).map (fun m => m.2.2.1) = some 4 := by decide +kernel
theorem zrt_18 : (z_meth[18]?).map (fun m => m.2.2.2.1) = some (some .int) := by decide +kernel
theorem zfe_18_0 : zfetch 18 0 = some (.iload_n 3, 1) := by decide +kernel
theorem zfe_18_1 : zfetch 18 1 = some (.iconst 1, 1) := by decide +kernel
theorem zfe_18_2 : zfetch 18 2 = some (.if_icmp .lt 9, 3) := by decide +kernel
theorem zfe_18_5 : zfetch 18 5 = some (.iload_n 3, 1) := by decide +kernel
theorem zfe_18_6 : zfetch 18 6 = some (.bipush 8, 2) := by decide +kernel
theorem zfe_18_8 : zfetch 18 8 = some (.if_icmp .le 11, 3) := by decide +kernel
theorem zfe_18_11 : zfetch 18 11 = some (.new 33, 3) := by decide +kernel
theorem zfe_18_14 : zfetch 18 14 = some (.dup, 1) := by decide +kernel
theorem zfe_18_15 : zfetch 18 15 = some (.invokespecial 35, 3) := by decide +kernel
theorem zfe_18_18 : zfetch 18 18 = some (.athrow, 1) := by decide +kernel
theorem zfe_18_19 : zfetch 18 19 = some (.aload_n 0, 1) := by decide +kernel
theorem zfe_18_20 : zfetch 18 20 = some (.getfield 10, 3) := by decide +kernel
theorem zfe_18_23 : zfetch 18 23 = some (.getfield 36, 3) := by decide +kernel
theorem zfe_18_26 : zfetch 18 26 = some (.iload_n 3, 1) := by decide +kernel
theorem zfe_18_27 : zfetch 18 27 = some (.iadd, 1) := by decide +kernel
theorem zfe_18_28 : zfetch 18 28 = some (.sipush 240, 3) := by decide +kernel
theorem zfe_18_31 : zfetch 18 31 = some (.if_icmp .le 11, 3) := by decide +kernel
theorem zfe_18_34 : zfetch 18 34 = some (.new 39, 3) := by decide +kernel
theorem zfe_18_37 : zfetch 18 37 = some (.dup, 1) := by decide +kernel
theorem zfe_18_38 : zfetch 18 38 = some (.invokespecial 41, 3) := by decide +kernel
theorem zfe_18_41 : zfetch 18 41 = some (.athrow, 1) := by decide +kernel
theorem zfe_18_42 : zfetch 18 42 = some (.aload_n 0, 1) := by decide +kernel
theorem zfe_18_43 : zfetch 18 43 = some (.getfield 10, 3) := by decide +kernel
theorem zfe_18_46 : zfetch 18 46 = some (.lload_n 1, 1) := by decide +kernel
theorem zfe_18_47 : zfetch 18 47 = some (.iload_n 3, 1) := by decide +kernel
theorem zfe_18_48 : zfetch 18 48 = some (.invokevirtual 42, 3) := by decide +kernel
theorem zfe_18_51 : zfetch 18 51 = some (.aload_n 0, 1) := by decide +kernel
theorem zfe_18_52 : zfetch 18 52 = some (.getfield 10, 3) := by decide +kernel
theorem zfe_18_55 : zfetch 18 55 = some (.getfield 36, 3) := by decide +kernel
theorem zfe_18_58 : zfetch 18 58 = some (.ireturn, 1) := by decide +kernel
theorem zlk_18_10 : zlink 18 10 = some (0, 0, 0) := by decide +kernel
theorem zlk_18_33 : zlink 18 33 = some (4, 0, 35) := by decide +kernel
theorem zlk_18_35 : zlink 18 35 = some (14, 0, 0) := by decide +kernel
theorem zlk_18_36 : zlink 18 36 = some (1, 1, 2) := by decide +kernel
theorem zlk_18_39 : zlink 18 39 = some (4, 1, 41) := by decide +kernel
theorem zlk_18_41 : zlink 18 41 = some (14, 1, 0) := by decide +kernel
theorem zlk_18_42 : zlink 18 42 = some (7, 19, 2) := by decide +kernel
-- 19: PactLedger$Buffer.append(JI)V
theorem znl_19 : (z_meth[19]?).map (fun m => m.2.2.1) = some 5 := by decide +kernel
theorem zrt_19 : (z_meth[19]?).map (fun m => m.2.2.2.1) = some none := by decide +kernel
theorem zfe_19_0 : zfetch 19 0 = some (.iload_n 3, 1) := by decide +kernel
theorem zfe_19_1 : zfetch 19 1 = some (.iconst 1, 1) := by decide +kernel
theorem zfe_19_2 : zfetch 19 2 = some (.isub, 1) := by decide +kernel
theorem zfe_19_3 : zfetch 19 3 = some (.istore 4, 2) := by decide +kernel
theorem zfe_19_5 : zfetch 19 5 = some (.iload 4, 2) := by decide +kernel
theorem zfe_19_7 : zfetch 19 7 = some (.ifCond .lt 49, 3) := by decide +kernel
theorem zfe_19_10 : zfetch 19 10 = some (.aload_n 0, 1) := by decide +kernel
theorem zfe_19_11 : zfetch 19 11 = some (.getfield 21, 3) := by decide +kernel
theorem zfe_19_14 : zfetch 19 14 = some (.aload_n 0, 1) := by decide +kernel
theorem zfe_19_15 : zfetch 19 15 = some (.getfield 9, 3) := by decide +kernel
theorem zfe_19_18 : zfetch 19 18 = some (.arraylength, 1) := by decide +kernel
theorem zfe_19_19 : zfetch 19 19 = some (.if_icmp .ge 37, 3) := by decide +kernel
theorem zfe_19_22 : zfetch 19 22 = some (.aload_n 0, 1) := by decide +kernel
theorem zfe_19_23 : zfetch 19 23 = some (.getfield 9, 3) := by decide +kernel
theorem zfe_19_26 : zfetch 19 26 = some (.aload_n 0, 1) := by decide +kernel
theorem zfe_19_27 : zfetch 19 27 = some (.getfield 21, 3) := by decide +kernel
theorem zfe_19_30 : zfetch 19 30 = some (.lload_n 1, 1) := by decide +kernel
theorem zfe_19_31 : zfetch 19 31 = some (.bipush 8, 2) := by decide +kernel
theorem zfe_19_33 : zfetch 19 33 = some (.iload 4, 2) := by decide +kernel
theorem zfe_19_35 : zfetch 19 35 = some (.imul, 1) := by decide +kernel
theorem zfe_19_36 : zfetch 19 36 = some (.lushr, 1) := by decide +kernel
theorem zfe_19_37 : zfetch 19 37 = some (.l2i, 1) := by decide +kernel
theorem zfe_19_38 : zfetch 19 38 = some (.i2b, 1) := by decide +kernel
theorem zfe_19_39 : zfetch 19 39 = some (.bastore, 1) := by decide +kernel
theorem zfe_19_40 : zfetch 19 40 = some (.aload_n 0, 1) := by decide +kernel
theorem zfe_19_41 : zfetch 19 41 = some (.aload_n 0, 1) := by decide +kernel
theorem zfe_19_42 : zfetch 19 42 = some (.getfield 21, 3) := by decide +kernel
theorem zfe_19_45 : zfetch 19 45 = some (.iconst 1, 1) := by decide +kernel
theorem zfe_19_46 : zfetch 19 46 = some (.iadd, 1) := by decide +kernel
theorem zfe_19_47 : zfetch 19 47 = some (.putfield 21, 3) := by decide +kernel
theorem zfe_19_50 : zfetch 19 50 = some (.iinc 4 (-1), 3) := by decide +kernel
theorem zfe_19_53 : zfetch 19 53 = some (.goto (-48), 3) := by decide +kernel
theorem zfe_19_56 : zfetch 19 56 = some (.return_, 1) := by decide +kernel
theorem zlk_19_9 : zlink 19 9 = some (0, 1, 0) := by decide +kernel
theorem zlk_19_21 : zlink 19 21 = some (0, 1, 2) := by decide +kernel
-- 20: PactLedgerLaw.deploy(LPactLedger;[J)I
theorem znl_20 : (z_meth[20]?).map (fun m => m.2.2.1) = some 3 := by decide +kernel
theorem zrt_20 : (z_meth[20]?).map (fun m => m.2.2.2.1) = some (some .int) := by decide +kernel
theorem zfe_20_0 : zfetch 20 0 = some (.aload_n 1, 1) := by decide +kernel
theorem zfe_20_1 : zfetch 20 1 = some (.iconst 0, 1) := by decide +kernel
theorem zfe_20_2 : zfetch 20 2 = some (.aload_n 0, 1) := by decide +kernel
theorem zfe_20_3 : zfetch 20 3 = some (.invokevirtual 17, 3) := by decide +kernel
theorem zfe_20_6 : zfetch 20 6 = some (.i2l, 1) := by decide +kernel
theorem zfe_20_7 : zfetch 20 7 = some (.lastore, 1) := by decide +kernel
theorem zfe_20_8 : zfetch 20 8 = some (.goto 12, 3) := by decide +kernel
theorem zfe_20_11 : zfetch 20 11 = some (.astore_n 2, 1) := by decide +kernel
theorem zfe_20_12 : zfetch 20 12 = some (.iconst 1, 1) := by decide +kernel
theorem zfe_20_13 : zfetch 20 13 = some (.ireturn, 1) := by decide +kernel
theorem zfe_20_14 : zfetch 20 14 = some (.astore_n 2, 1) := by decide +kernel
theorem zfe_20_15 : zfetch 20 15 = some (.iconst 2, 1) := by decide +kernel
theorem zfe_20_16 : zfetch 20 16 = some (.ireturn, 1) := by decide +kernel
theorem zfe_20_17 : zfetch 20 17 = some (.astore_n 2, 1) := by decide +kernel
theorem zfe_20_18 : zfetch 20 18 = some (.iconst 3, 1) := by decide +kernel
theorem zfe_20_19 : zfetch 20 19 = some (.ireturn, 1) := by decide +kernel
theorem zfe_20_20 : zfetch 20 20 = some (.iconst 0, 1) := by decide +kernel
theorem zfe_20_21 : zfetch 20 21 = some (.ireturn, 1) := by decide +kernel
theorem zlk_20_17 : zlink 20 17 = some (7, 21, 0) := by decide +kernel
-- 21: PactLedger.deploy()I
theorem znl_21 : (z_meth[21]?).map (fun m => m.2.2.1) = some 12 := by decide +kernel
theorem zrt_21 : (z_meth[21]?).map (fun m => m.2.2.2.1) = some (some .int) := by decide +kernel
theorem zfe_21_0 : zfetch 21 0 = some (.aload_n 0, 1) := by decide +kernel
theorem zfe_21_1 : zfetch 21 1 = some (.getfield 29, 3) := by decide +kernel
theorem zfe_21_4 : zfetch 21 4 = some (.aload_n 0, 1) := by decide +kernel
theorem zfe_21_5 : zfetch 21 5 = some (.getfield 25, 3) := by decide +kernel
theorem zfe_21_8 : zfetch 21 8 = some (.arraylength, 1) := by decide +kernel
theorem zfe_21_9 : zfetch 21 9 = some (.if_icmp .lt 18, 3) := by decide +kernel
theorem zfe_21_12 : zfetch 21 12 = some (.aload_n 0, 1) := by decide +kernel
theorem zfe_21_13 : zfetch 21 13 = some (.getfield 10, 3) := by decide +kernel
theorem zfe_21_16 : zfetch 21 16 = some (.invokevirtual 46, 3) := by decide +kernel
theorem zfe_21_19 : zfetch 21 19 = some (.new 39, 3) := by decide +kernel
theorem zfe_21_22 : zfetch 21 22 = some (.dup, 1) := by decide +kernel
theorem zfe_21_23 : zfetch 21 23 = some (.invokespecial 41, 3) := by decide +kernel
theorem zfe_21_26 : zfetch 21 26 = some (.athrow, 1) := by decide +kernel
theorem zfe_21_27 : zfetch 21 27 = some (.aload_n 0, 1) := by decide +kernel
theorem zfe_21_28 : zfetch 21 28 = some (.getfield 10, 3) := by decide +kernel
theorem zfe_21_31 : zfetch 21 31 = some (.iconst 5, 1) := by decide +kernel
theorem zfe_21_32 : zfetch 21 32 = some (.invokevirtual 49, 3) := by decide +kernel
theorem zfe_21_35 : zfetch 21 35 = some (.astore_n 1, 1) := by decide +kernel
theorem zfe_21_36 : zfetch 21 36 = some (.new 53, 3) := by decide +kernel
theorem zfe_21_39 : zfetch 21 39 = some (.dup, 1) := by decide +kernel
theorem zfe_21_40 : zfetch 21 40 = some (.aload_n 0, 1) := by decide +kernel
theorem zfe_21_41 : zfetch 21 41 = some (.getfield 10, 3) := by decide +kernel
theorem zfe_21_44 : zfetch 21 44 = some (.invokespecial 55, 3) := by decide +kernel
theorem zfe_21_47 : zfetch 21 47 = some (.astore_n 2, 1) := by decide +kernel
theorem zfe_21_48 : zfetch 21 48 = some (.aload_n 2, 1) := by decide +kernel
theorem zfe_21_49 : zfetch 21 49 = some (.aload_n 1, 1) := by decide +kernel
theorem zfe_21_50 : zfetch 21 50 = some (.iconst 0, 1) := by decide +kernel
theorem zfe_21_51 : zfetch 21 51 = some (.invokevirtual 58, 3) := by decide +kernel
theorem zfe_21_54 : zfetch 21 54 = some (.iconst 0, 1) := by decide +kernel
theorem zfe_21_55 : zfetch 21 55 = some (.invokevirtual 63, 3) := by decide +kernel
theorem zfe_21_58 : zfetch 21 58 = some (.astore_n 3, 1) := by decide +kernel
theorem zfe_21_59 : zfetch 21 59 = some (.aload_n 2, 1) := by decide +kernel
theorem zfe_21_60 : zfetch 21 60 = some (.aload_n 1, 1) := by decide +kernel
theorem zfe_21_61 : zfetch 21 61 = some (.iconst 1, 1) := by decide +kernel
theorem zfe_21_62 : zfetch 21 62 = some (.invokevirtual 58, 3) := by decide +kernel
theorem zfe_21_65 : zfetch 21 65 = some (.iconst 0, 1) := by decide +kernel
theorem zfe_21_66 : zfetch 21 66 = some (.invokevirtual 63, 3) := by decide +kernel
theorem zfe_21_69 : zfetch 21 69 = some (.astore 4, 2) := by decide +kernel
theorem zfe_21_71 : zfetch 21 71 = some (.aload_n 2, 1) := by decide +kernel
theorem zfe_21_72 : zfetch 21 72 = some (.aload_n 1, 1) := by decide +kernel
theorem zfe_21_73 : zfetch 21 73 = some (.iconst 2, 1) := by decide +kernel
theorem zfe_21_74 : zfetch 21 74 = some (.invokevirtual 58, 3) := by decide +kernel
theorem zfe_21_77 : zfetch 21 77 = some (.iconst 1, 1) := by decide +kernel
theorem zfe_21_78 : zfetch 21 78 = some (.invokevirtual 63, 3) := by decide +kernel
theorem zfe_21_81 : zfetch 21 81 = some (.astore 5, 2) := by decide +kernel
theorem zfe_21_83 : zfetch 21 83 = some (.aload_n 1, 1) := by decide +kernel
theorem zfe_21_84 : zfetch 21 84 = some (.iconst 3, 1) := by decide +kernel
theorem zfe_21_85 : zfetch 21 85 = some (.invokevirtual 58, 3) := by decide +kernel
theorem zfe_21_88 : zfetch 21 88 = some (.astore 6, 2) := by decide +kernel
theorem zfe_21_90 : zfetch 21 90 = some (.aload_n 1, 1) := by decide +kernel
theorem zfe_21_91 : zfetch 21 91 = some (.iconst 4, 1) := by decide +kernel
theorem zfe_21_92 : zfetch 21 92 = some (.invokevirtual 58, 3) := by decide +kernel
theorem zfe_21_95 : zfetch 21 95 = some (.astore 7, 2) := by decide +kernel
theorem zfe_21_97 : zfetch 21 97 = some (.aload 6, 2) := by decide +kernel
theorem zfe_21_99 : zfetch 21 99 = some (.invokevirtual 67, 3) := by decide +kernel
theorem zfe_21_102 : zfetch 21 102 = some (.anewarray 71, 3) := by decide +kernel
theorem zfe_21_105 : zfetch 21 105 = some (.astore 8, 2) := by decide +kernel
theorem zfe_21_107 : zfetch 21 107 = some (.aload_n 2, 1) := by decide +kernel
theorem zfe_21_108 : zfetch 21 108 = some (.aload 6, 2) := by decide +kernel
theorem zfe_21_110 : zfetch 21 110 = some (.aload 8, 2) := by decide +kernel
theorem zfe_21_112 : zfetch 21 112 = some (.aload_n 3, 1) := by decide +kernel
theorem zfe_21_113 : zfetch 21 113 = some (.aload 5, 2) := by decide +kernel
theorem zfe_21_115 : zfetch 21 115 = some (.invokestatic 73, 3) := by decide +kernel
theorem zfe_21_118 : zfetch 21 118 = some (.invokestatic 79, 3) := by decide +kernel
theorem zfe_21_121 : zfetch 21 121 = some (.iconst 0, 1) := by decide +kernel
theorem zfe_21_122 : zfetch 21 122 = some (.invokevirtual 85, 3) := by decide +kernel
theorem zfe_21_125 : zfetch 21 125 = some (.astore 9, 2) := by decide +kernel
theorem zfe_21_127 : zfetch 21 127 = some (.aload_n 2, 1) := by decide +kernel
theorem zfe_21_128 : zfetch 21 128 = some (.aload 9, 2) := by decide +kernel
theorem zfe_21_130 : zfetch 21 130 = some (.invokevirtual 89, 3) := by decide +kernel
theorem zfe_21_133 : zfetch 21 133 = some (.ifCond .ne 21, 3) := by decide +kernel
theorem zfe_21_136 : zfetch 21 136 = some (.aload 9, 2) := by decide +kernel
theorem zfe_21_138 : zfetch 21 138 = some (.aload 4, 2) := by decide +kernel
theorem zfe_21_140 : zfetch 21 140 = some (.aload 5, 2) := by decide +kernel
theorem zfe_21_142 : zfetch 21 142 = some (.invokestatic 73, 3) := by decide +kernel
theorem zfe_21_145 : zfetch 21 145 = some (.invokestatic 79, 3) := by decide +kernel
theorem zfe_21_148 : zfetch 21 148 = some (.invokestatic 93, 3) := by decide +kernel
theorem zfe_21_151 : zfetch 21 151 = some (.ifCond .eq 7, 3) := by decide +kernel
theorem zfe_21_154 : zfetch 21 154 = some (.iconst 1, 1) := by decide +kernel
theorem zfe_21_155 : zfetch 21 155 = some (.goto 4, 3) := by decide +kernel
theorem zfe_21_158 : zfetch 21 158 = some (.iconst 0, 1) := by decide +kernel
theorem zfe_21_159 : zfetch 21 159 = some (.aload 6, 2) := by decide +kernel
theorem zfe_21_161 : zfetch 21 161 = some (.getfield 97, 3) := by decide +kernel
theorem zfe_21_164 : zfetch 21 164 = some (.invokevirtual 100, 3) := by decide +kernel
theorem zfe_21_167 : zfetch 21 167 = some (.aload 5, 2) := by decide +kernel
theorem zfe_21_169 : zfetch 21 169 = some (.aload 7, 2) := by decide +kernel
theorem zfe_21_171 : zfetch 21 171 = some (.invokevirtual 104, 3) := by decide +kernel
theorem zfe_21_174 : zfetch 21 174 = some (.istore 10, 2) := by decide +kernel
theorem zfe_21_176 : zfetch 21 176 = some (.aload_n 2, 1) := by decide +kernel
theorem zfe_21_177 : zfetch 21 177 = some (.iload 10, 2) := by decide +kernel
theorem zfe_21_179 : zfetch 21 179 = some (.iconst (-1), 1) := by decide +kernel
theorem zfe_21_180 : zfetch 21 180 = some (.if_icmp .ne 7, 3) := by decide +kernel
theorem zfe_21_183 : zfetch 21 183 = some (.iconst 1, 1) := by decide +kernel
theorem zfe_21_184 : zfetch 21 184 = some (.goto 4, 3) := by decide +kernel
theorem zfe_21_187 : zfetch 21 187 = some (.iconst 0, 1) := by decide +kernel
theorem zfe_21_188 : zfetch 21 188 = some (.iload 10, 2) := by decide +kernel
theorem zfe_21_190 : zfetch 21 190 = some (.invokevirtual 100, 3) := by decide +kernel
theorem zfe_21_193 : zfetch 21 193 = some (.new 23, 3) := by decide +kernel
theorem zfe_21_196 : zfetch 21 196 = some (.dup, 1) := by decide +kernel
theorem zfe_21_197 : zfetch 21 197 = some (.aload_n 3, 1) := by decide +kernel
theorem zfe_21_198 : zfetch 21 198 = some (.aload 5, 2) := by decide +kernel
theorem zfe_21_200 : zfetch 21 200 = some (.aload 8, 2) := by decide +kernel
theorem zfe_21_202 : zfetch 21 202 = some (.aload 7, 2) := by decide +kernel
theorem zfe_21_204 : zfetch 21 204 = some (.getfield 108, 3) := by decide +kernel
theorem zfe_21_207 : zfetch 21 207 = some (.invokespecial 112, 3) := by decide +kernel
theorem zfe_21_210 : zfetch 21 210 = some (.astore 11, 2) := by decide +kernel
theorem zfe_21_212 : zfetch 21 212 = some (.aload 11, 2) := by decide +kernel
theorem zfe_21_214 : zfetch 21 214 = some (.aload_n 2, 1) := by decide +kernel
theorem zfe_21_215 : zfetch 21 215 = some (.getfield 115, 3) := by decide +kernel
theorem zfe_21_218 : zfetch 21 218 = some (.putfield 118, 3) := by decide +kernel
theorem zfe_21_221 : zfetch 21 221 = some (.aload 11, 2) := by decide +kernel
theorem zfe_21_223 : zfetch 21 223 = some (.aload_n 2, 1) := by decide +kernel
theorem zfe_21_224 : zfetch 21 224 = some (.getfield 119, 3) := by decide +kernel
theorem zfe_21_227 : zfetch 21 227 = some (.putfield 122, 3) := by decide +kernel
theorem zfe_21_230 : zfetch 21 230 = some (.aload_n 0, 1) := by decide +kernel
theorem zfe_21_231 : zfetch 21 231 = some (.getfield 25, 3) := by decide +kernel
theorem zfe_21_234 : zfetch 21 234 = some (.aload_n 0, 1) := by decide +kernel
theorem zfe_21_235 : zfetch 21 235 = some (.getfield 29, 3) := by decide +kernel
theorem zfe_21_238 : zfetch 21 238 = some (.aload 11, 2) := by decide +kernel
theorem zfe_21_240 : zfetch 21 240 = some (.aastore, 1) := by decide +kernel
theorem zfe_21_241 : zfetch 21 241 = some (.aload_n 0, 1) := by decide +kernel
theorem zfe_21_242 : zfetch 21 242 = some (.aload_n 0, 1) := by decide +kernel
theorem zfe_21_243 : zfetch 21 243 = some (.getfield 29, 3) := by decide +kernel
theorem zfe_21_246 : zfetch 21 246 = some (.iconst 1, 1) := by decide +kernel
theorem zfe_21_247 : zfetch 21 247 = some (.iadd, 1) := by decide +kernel
theorem zfe_21_248 : zfetch 21 248 = some (.putfield 29, 3) := by decide +kernel
theorem zfe_21_251 : zfetch 21 251 = some (.aload_n 0, 1) := by decide +kernel
theorem zfe_21_252 : zfetch 21 252 = some (.getfield 29, 3) := by decide +kernel
theorem zfe_21_255 : zfetch 21 255 = some (.iconst 1, 1) := by decide +kernel
theorem zfe_21_256 : zfetch 21 256 = some (.isub, 1) := by decide +kernel
theorem zfe_21_257 : zfetch 21 257 = some (.ireturn, 1) := by decide +kernel
theorem zlk_21_10 : zlink 21 10 = some (0, 0, 0) := by decide +kernel
theorem zlk_21_23 : zlink 21 23 = some (2, 10, 0) := by decide +kernel
theorem zlk_21_25 : zlink 21 25 = some (0, 0, 2) := by decide +kernel
theorem zlk_21_29 : zlink 21 29 = some (0, 0, 3) := by decide +kernel
theorem zlk_21_39 : zlink 21 39 = some (4, 1, 41) := by decide +kernel
theorem zlk_21_41 : zlink 21 41 = some (14, 1, 0) := by decide +kernel
theorem zlk_21_46 : zlink 21 46 = some (7, 22, 0) := by decide +kernel
theorem zlk_21_49 : zlink 21 49 = some (7, 23, 1) := by decide +kernel
theorem zlk_21_53 : zlink 21 53 = some (2, 6, 0) := by decide +kernel
theorem zlk_21_55 : zlink 21 55 = some (9, 45, 1) := by decide +kernel
theorem zlk_21_58 : zlink 21 58 = some (7, 46, 1) := by decide +kernel
theorem zlk_21_63 : zlink 21 63 = some (7, 47, 2) := by decide +kernel
theorem zlk_21_67 : zlink 21 67 = some (7, 51, 0) := by decide +kernel
theorem zlk_21_73 : zlink 21 73 = some (5, 52, 2) := by decide +kernel
theorem zlk_21_79 : zlink 21 79 = some (5, 53, 1) := by decide +kernel
theorem zlk_21_85 : zlink 21 85 = some (7, 56, 4) := by decide +kernel
theorem zlk_21_89 : zlink 21 89 = some (7, 57, 0) := by decide +kernel
theorem zlk_21_93 : zlink 21 93 = some (5, 72, 2) := by decide +kernel
theorem zlk_21_97 : zlink 21 97 = some (1, 4, 0) := by decide +kernel
theorem zlk_21_100 : zlink 21 100 = some (7, 49, 2) := by decide +kernel
theorem zlk_21_104 : zlink 21 104 = some (7, 76, 1) := by decide +kernel
theorem zlk_21_108 : zlink 21 108 = some (1, 4, 4) := by decide +kernel
theorem zlk_21_112 : zlink 21 112 = some (9, 92, 4) := by decide +kernel
theorem zlk_21_115 : zlink 21 115 = some (1, 6, 1) := by decide +kernel
theorem zlk_21_118 : zlink 21 118 = some (1, 10, 4) := by decide +kernel
theorem zlk_21_119 : zlink 21 119 = some (1, 6, 2) := by decide +kernel
theorem zlk_21_122 : zlink 21 122 = some (1, 10, 5) := by decide +kernel
theorem zlk_21_100071 : zlink 21 100071 = some (3, 7, 0) := by decide +kernel
-- 22: PactLedger$Buffer.clear()V
theorem znl_22 : (z_meth[22]?).map (fun m => m.2.2.1) = some 1 := by decide +kernel
theorem zrt_22 : (z_meth[22]?).map (fun m => m.2.2.2.1) = some none := by decide +kernel
theorem zfe_22_0 : zfetch 22 0 = some (.aload_n 0, 1) := by decide +kernel
theorem zfe_22_1 : zfetch 22 1 = some (.iconst 0, 1) := by decide +kernel
theorem zfe_22_2 : zfetch 22 2 = some (.putfield 21, 3) := by decide +kernel
theorem zfe_22_5 : zfetch 22 5 = some (.return_, 1) := by decide +kernel
theorem zlk_22_21 : zlink 22 21 = some (0, 1, 2) := by decide +kernel
-- 23: PactLedger$Buffer.read(I)LPactLedger$Node;
theorem znl_23 : (z_meth[23]?).map (fun m => m.2.2.1) = some 3 := by decide +kernel
theorem zrt_23 : (z_meth[23]?).map (fun m => m.2.2.2.1) = some (some (.object "PactLedger$Node")) := by decide +kernel
theorem zfe_23_0 : zfetch 23 0 = some (.aload_n 0, 1) := by decide +kernel
theorem zfe_23_1 : zfetch 23 1 = some (.aload_n 0, 1) := by decide +kernel
theorem zfe_23_2 : zfetch 23 2 = some (.getfield 21, 3) := by decide +kernel
theorem zfe_23_5 : zfetch 23 5 = some (.putfield 28, 3) := by decide +kernel
theorem zfe_23_8 : zfetch 23 8 = some (.aload_n 0, 1) := by decide +kernel
theorem zfe_23_9 : zfetch 23 9 = some (.iconst 0, 1) := by decide +kernel
theorem zfe_23_10 : zfetch 23 10 = some (.putfield 21, 3) := by decide +kernel
theorem zfe_23_13 : zfetch 23 13 = some (.aload_n 0, 1) := by decide +kernel
theorem zfe_23_14 : zfetch 23 14 = some (.iconst (-1), 1) := by decide +kernel
theorem zfe_23_15 : zfetch 23 15 = some (.putfield 25, 3) := by decide +kernel
theorem zfe_23_18 : zfetch 23 18 = some (.aload_n 0, 1) := by decide +kernel
theorem zfe_23_19 : zfetch 23 19 = some (.iconst 0, 1) := by decide +kernel
theorem zfe_23_20 : zfetch 23 20 = some (.putfield 31, 3) := by decide +kernel
theorem zfe_23_23 : zfetch 23 23 = some (.aload_n 0, 1) := by decide +kernel
theorem zfe_23_24 : zfetch 23 24 = some (.iconst 0, 1) := by decide +kernel
theorem zfe_23_25 : zfetch 23 25 = some (.putfield 34, 3) := by decide +kernel
theorem zfe_23_28 : zfetch 23 28 = some (.new 15, 3) := by decide +kernel
theorem zfe_23_31 : zfetch 23 31 = some (.dup, 1) := by decide +kernel
theorem zfe_23_32 : zfetch 23 32 = some (.iconst 0, 1) := by decide +kernel
theorem zfe_23_33 : zfetch 23 33 = some (.iconst 2, 1) := by decide +kernel
theorem zfe_23_34 : zfetch 23 34 = some (.iconst 0, 1) := by decide +kernel
theorem zfe_23_35 : zfetch 23 35 = some (.aload_n 0, 1) := by decide +kernel
theorem zfe_23_36 : zfetch 23 36 = some (.iload_n 1, 1) := by decide +kernel
theorem zfe_23_37 : zfetch 23 37 = some (.iconst 1, 1) := by decide +kernel
theorem zfe_23_38 : zfetch 23 38 = some (.invokevirtual 37, 3) := by decide +kernel
theorem zfe_23_41 : zfetch 23 41 = some (.invokestatic 41, 3) := by decide +kernel
theorem zfe_23_44 : zfetch 23 44 = some (.invokespecial 47, 3) := by decide +kernel
theorem zfe_23_47 : zfetch 23 47 = some (.astore_n 2, 1) := by decide +kernel
theorem zfe_23_48 : zfetch 23 48 = some (.aload_n 0, 1) := by decide +kernel
theorem zfe_23_49 : zfetch 23 49 = some (.aload_n 0, 1) := by decide +kernel
theorem zfe_23_50 : zfetch 23 50 = some (.getfield 31, 3) := by decide +kernel
theorem zfe_23_53 : zfetch 23 53 = some (.aload_n 0, 1) := by decide +kernel
theorem zfe_23_54 : zfetch 23 54 = some (.getfield 28, 3) := by decide +kernel
theorem zfe_23_57 : zfetch 23 57 = some (.if_icmp .ne 7, 3) := by decide +kernel
theorem zfe_23_60 : zfetch 23 60 = some (.iconst 1, 1) := by decide +kernel
theorem zfe_23_61 : zfetch 23 61 = some (.goto 4, 3) := by decide +kernel
theorem zfe_23_64 : zfetch 23 64 = some (.iconst 0, 1) := by decide +kernel
theorem zfe_23_65 : zfetch 23 65 = some (.aload_n 0, 1) := by decide +kernel
theorem zfe_23_66 : zfetch 23 66 = some (.getfield 31, 3) := by decide +kernel
theorem zfe_23_69 : zfetch 23 69 = some (.invokevirtual 50, 3) := by decide +kernel
theorem zfe_23_72 : zfetch 23 72 = some (.aload_n 2, 1) := by decide +kernel
theorem zfe_23_73 : zfetch 23 73 = some (.areturn, 1) := by decide +kernel
theorem zlk_23_15 : zlink 23 15 = some (2, 4, 0) := by decide +kernel
theorem zlk_23_21 : zlink 23 21 = some (0, 1, 2) := by decide +kernel
theorem zlk_23_25 : zlink 23 25 = some (0, 1, 3) := by decide +kernel
theorem zlk_23_28 : zlink 23 28 = some (0, 1, 4) := by decide +kernel
theorem zlk_23_31 : zlink 23 31 = some (0, 1, 5) := by decide +kernel
theorem zlk_23_34 : zlink 23 34 = some (0, 1, 6) := by decide +kernel
theorem zlk_23_37 : zlink 23 37 = some (7, 24, 2) := by decide +kernel
theorem zlk_23_41 : zlink 23 41 = some (5, 44, 0) := by decide +kernel
theorem zlk_23_47 : zlink 23 47 = some (9, 36, 5) := by decide +kernel
theorem zlk_23_50 : zlink 23 50 = some (7, 27, 2) := by decide +kernel
-- 24: PactLedger$Buffer.parts(II)[LPactLedger$Node;
theorem znl_24 : (z_meth[24]?).map (fun m => m.2.2.1) = some 5 := by decide +kernel
theorem zrt_24 : (z_meth[24]?).map (fun m => m.2.2.2.1) = some (some (.array (.object "PactLedger$Node"))) := by decide +kernel
theorem zfe_24_0 : zfetch 24 0 = some (.iload_n 1, 1) := by decide +kernel
theorem zfe_24_1 : zfetch 24 1 = some (.anewarray 15, 3) := by decide +kernel
theorem zfe_24_4 : zfetch 24 4 = some (.astore_n 3, 1) := by decide +kernel
theorem zfe_24_5 : zfetch 24 5 = some (.iconst 0, 1) := by decide +kernel
theorem zfe_24_6 : zfetch 24 6 = some (.istore 4, 2) := by decide +kernel
theorem zfe_24_8 : zfetch 24 8 = some (.iload 4, 2) := by decide +kernel
theorem zfe_24_10 : zfetch 24 10 = some (.iload_n 1, 1) := by decide +kernel
theorem zfe_24_11 : zfetch 24 11 = some (.if_icmp .ge 18, 3) := by decide +kernel
theorem zfe_24_14 : zfetch 24 14 = some (.aload_n 3, 1) := by decide +kernel
theorem zfe_24_15 : zfetch 24 15 = some (.iload 4, 2) := by decide +kernel
theorem zfe_24_17 : zfetch 24 17 = some (.aload_n 0, 1) := by decide +kernel
theorem zfe_24_18 : zfetch 24 18 = some (.iload_n 2, 1) := by decide +kernel
theorem zfe_24_19 : zfetch 24 19 = some (.invokevirtual 64, 3) := by decide +kernel
theorem zfe_24_22 : zfetch 24 22 = some (.aastore, 1) := by decide +kernel
theorem zfe_24_23 : zfetch 24 23 = some (.iinc 4 1, 3) := by decide +kernel
theorem zfe_24_26 : zfetch 24 26 = some (.goto (-18), 3) := by decide +kernel
theorem zfe_24_29 : zfetch 24 29 = some (.aload_n 3, 1) := by decide +kernel
theorem zfe_24_30 : zfetch 24 30 = some (.areturn, 1) := by decide +kernel
theorem zlk_24_64 : zlink 24 64 = some (7, 25, 1) := by decide +kernel
theorem zlk_24_100015 : zlink 24 100015 = some (3, 6, 0) := by decide +kernel
-- 25: PactLedger$Buffer.node(I)LPactLedger$Node;
theorem znl_25 : (z_meth[25]?).map (fun m => m.2.2.1) = some 6 := by decide +kernel
theorem zrt_25 : (z_meth[25]?).map (fun m => m.2.2.2.1) = some (some (.object "PactLedger$Node")) := by decide +kernel
theorem zfe_25_0 : zfetch 25 0 = some (.aload_n 0, 1) := by decide +kernel
theorem zfe_25_1 : zfetch 25 1 = some (.getfield 31, 3) := by decide +kernel
theorem zfe_25_4 : zfetch 25 4 = some (.istore_n 2, 1) := by decide +kernel
theorem zfe_25_5 : zfetch 25 5 = some (.aload_n 0, 1) := by decide +kernel
theorem zfe_25_6 : zfetch 25 6 = some (.invokevirtual 68, 3) := by decide +kernel
theorem zfe_25_9 : zfetch 25 9 = some (.istore_n 3, 1) := by decide +kernel
theorem zfe_25_10 : zfetch 25 10 = some (.aload_n 0, 1) := by decide +kernel
theorem zfe_25_11 : zfetch 25 11 = some (.iload_n 1, 1) := by decide +kernel
theorem zfe_25_12 : zfetch 25 12 = some (.bipush 9, 2) := by decide +kernel
theorem zfe_25_14 : zfetch 25 14 = some (.if_icmp .gt 16, 3) := by decide +kernel
theorem zfe_25_17 : zfetch 25 17 = some (.aload_n 0, 1) := by decide +kernel
theorem zfe_25_18 : zfetch 25 18 = some (.getfield 34, 3) := by decide +kernel
theorem zfe_25_21 : zfetch 25 21 = some (.bipush 100, 2) := by decide +kernel
theorem zfe_25_23 : zfetch 25 23 = some (.if_icmp .ge 7, 3) := by decide +kernel
theorem zfe_25_26 : zfetch 25 26 = some (.iconst 1, 1) := by decide +kernel
theorem zfe_25_27 : zfetch 25 27 = some (.goto 4, 3) := by decide +kernel
theorem zfe_25_30 : zfetch 25 30 = some (.iconst 0, 1) := by decide +kernel
theorem zfe_25_31 : zfetch 25 31 = some (.iload_n 2, 1) := by decide +kernel
theorem zfe_25_32 : zfetch 25 32 = some (.invokevirtual 50, 3) := by decide +kernel
theorem zfe_25_35 : zfetch 25 35 = some (.aload_n 0, 1) := by decide +kernel
theorem zfe_25_36 : zfetch 25 36 = some (.aload_n 0, 1) := by decide +kernel
theorem zfe_25_37 : zfetch 25 37 = some (.getfield 34, 3) := by decide +kernel
theorem zfe_25_40 : zfetch 25 40 = some (.iconst 1, 1) := by decide +kernel
theorem zfe_25_41 : zfetch 25 41 = some (.iadd, 1) := by decide +kernel
theorem zfe_25_42 : zfetch 25 42 = some (.putfield 34, 3) := by decide +kernel
theorem zfe_25_45 : zfetch 25 45 = some (.iload_n 3, 1) := by decide +kernel
theorem zfe_25_46 : zfetch 25 46 = some (.ifCond .ne 22, 3) := by decide +kernel
theorem zfe_25_49 : zfetch 25 49 = some (.new 15, 3) := by decide +kernel
theorem zfe_25_52 : zfetch 25 52 = some (.dup, 1) := by decide +kernel
theorem zfe_25_53 : zfetch 25 53 = some (.iload_n 2, 1) := by decide +kernel
theorem zfe_25_54 : zfetch 25 54 = some (.iload_n 3, 1) := by decide +kernel
theorem zfe_25_55 : zfetch 25 55 = some (.iconst 0, 1) := by decide +kernel
theorem zfe_25_56 : zfetch 25 56 = some (.aload_n 0, 1) := by decide +kernel
theorem zfe_25_57 : zfetch 25 57 = some (.getfield 17, 3) := by decide +kernel
theorem zfe_25_60 : zfetch 25 60 = some (.aload_n 0, 1) := by decide +kernel
theorem zfe_25_61 : zfetch 25 61 = some (.invokevirtual 72, 3) := by decide +kernel
theorem zfe_25_64 : zfetch 25 64 = some (.invokespecial 47, 3) := by decide +kernel
theorem zfe_25_67 : zfetch 25 67 = some (.areturn, 1) := by decide +kernel
theorem zfe_25_68 : zfetch 25 68 = some (.iload_n 3, 1) := by decide +kernel
theorem zfe_25_69 : zfetch 25 69 = some (.iconst 1, 1) := by decide +kernel
theorem zfe_25_70 : zfetch 25 70 = some (.if_icmp .ne 28, 3) := by decide +kernel
theorem zfe_25_73 : zfetch 25 73 = some (.new 15, 3) := by decide +kernel
theorem zfe_25_76 : zfetch 25 76 = some (.dup, 1) := by decide +kernel
theorem zfe_25_77 : zfetch 25 77 = some (.iload_n 2, 1) := by decide +kernel
theorem zfe_25_78 : zfetch 25 78 = some (.iload_n 3, 1) := by decide +kernel
theorem zfe_25_79 : zfetch 25 79 = some (.iconst 0, 1) := by decide +kernel
theorem zfe_25_80 : zfetch 25 80 = some (.aload_n 0, 1) := by decide +kernel
theorem zfe_25_81 : zfetch 25 81 = some (.getfield 17, 3) := by decide +kernel
theorem zfe_25_84 : zfetch 25 84 = some (.aload_n 0, 1) := by decide +kernel
theorem zfe_25_85 : zfetch 25 85 = some (.aload_n 0, 1) := by decide +kernel
theorem zfe_25_86 : zfetch 25 86 = some (.bipush 8, 2) := by decide +kernel
theorem zfe_25_88 : zfetch 25 88 = some (.invokevirtual 75, 3) := by decide +kernel
theorem zfe_25_91 : zfetch 25 91 = some (.invokevirtual 79, 3) := by decide +kernel
theorem zfe_25_94 : zfetch 25 94 = some (.invokespecial 47, 3) := by decide +kernel
theorem zfe_25_97 : zfetch 25 97 = some (.areturn, 1) := by decide +kernel
theorem zfe_25_98 : zfetch 25 98 = some (.iload_n 3, 1) := by decide +kernel
theorem zfe_25_99 : zfetch 25 99 = some (.iconst 2, 1) := by decide +kernel
theorem zfe_25_100 : zfetch 25 100 = some (.if_icmp .ne 36, 3) := by decide +kernel
theorem zfe_25_103 : zfetch 25 103 = some (.aload_n 0, 1) := by decide +kernel
theorem zfe_25_104 : zfetch 25 104 = some (.aload_n 0, 1) := by decide +kernel
theorem zfe_25_105 : zfetch 25 105 = some (.bipush 40, 2) := by decide +kernel
theorem zfe_25_107 : zfetch 25 107 = some (.invokevirtual 75, 3) := by decide +kernel
theorem zfe_25_110 : zfetch 25 110 = some (.iload_n 1, 1) := by decide +kernel
theorem zfe_25_111 : zfetch 25 111 = some (.iconst 1, 1) := by decide +kernel
theorem zfe_25_112 : zfetch 25 112 = some (.iadd, 1) := by decide +kernel
theorem zfe_25_113 : zfetch 25 113 = some (.invokevirtual 37, 3) := by decide +kernel
theorem zfe_25_116 : zfetch 25 116 = some (.astore 4, 2) := by decide +kernel
theorem zfe_25_118 : zfetch 25 118 = some (.new 15, 3) := by decide +kernel
theorem zfe_25_121 : zfetch 25 121 = some (.dup, 1) := by decide +kernel
theorem zfe_25_122 : zfetch 25 122 = some (.iload_n 2, 1) := by decide +kernel
theorem zfe_25_123 : zfetch 25 123 = some (.iload_n 3, 1) := by decide +kernel
theorem zfe_25_124 : zfetch 25 124 = some (.iconst 0, 1) := by decide +kernel
theorem zfe_25_125 : zfetch 25 125 = some (.aload 4, 2) := by decide +kernel
theorem zfe_25_127 : zfetch 25 127 = some (.aload 4, 2) := by decide +kernel
theorem zfe_25_129 : zfetch 25 129 = some (.invokestatic 83, 3) := by decide +kernel
theorem zfe_25_132 : zfetch 25 132 = some (.invokespecial 47, 3) := by decide +kernel
theorem zfe_25_135 : zfetch 25 135 = some (.areturn, 1) := by decide +kernel
theorem zfe_25_136 : zfetch 25 136 = some (.aload_n 0, 1) := by decide +kernel
theorem zfe_25_137 : zfetch 25 137 = some (.iload_n 3, 1) := by decide +kernel
theorem zfe_25_138 : zfetch 25 138 = some (.iconst 4, 1) := by decide +kernel
theorem zfe_25_139 : zfetch 25 139 = some (.if_icmp .lt 13, 3) := by decide +kernel
theorem zfe_25_142 : zfetch 25 142 = some (.iload_n 3, 1) := by decide +kernel
theorem zfe_25_143 : zfetch 25 143 = some (.bipush 7, 2) := by decide +kernel
theorem zfe_25_145 : zfetch 25 145 = some (.if_icmp .gt 7, 3) := by decide +kernel
theorem zfe_25_148 : zfetch 25 148 = some (.iconst 1, 1) := by decide +kernel
theorem zfe_25_149 : zfetch 25 149 = some (.goto 4, 3) := by decide +kernel
theorem zfe_25_152 : zfetch 25 152 = some (.iconst 0, 1) := by decide +kernel
theorem zfe_25_153 : zfetch 25 153 = some (.iload_n 2, 1) := by decide +kernel
theorem zfe_25_154 : zfetch 25 154 = some (.invokevirtual 50, 3) := by decide +kernel
theorem zfe_25_157 : zfetch 25 157 = some (.aload_n 0, 1) := by decide +kernel
theorem zfe_25_158 : zfetch 25 158 = some (.invokevirtual 68, 3) := by decide +kernel
theorem zfe_25_161 : zfetch 25 161 = some (.istore 4, 2) := by decide +kernel
theorem zfe_25_163 : zfetch 25 163 = some (.iload_n 3, 1) := by decide +kernel
theorem zfe_25_164 : zfetch 25 164 = some (.iconst 4, 1) := by decide +kernel
theorem zfe_25_165 : zfetch 25 165 = some (.if_icmp .ne 10, 3) := by decide +kernel
theorem zfe_25_168 : zfetch 25 168 = some (.aload_n 0, 1) := by decide +kernel
theorem zfe_25_169 : zfetch 25 169 = some (.getfield 17, 3) := by decide +kernel
theorem zfe_25_172 : zfetch 25 172 = some (.goto 13, 3) := by decide +kernel
theorem zfe_25_175 : zfetch 25 175 = some (.aload_n 0, 1) := by decide +kernel
theorem zfe_25_176 : zfetch 25 176 = some (.iload_n 3, 1) := by decide +kernel
theorem zfe_25_177 : zfetch 25 177 = some (.iconst 4, 1) := by decide +kernel
theorem zfe_25_178 : zfetch 25 178 = some (.isub, 1) := by decide +kernel
theorem zfe_25_179 : zfetch 25 179 = some (.iload_n 1, 1) := by decide +kernel
theorem zfe_25_180 : zfetch 25 180 = some (.iconst 1, 1) := by decide +kernel
theorem zfe_25_181 : zfetch 25 181 = some (.iadd, 1) := by decide +kernel
theorem zfe_25_182 : zfetch 25 182 = some (.invokevirtual 37, 3) := by decide +kernel
theorem zfe_25_185 : zfetch 25 185 = some (.astore 5, 2) := by decide +kernel
theorem zfe_25_187 : zfetch 25 187 = some (.new 15, 3) := by decide +kernel
theorem zfe_25_190 : zfetch 25 190 = some (.dup, 1) := by decide +kernel
theorem zfe_25_191 : zfetch 25 191 = some (.iload_n 2, 1) := by decide +kernel
theorem zfe_25_192 : zfetch 25 192 = some (.iconst 4, 1) := by decide +kernel
theorem zfe_25_193 : zfetch 25 193 = some (.iload 4, 2) := by decide +kernel
theorem zfe_25_195 : zfetch 25 195 = some (.aload 5, 2) := by decide +kernel
theorem zfe_25_197 : zfetch 25 197 = some (.iload 4, 2) := by decide +kernel
theorem zfe_25_199 : zfetch 25 199 = some (.aload 5, 2) := by decide +kernel
theorem zfe_25_201 : zfetch 25 201 = some (.invokestatic 87, 3) := by decide +kernel
theorem zfe_25_204 : zfetch 25 204 = some (.invokespecial 47, 3) := by decide +kernel
theorem zfe_25_207 : zfetch 25 207 = some (.areturn, 1) := by decide +kernel
theorem zlk_25_15 : zlink 25 15 = some (2, 4, 0) := by decide +kernel
theorem zlk_25_17 : zlink 25 17 = some (0, 1, 1) := by decide +kernel
theorem zlk_25_31 : zlink 25 31 = some (0, 1, 5) := by decide +kernel
theorem zlk_25_34 : zlink 25 34 = some (0, 1, 6) := by decide +kernel
theorem zlk_25_37 : zlink 25 37 = some (7, 24, 2) := by decide +kernel
theorem zlk_25_47 : zlink 25 47 = some (9, 36, 5) := by decide +kernel
theorem zlk_25_50 : zlink 25 50 = some (7, 27, 2) := by decide +kernel
theorem zlk_25_68 : zlink 25 68 = some (7, 26, 0) := by decide +kernel
theorem zlk_25_72 : zlink 25 72 = some (7, 28, 0) := by decide +kernel
theorem zlk_25_75 : zlink 25 75 = some (7, 37, 1) := by decide +kernel
theorem zlk_25_79 : zlink 25 79 = some (7, 38, 1) := by decide +kernel
theorem zlk_25_83 : zlink 25 83 = some (5, 40, 1) := by decide +kernel
theorem zlk_25_87 : zlink 25 87 = some (5, 42, 2) := by decide +kernel
-- 26: PactLedger$Buffer.next()I
theorem znl_26 : (z_meth[26]?).map (fun m => m.2.2.1) = some 2 := by decide +kernel
theorem zrt_26 : (z_meth[26]?).map (fun m => m.2.2.2.1) = some (some .int) := by decide +kernel
theorem zfe_26_0 : zfetch 26 0 = some (.aload_n 0, 1) := by decide +kernel
theorem zfe_26_1 : zfetch 26 1 = some (.aload_n 0, 1) := by decide +kernel
theorem zfe_26_2 : zfetch 26 2 = some (.getfield 31, 3) := by decide +kernel
theorem zfe_26_5 : zfetch 26 5 = some (.aload_n 0, 1) := by decide +kernel
theorem zfe_26_6 : zfetch 26 6 = some (.getfield 28, 3) := by decide +kernel
theorem zfe_26_9 : zfetch 26 9 = some (.if_icmp .ge 19, 3) := by decide +kernel
theorem zfe_26_12 : zfetch 26 12 = some (.aload_n 0, 1) := by decide +kernel
theorem zfe_26_13 : zfetch 26 13 = some (.getfield 31, 3) := by decide +kernel
theorem zfe_26_16 : zfetch 26 16 = some (.aload_n 0, 1) := by decide +kernel
theorem zfe_26_17 : zfetch 26 17 = some (.getfield 9, 3) := by decide +kernel
theorem zfe_26_20 : zfetch 26 20 = some (.arraylength, 1) := by decide +kernel
theorem zfe_26_21 : zfetch 26 21 = some (.if_icmp .ge 7, 3) := by decide +kernel
theorem zfe_26_24 : zfetch 26 24 = some (.iconst 1, 1) := by decide +kernel
theorem zfe_26_25 : zfetch 26 25 = some (.goto 4, 3) := by decide +kernel
theorem zfe_26_28 : zfetch 26 28 = some (.iconst 0, 1) := by decide +kernel
theorem zfe_26_29 : zfetch 26 29 = some (.aload_n 0, 1) := by decide +kernel
theorem zfe_26_30 : zfetch 26 30 = some (.getfield 28, 3) := by decide +kernel
theorem zfe_26_33 : zfetch 26 33 = some (.invokevirtual 50, 3) := by decide +kernel
theorem zfe_26_36 : zfetch 26 36 = some (.aload_n 0, 1) := by decide +kernel
theorem zfe_26_37 : zfetch 26 37 = some (.getfield 9, 3) := by decide +kernel
theorem zfe_26_40 : zfetch 26 40 = some (.aload_n 0, 1) := by decide +kernel
theorem zfe_26_41 : zfetch 26 41 = some (.getfield 31, 3) := by decide +kernel
theorem zfe_26_44 : zfetch 26 44 = some (.baload, 1) := by decide +kernel
theorem zfe_26_45 : zfetch 26 45 = some (.sipush 255, 3) := by decide +kernel
theorem zfe_26_48 : zfetch 26 48 = some (.iand, 1) := by decide +kernel
theorem zfe_26_49 : zfetch 26 49 = some (.istore_n 1, 1) := by decide +kernel
theorem zfe_26_50 : zfetch 26 50 = some (.aload_n 0, 1) := by decide +kernel
theorem zfe_26_51 : zfetch 26 51 = some (.aload_n 0, 1) := by decide +kernel
theorem zfe_26_52 : zfetch 26 52 = some (.getfield 31, 3) := by decide +kernel
theorem zfe_26_55 : zfetch 26 55 = some (.iconst 1, 1) := by decide +kernel
theorem zfe_26_56 : zfetch 26 56 = some (.iadd, 1) := by decide +kernel
theorem zfe_26_57 : zfetch 26 57 = some (.putfield 31, 3) := by decide +kernel
theorem zfe_26_60 : zfetch 26 60 = some (.iload_n 1, 1) := by decide +kernel
theorem zfe_26_61 : zfetch 26 61 = some (.ireturn, 1) := by decide +kernel
theorem zlk_26_9 : zlink 26 9 = some (0, 1, 0) := by decide +kernel
theorem zlk_26_28 : zlink 26 28 = some (0, 1, 4) := by decide +kernel
theorem zlk_26_31 : zlink 26 31 = some (0, 1, 5) := by decide +kernel
theorem zlk_26_50 : zlink 26 50 = some (7, 27, 2) := by decide +kernel
-- 27: PactLedger$Buffer.require(ZI)V
theorem znl_27 : (z_meth[27]?).map (fun m => m.2.2.1) = some 3 := by decide +kernel
theorem zrt_27 : (z_meth[27]?).map (fun m => m.2.2.2.1) = some none := by decide +kernel
theorem zfe_27_0 : zfetch 27 0 = some (.iload_n 1, 1) := by decide +kernel
theorem zfe_27_1 : zfetch 27 1 = some (.ifCond .ne 16, 3) := by decide +kernel
theorem zfe_27_4 : zfetch 27 4 = some (.aload_n 0, 1) := by decide +kernel
theorem zfe_27_5 : zfetch 27 5 = some (.iload_n 2, 1) := by decide +kernel
theorem zfe_27_6 : zfetch 27 6 = some (.putfield 25, 3) := by decide +kernel
theorem zfe_27_9 : zfetch 27 9 = some (.new 113, 3) := by decide +kernel
theorem zfe_27_12 : zfetch 27 12 = some (.dup, 1) := by decide +kernel
theorem zfe_27_13 : zfetch 27 13 = some (.invokespecial 115, 3) := by decide +kernel
theorem zfe_27_16 : zfetch 27 16 = some (.athrow, 1) := by decide +kernel
theorem zfe_27_17 : zfetch 27 17 = some (.return_, 1) := by decide +kernel
theorem zlk_27_25 : zlink 27 25 = some (0, 1, 3) := by decide +kernel
theorem zlk_27_113 : zlink 27 113 = some (4, 0, 115) := by decide +kernel
theorem zlk_27_115 : zlink 27 115 = some (14, 0, 0) := by decide +kernel
-- 93: PactLedgerLaw.call(LPactLedger;III[J)I
theorem znl_93 : (z_meth[93]?).map (fun m => m.2.2.1) = some 6 := by decide +kernel
theorem zrt_93 : (z_meth[93]?).map (fun m => m.2.2.2.1) = some (some .int) := by decide +kernel
theorem zfe_93_0 : zfetch 93 0 = some (.aload 4, 2) := by decide +kernel
theorem zfe_93_2 : zfetch 93 2 = some (.iconst 0, 1) := by decide +kernel
theorem zfe_93_3 : zfetch 93 3 = some (.aload_n 0, 1) := by decide +kernel
theorem zfe_93_4 : zfetch 93 4 = some (.iload_n 1, 1) := by decide +kernel
theorem zfe_93_5 : zfetch 93 5 = some (.iload_n 2, 1) := by decide +kernel
theorem zfe_93_6 : zfetch 93 6 = some (.iload_n 3, 1) := by decide +kernel
theorem zfe_93_7 : zfetch 93 7 = some (.invokevirtual 23, 3) := by decide +kernel
theorem zfe_93_10 : zfetch 93 10 = some (.i2l, 1) := by decide +kernel
theorem zfe_93_11 : zfetch 93 11 = some (.lastore, 1) := by decide +kernel
theorem zfe_93_12 : zfetch 93 12 = some (.goto 19, 3) := by decide +kernel
theorem zfe_93_15 : zfetch 93 15 = some (.astore 5, 2) := by decide +kernel
theorem zfe_93_17 : zfetch 93 17 = some (.iconst 1, 1) := by decide +kernel
theorem zfe_93_18 : zfetch 93 18 = some (.ireturn, 1) := by decide +kernel
theorem zfe_93_19 : zfetch 93 19 = some (.astore 5, 2) := by decide +kernel
theorem zfe_93_21 : zfetch 93 21 = some (.iconst 2, 1) := by decide +kernel
theorem zfe_93_22 : zfetch 93 22 = some (.ireturn, 1) := by decide +kernel
theorem zfe_93_23 : zfetch 93 23 = some (.astore 5, 2) := by decide +kernel
theorem zfe_93_25 : zfetch 93 25 = some (.iconst 3, 1) := by decide +kernel
theorem zfe_93_26 : zfetch 93 26 = some (.ireturn, 1) := by decide +kernel
theorem zfe_93_27 : zfetch 93 27 = some (.astore 5, 2) := by decide +kernel
theorem zfe_93_29 : zfetch 93 29 = some (.iconst 4, 1) := by decide +kernel
theorem zfe_93_30 : zfetch 93 30 = some (.ireturn, 1) := by decide +kernel
theorem zfe_93_31 : zfetch 93 31 = some (.iconst 0, 1) := by decide +kernel
theorem zfe_93_32 : zfetch 93 32 = some (.ireturn, 1) := by decide +kernel
theorem zlk_93_23 : zlink 93 23 = some (7, 94, 3) := by decide +kernel
-- 94: PactLedger.call(III)I
theorem znl_94 : (z_meth[94]?).map (fun m => m.2.2.1) = some 8 := by decide +kernel
theorem zrt_94 : (z_meth[94]?).map (fun m => m.2.2.2.1) = some (some .int) := by decide +kernel
theorem zfe_94_0 : zfetch 94 0 = some (.aload_n 0, 1) := by decide +kernel
theorem zfe_94_1 : zfetch 94 1 = some (.getfield 19, 3) := by decide +kernel
theorem zfe_94_4 : zfetch 94 4 = some (.invokevirtual 126, 3) := by decide +kernel
theorem zfe_94_7 : zfetch 94 7 = some (.aload_n 0, 1) := by decide +kernel
theorem zfe_94_8 : zfetch 94 8 = some (.iload_n 1, 1) := by decide +kernel
theorem zfe_94_9 : zfetch 94 9 = some (.invokevirtual 127, 3) := by decide +kernel
theorem zfe_94_12 : zfetch 94 12 = some (.astore 4, 2) := by decide +kernel
theorem zfe_94_14 : zfetch 94 14 = some (.aload 4, 2) := by decide +kernel
theorem zfe_94_16 : zfetch 94 16 = some (.ifnull 26, 3) := by decide +kernel
theorem zfe_94_19 : zfetch 94 19 = some (.iload_n 2, 1) := by decide +kernel
theorem zfe_94_20 : zfetch 94 20 = some (.iconst 1, 1) := by decide +kernel
theorem zfe_94_21 : zfetch 94 21 = some (.if_icmp .lt 21, 3) := by decide +kernel
theorem zfe_94_24 : zfetch 94 24 = some (.iload_n 2, 1) := by decide +kernel
theorem zfe_94_25 : zfetch 94 25 = some (.bipush 120, 2) := by decide +kernel
theorem zfe_94_27 : zfetch 94 27 = some (.if_icmp .gt 15, 3) := by decide +kernel
theorem zfe_94_30 : zfetch 94 30 = some (.iload_n 3, 1) := by decide +kernel
theorem zfe_94_31 : zfetch 94 31 = some (.iconst 1, 1) := by decide +kernel
theorem zfe_94_32 : zfetch 94 32 = some (.if_icmp .lt 10, 3) := by decide +kernel
theorem zfe_94_35 : zfetch 94 35 = some (.iload_n 3, 1) := by decide +kernel
theorem zfe_94_36 : zfetch 94 36 = some (.sipush 150, 3) := by decide +kernel
theorem zfe_94_39 : zfetch 94 39 = some (.if_icmp .le 18, 3) := by decide +kernel
theorem zfe_94_42 : zfetch 94 42 = some (.aload_n 0, 1) := by decide +kernel
theorem zfe_94_43 : zfetch 94 43 = some (.getfield 10, 3) := by decide +kernel
theorem zfe_94_46 : zfetch 94 46 = some (.invokevirtual 46, 3) := by decide +kernel
theorem zfe_94_49 : zfetch 94 49 = some (.new 33, 3) := by decide +kernel
theorem zfe_94_52 : zfetch 94 52 = some (.dup, 1) := by decide +kernel
theorem zfe_94_53 : zfetch 94 53 = some (.invokespecial 35, 3) := by decide +kernel
theorem zfe_94_56 : zfetch 94 56 = some (.athrow, 1) := by decide +kernel
theorem zfe_94_57 : zfetch 94 57 = some (.aload_n 0, 1) := by decide +kernel
theorem zfe_94_58 : zfetch 94 58 = some (.getfield 10, 3) := by decide +kernel
theorem zfe_94_61 : zfetch 94 61 = some (.aload_n 0, 1) := by decide +kernel
theorem zfe_94_62 : zfetch 94 62 = some (.getfield 10, 3) := by decide +kernel
theorem zfe_94_65 : zfetch 94 65 = some (.iconst 1, 1) := by decide +kernel
theorem zfe_94_66 : zfetch 94 66 = some (.invokevirtual 49, 3) := by decide +kernel
theorem zfe_94_69 : zfetch 94 69 = some (.iconst 0, 1) := by decide +kernel
theorem zfe_94_70 : zfetch 94 70 = some (.invokevirtual 58, 3) := by decide +kernel
theorem zfe_94_73 : zfetch 94 73 = some (.aload 4, 2) := by decide +kernel
theorem zfe_94_75 : zfetch 94 75 = some (.getfield 131, 3) := by decide +kernel
theorem zfe_94_78 : zfetch 94 78 = some (.invokevirtual 135, 3) := by decide +kernel
theorem zfe_94_81 : zfetch 94 81 = some (.astore 5, 2) := by decide +kernel
theorem zfe_94_83 : zfetch 94 83 = some (.new 139, 3) := by decide +kernel
theorem zfe_94_86 : zfetch 94 86 = some (.dup, 1) := by decide +kernel
theorem zfe_94_87 : zfetch 94 87 = some (.aload_n 0, 1) := by decide +kernel
theorem zfe_94_88 : zfetch 94 88 = some (.getfield 19, 3) := by decide +kernel
theorem zfe_94_91 : zfetch 94 91 = some (.iload_n 2, 1) := by decide +kernel
theorem zfe_94_92 : zfetch 94 92 = some (.iload_n 3, 1) := by decide +kernel
theorem zfe_94_93 : zfetch 94 93 = some (.invokespecial 141, 3) := by decide +kernel
theorem zfe_94_96 : zfetch 94 96 = some (.astore 6, 2) := by decide +kernel
theorem zfe_94_98 : zfetch 94 98 = some (.aload 6, 2) := by decide +kernel
theorem zfe_94_100 : zfetch 94 100 = some (.bipush 23, 2) := by decide +kernel
theorem zfe_94_102 : zfetch 94 102 = some (.aload 5, 2) := by decide +kernel
theorem zfe_94_104 : zfetch 94 104 = some (.aload 4, 2) := by decide +kernel
theorem zfe_94_106 : zfetch 94 106 = some (.getfield 144, 3) := by decide +kernel
theorem zfe_94_109 : zfetch 94 109 = some (.invokestatic 147, 3) := by decide +kernel
theorem zfe_94_112 : zfetch 94 112 = some (.invokevirtual 153, 3) := by decide +kernel
theorem zfe_94_115 : zfetch 94 115 = some (.aload 6, 2) := by decide +kernel
theorem zfe_94_117 : zfetch 94 117 = some (.aload 4, 2) := by decide +kernel
theorem zfe_94_119 : zfetch 94 119 = some (.getfield 157, 3) := by decide +kernel
theorem zfe_94_122 : zfetch 94 122 = some (.invokevirtual 161, 3) := by decide +kernel
theorem zfe_94_125 : zfetch 94 125 = some (.aload 6, 2) := by decide +kernel
theorem zfe_94_127 : zfetch 94 127 = some (.invokevirtual 164, 3) := by decide +kernel
theorem zfe_94_130 : zfetch 94 130 = some (.astore 7, 2) := by decide +kernel
theorem zfe_94_132 : zfetch 94 132 = some (.aload 7, 2) := by decide +kernel
theorem zfe_94_134 : zfetch 94 134 = some (.invokevirtual 168, 3) := by decide +kernel
theorem zfe_94_137 : zfetch 94 137 = some (.bipush 100, 2) := by decide +kernel
theorem zfe_94_139 : zfetch 94 139 = some (.invokevirtual 171, 3) := by decide +kernel
theorem zfe_94_142 : zfetch 94 142 = some (.bipush 100, 2) := by decide +kernel
theorem zfe_94_144 : zfetch 94 144 = some (.if_icmp .gt 18, 3) := by decide +kernel
theorem zfe_94_147 : zfetch 94 147 = some (.aload 7, 2) := by decide +kernel
theorem zfe_94_149 : zfetch 94 149 = some (.invokevirtual 175, 3) := by decide +kernel
theorem zfe_94_152 : zfetch 94 152 = some (.bipush 100, 2) := by decide +kernel
theorem zfe_94_154 : zfetch 94 154 = some (.invokevirtual 171, 3) := by decide +kernel
theorem zfe_94_157 : zfetch 94 157 = some (.bipush 100, 2) := by decide +kernel
theorem zfe_94_159 : zfetch 94 159 = some (.if_icmp .le 11, 3) := by decide +kernel
theorem zfe_94_162 : zfetch 94 162 = some (.new 178, 3) := by decide +kernel
theorem zfe_94_165 : zfetch 94 165 = some (.dup, 1) := by decide +kernel
theorem zfe_94_166 : zfetch 94 166 = some (.invokespecial 180, 3) := by decide +kernel
theorem zfe_94_169 : zfetch 94 169 = some (.athrow, 1) := by decide +kernel
theorem zfe_94_170 : zfetch 94 170 = some (.aload 4, 2) := by decide +kernel
theorem zfe_94_172 : zfetch 94 172 = some (.aload 7, 2) := by decide +kernel
theorem zfe_94_174 : zfetch 94 174 = some (.invokevirtual 175, 3) := by decide +kernel
theorem zfe_94_177 : zfetch 94 177 = some (.putfield 144, 3) := by decide +kernel
theorem zfe_94_180 : zfetch 94 180 = some (.aload 4, 2) := by decide +kernel
theorem zfe_94_182 : zfetch 94 182 = some (.aload 4, 2) := by decide +kernel
theorem zfe_94_184 : zfetch 94 184 = some (.getfield 181, 3) := by decide +kernel
theorem zfe_94_187 : zfetch 94 187 = some (.iconst 1, 1) := by decide +kernel
theorem zfe_94_188 : zfetch 94 188 = some (.iadd, 1) := by decide +kernel
theorem zfe_94_189 : zfetch 94 189 = some (.putfield 181, 3) := by decide +kernel
theorem zfe_94_192 : zfetch 94 192 = some (.aload 4, 2) := by decide +kernel
theorem zfe_94_194 : zfetch 94 194 = some (.aload 4, 2) := by decide +kernel
theorem zfe_94_196 : zfetch 94 196 = some (.getfield 184, 3) := by decide +kernel
theorem zfe_94_199 : zfetch 94 199 = some (.aload 6, 2) := by decide +kernel
theorem zfe_94_201 : zfetch 94 201 = some (.getfield 187, 3) := by decide +kernel
theorem zfe_94_204 : zfetch 94 204 = some (.iadd, 1) := by decide +kernel
theorem zfe_94_205 : zfetch 94 205 = some (.putfield 184, 3) := by decide +kernel
theorem zfe_94_208 : zfetch 94 208 = some (.aload_n 0, 1) := by decide +kernel
theorem zfe_94_209 : zfetch 94 209 = some (.getfield 19, 3) := by decide +kernel
theorem zfe_94_212 : zfetch 94 212 = some (.aload 7, 2) := by decide +kernel
theorem zfe_94_214 : zfetch 94 214 = some (.invokevirtual 168, 3) := by decide +kernel
theorem zfe_94_217 : zfetch 94 217 = some (.invokevirtual 190, 3) := by decide +kernel
theorem zfe_94_220 : zfetch 94 220 = some (.aload 6, 2) := by decide +kernel
theorem zfe_94_222 : zfetch 94 222 = some (.getfield 187, 3) := by decide +kernel
theorem zfe_94_225 : zfetch 94 225 = some (.ireturn, 1) := by decide +kernel
theorem zlk_94_10 : zlink 94 10 = some (0, 0, 0) := by decide +kernel
theorem zlk_94_19 : zlink 94 19 = some (0, 0, 1) := by decide +kernel
theorem zlk_94_33 : zlink 94 33 = some (4, 0, 35) := by decide +kernel
theorem zlk_94_35 : zlink 94 35 = some (14, 0, 0) := by decide +kernel
theorem zlk_94_46 : zlink 94 46 = some (7, 22, 0) := by decide +kernel
theorem zlk_94_49 : zlink 94 49 = some (7, 23, 1) := by decide +kernel
theorem zlk_94_58 : zlink 94 58 = some (7, 46, 1) := by decide +kernel
theorem zlk_94_126 : zlink 94 126 = some (7, 95, 0) := by decide +kernel
theorem zlk_94_127 : zlink 94 127 = some (7, 8, 1) := by decide +kernel
theorem zlk_94_131 : zlink 94 131 = some (1, 10, 0) := by decide +kernel
theorem zlk_94_135 : zlink 94 135 = some (7, 96, 2) := by decide +kernel
theorem zlk_94_139 : zlink 94 139 = some (2, 11, 0) := by decide +kernel
theorem zlk_94_141 : zlink 94 141 = some (9, 97, 3) := by decide +kernel
theorem zlk_94_144 : zlink 94 144 = some (1, 10, 3) := by decide +kernel
theorem zlk_94_147 : zlink 94 147 = some (5, 43, 3) := by decide +kernel
theorem zlk_94_153 : zlink 94 153 = some (7, 98, 1) := by decide +kernel
theorem zlk_94_157 : zlink 94 157 = some (1, 10, 2) := by decide +kernel
theorem zlk_94_161 : zlink 94 161 = some (7, 99, 1) := by decide +kernel
theorem zlk_94_164 : zlink 94 164 = some (7, 103, 0) := by decide +kernel
theorem zlk_94_168 : zlink 94 168 = some (7, 12, 0) := by decide +kernel
theorem zlk_94_171 : zlink 94 171 = some (7, 13, 1) := by decide +kernel
theorem zlk_94_175 : zlink 94 175 = some (7, 81, 0) := by decide +kernel
theorem zlk_94_178 : zlink 94 178 = some (4, 3, 180) := by decide +kernel
theorem zlk_94_180 : zlink 94 180 = some (14, 3, 0) := by decide +kernel
theorem zlk_94_181 : zlink 94 181 = some (1, 10, 6) := by decide +kernel
theorem zlk_94_184 : zlink 94 184 = some (1, 10, 7) := by decide +kernel
theorem zlk_94_187 : zlink 94 187 = some (1, 11, 6) := by decide +kernel
theorem zlk_94_190 : zlink 94 190 = some (7, 113, 1) := by decide +kernel
-- 95: PactLedger$Output.clear()V
theorem znl_95 : (z_meth[95]?).map (fun m => m.2.2.1) = some 1 := by decide +kernel
theorem zrt_95 : (z_meth[95]?).map (fun m => m.2.2.2.1) = some none := by decide +kernel
theorem zfe_95_0 : zfetch 95 0 = some (.aload_n 0, 1) := by decide +kernel
theorem zfe_95_1 : zfetch 95 1 = some (.iconst 0, 1) := by decide +kernel
theorem zfe_95_2 : zfetch 95 2 = some (.putfield 15, 3) := by decide +kernel
theorem zfe_95_5 : zfetch 95 5 = some (.return_, 1) := by decide +kernel
theorem zlk_95_15 : zlink 95 15 = some (0, 2, 1) := by decide +kernel
-- 146: PactLedgerLaw.storage(LPactLedger;I[J)I
theorem znl_146 : (z_meth[146]?).map (fun m => m.2.2.1) = some 4 := by decide +kernel
theorem zrt_146 : (z_meth[146]?).map (fun m => m.2.2.2.1) = some (some .int) := by decide +kernel
theorem zfe_146_0 : zfetch 146 0 = some (.aload_n 2, 1) := by decide +kernel
theorem zfe_146_1 : zfetch 146 1 = some (.iconst 0, 1) := by decide +kernel
theorem zfe_146_2 : zfetch 146 2 = some (.aload_n 0, 1) := by decide +kernel
theorem zfe_146_3 : zfetch 146 3 = some (.iload_n 1, 1) := by decide +kernel
theorem zfe_146_4 : zfetch 146 4 = some (.invokevirtual 29, 3) := by decide +kernel
theorem zfe_146_7 : zfetch 146 7 = some (.i2l, 1) := by decide +kernel
theorem zfe_146_8 : zfetch 146 8 = some (.lastore, 1) := by decide +kernel
theorem zfe_146_9 : zfetch 146 9 = some (.goto 6, 3) := by decide +kernel
theorem zfe_146_12 : zfetch 146 12 = some (.astore_n 3, 1) := by decide +kernel
theorem zfe_146_13 : zfetch 146 13 = some (.iconst 1, 1) := by decide +kernel
theorem zfe_146_14 : zfetch 146 14 = some (.ireturn, 1) := by decide +kernel
theorem zfe_146_15 : zfetch 146 15 = some (.iconst 0, 1) := by decide +kernel
theorem zfe_146_16 : zfetch 146 16 = some (.ireturn, 1) := by decide +kernel
theorem zlk_146_29 : zlink 146 29 = some (7, 147, 1) := by decide +kernel
-- 147: PactLedger.storage(I)I
theorem znl_147 : (z_meth[147]?).map (fun m => m.2.2.1) = some 3 := by decide +kernel
theorem zrt_147 : (z_meth[147]?).map (fun m => m.2.2.2.1) = some (some .int) := by decide +kernel
theorem zfe_147_0 : zfetch 147 0 = some (.aload_n 0, 1) := by decide +kernel
theorem zfe_147_1 : zfetch 147 1 = some (.iload_n 1, 1) := by decide +kernel
theorem zfe_147_2 : zfetch 147 2 = some (.invokevirtual 127, 3) := by decide +kernel
theorem zfe_147_5 : zfetch 147 5 = some (.astore_n 2, 1) := by decide +kernel
theorem zfe_147_6 : zfetch 147 6 = some (.aload_n 2, 1) := by decide +kernel
theorem zfe_147_7 : zfetch 147 7 = some (.ifnonnull 11, 3) := by decide +kernel
theorem zfe_147_10 : zfetch 147 10 = some (.new 33, 3) := by decide +kernel
theorem zfe_147_13 : zfetch 147 13 = some (.dup, 1) := by decide +kernel
theorem zfe_147_14 : zfetch 147 14 = some (.invokespecial 35, 3) := by decide +kernel
theorem zfe_147_17 : zfetch 147 17 = some (.athrow, 1) := by decide +kernel
theorem zfe_147_18 : zfetch 147 18 = some (.aload_n 0, 1) := by decide +kernel
theorem zfe_147_19 : zfetch 147 19 = some (.getfield 19, 3) := by decide +kernel
theorem zfe_147_22 : zfetch 147 22 = some (.invokevirtual 126, 3) := by decide +kernel
theorem zfe_147_25 : zfetch 147 25 = some (.aload_n 0, 1) := by decide +kernel
theorem zfe_147_26 : zfetch 147 26 = some (.getfield 19, 3) := by decide +kernel
theorem zfe_147_29 : zfetch 147 29 = some (.aload_n 2, 1) := by decide +kernel
theorem zfe_147_30 : zfetch 147 30 = some (.invokevirtual 193, 3) := by decide +kernel
theorem zfe_147_33 : zfetch 147 33 = some (.invokevirtual 190, 3) := by decide +kernel
theorem zfe_147_36 : zfetch 147 36 = some (.aload_n 0, 1) := by decide +kernel
theorem zfe_147_37 : zfetch 147 37 = some (.getfield 19, 3) := by decide +kernel
theorem zfe_147_40 : zfetch 147 40 = some (.getfield 196, 3) := by decide +kernel
theorem zfe_147_43 : zfetch 147 43 = some (.ireturn, 1) := by decide +kernel
theorem zlk_147_19 : zlink 147 19 = some (0, 0, 1) := by decide +kernel
theorem zlk_147_33 : zlink 147 33 = some (4, 0, 35) := by decide +kernel
theorem zlk_147_35 : zlink 147 35 = some (14, 0, 0) := by decide +kernel
theorem zlk_147_126 : zlink 147 126 = some (7, 95, 0) := by decide +kernel
theorem zlk_147_127 : zlink 147 127 = some (7, 8, 1) := by decide +kernel
theorem zlk_147_190 : zlink 147 190 = some (7, 113, 1) := by decide +kernel
theorem zlk_147_193 : zlink 147 193 = some (7, 148, 0) := by decide +kernel
theorem zlk_147_196 : zlink 147 196 = some (1, 2, 1) := by decide +kernel
-- 149: PactLedgerLaw.find(LPactLedger;I[J)I
theorem znl_149 : (z_meth[149]?).map (fun m => m.2.2.1) = some 4 := by decide +kernel
theorem zrt_149 : (z_meth[149]?).map (fun m => m.2.2.2.1) = some (some .int) := by decide +kernel
theorem zfe_149_0 : zfetch 149 0 = some (.aload_n 2, 1) := by decide +kernel
theorem zfe_149_1 : zfetch 149 1 = some (.iconst 0, 1) := by decide +kernel
theorem zfe_149_2 : zfetch 149 2 = some (.aload_n 0, 1) := by decide +kernel
theorem zfe_149_3 : zfetch 149 3 = some (.iload_n 1, 1) := by decide +kernel
theorem zfe_149_4 : zfetch 149 4 = some (.invokevirtual 33, 3) := by decide +kernel
theorem zfe_149_7 : zfetch 149 7 = some (.i2l, 1) := by decide +kernel
theorem zfe_149_8 : zfetch 149 8 = some (.lastore, 1) := by decide +kernel
theorem zfe_149_9 : zfetch 149 9 = some (.goto 6, 3) := by decide +kernel
theorem zfe_149_12 : zfetch 149 12 = some (.astore_n 3, 1) := by decide +kernel
theorem zfe_149_13 : zfetch 149 13 = some (.iconst 1, 1) := by decide +kernel
theorem zfe_149_14 : zfetch 149 14 = some (.ireturn, 1) := by decide +kernel
theorem zfe_149_15 : zfetch 149 15 = some (.iconst 0, 1) := by decide +kernel
theorem zfe_149_16 : zfetch 149 16 = some (.ireturn, 1) := by decide +kernel
theorem zlk_149_33 : zlink 149 33 = some (7, 150, 1) := by decide +kernel
-- 150: PactLedger.find(I)I
theorem znl_150 : (z_meth[150]?).map (fun m => m.2.2.1) = some 4 := by decide +kernel
theorem zrt_150 : (z_meth[150]?).map (fun m => m.2.2.2.1) = some (some .int) := by decide +kernel
theorem zfe_150_0 : zfetch 150 0 = some (.aload_n 0, 1) := by decide +kernel
theorem zfe_150_1 : zfetch 150 1 = some (.iload_n 1, 1) := by decide +kernel
theorem zfe_150_2 : zfetch 150 2 = some (.invokevirtual 127, 3) := by decide +kernel
theorem zfe_150_5 : zfetch 150 5 = some (.astore_n 2, 1) := by decide +kernel
theorem zfe_150_6 : zfetch 150 6 = some (.aload_n 2, 1) := by decide +kernel
theorem zfe_150_7 : zfetch 150 7 = some (.ifnull 10, 3) := by decide +kernel
theorem zfe_150_10 : zfetch 150 10 = some (.aload_n 2, 1) := by decide +kernel
theorem zfe_150_11 : zfetch 150 11 = some (.invokevirtual 197, 3) := by decide +kernel
theorem zfe_150_14 : zfetch 150 14 = some (.ifCond .ne 18, 3) := by decide +kernel
theorem zfe_150_17 : zfetch 150 17 = some (.aload_n 0, 1) := by decide +kernel
theorem zfe_150_18 : zfetch 150 18 = some (.getfield 10, 3) := by decide +kernel
theorem zfe_150_21 : zfetch 150 21 = some (.invokevirtual 46, 3) := by decide +kernel
theorem zfe_150_24 : zfetch 150 24 = some (.new 33, 3) := by decide +kernel
theorem zfe_150_27 : zfetch 150 27 = some (.dup, 1) := by decide +kernel
theorem zfe_150_28 : zfetch 150 28 = some (.invokespecial 35, 3) := by decide +kernel
theorem zfe_150_31 : zfetch 150 31 = some (.athrow, 1) := by decide +kernel
theorem zfe_150_32 : zfetch 150 32 = some (.aload_n 0, 1) := by decide +kernel
theorem zfe_150_33 : zfetch 150 33 = some (.getfield 10, 3) := by decide +kernel
theorem zfe_150_36 : zfetch 150 36 = some (.aload_n 0, 1) := by decide +kernel
theorem zfe_150_37 : zfetch 150 37 = some (.getfield 10, 3) := by decide +kernel
theorem zfe_150_40 : zfetch 150 40 = some (.iconst 1, 1) := by decide +kernel
theorem zfe_150_41 : zfetch 150 41 = some (.invokevirtual 49, 3) := by decide +kernel
theorem zfe_150_44 : zfetch 150 44 = some (.iconst 0, 1) := by decide +kernel
theorem zfe_150_45 : zfetch 150 45 = some (.invokevirtual 58, 3) := by decide +kernel
theorem zfe_150_48 : zfetch 150 48 = some (.aload_n 2, 1) := by decide +kernel
theorem zfe_150_49 : zfetch 150 49 = some (.invokevirtual 200, 3) := by decide +kernel
theorem zfe_150_52 : zfetch 150 52 = some (.invokevirtual 135, 3) := by decide +kernel
theorem zfe_150_55 : zfetch 150 55 = some (.astore_n 3, 1) := by decide +kernel
theorem zfe_150_56 : zfetch 150 56 = some (.aload_n 0, 1) := by decide +kernel
theorem zfe_150_57 : zfetch 150 57 = some (.getfield 19, 3) := by decide +kernel
theorem zfe_150_60 : zfetch 150 60 = some (.invokevirtual 126, 3) := by decide +kernel
theorem zfe_150_63 : zfetch 150 63 = some (.aload_n 0, 1) := by decide +kernel
theorem zfe_150_64 : zfetch 150 64 = some (.getfield 19, 3) := by decide +kernel
theorem zfe_150_67 : zfetch 150 67 = some (.aload_n 2, 1) := by decide +kernel
theorem zfe_150_68 : zfetch 150 68 = some (.invokevirtual 204, 3) := by decide +kernel
theorem zfe_150_71 : zfetch 150 71 = some (.aload_n 3, 1) := by decide +kernel
theorem zfe_150_72 : zfetch 150 72 = some (.invokevirtual 207, 3) := by decide +kernel
theorem zfe_150_75 : zfetch 150 75 = some (.invokevirtual 190, 3) := by decide +kernel
theorem zfe_150_78 : zfetch 150 78 = some (.aload_n 0, 1) := by decide +kernel
theorem zfe_150_79 : zfetch 150 79 = some (.getfield 19, 3) := by decide +kernel
theorem zfe_150_82 : zfetch 150 82 = some (.getfield 196, 3) := by decide +kernel
theorem zfe_150_85 : zfetch 150 85 = some (.ireturn, 1) := by decide +kernel
theorem zlk_150_10 : zlink 150 10 = some (0, 0, 0) := by decide +kernel
theorem zlk_150_19 : zlink 150 19 = some (0, 0, 1) := by decide +kernel
theorem zlk_150_33 : zlink 150 33 = some (4, 0, 35) := by decide +kernel
theorem zlk_150_35 : zlink 150 35 = some (14, 0, 0) := by decide +kernel
theorem zlk_150_46 : zlink 150 46 = some (7, 22, 0) := by decide +kernel
theorem zlk_150_49 : zlink 150 49 = some (7, 23, 1) := by decide +kernel
theorem zlk_150_58 : zlink 150 58 = some (7, 46, 1) := by decide +kernel
theorem zlk_150_126 : zlink 150 126 = some (7, 95, 0) := by decide +kernel
theorem zlk_150_127 : zlink 150 127 = some (7, 8, 1) := by decide +kernel
theorem zlk_150_135 : zlink 150 135 = some (7, 96, 2) := by decide +kernel
theorem zlk_150_190 : zlink 150 190 = some (7, 113, 1) := by decide +kernel
theorem zlk_150_196 : zlink 150 196 = some (1, 2, 1) := by decide +kernel
theorem zlk_150_197 : zlink 150 197 = some (7, 9, 0) := by decide +kernel
theorem zlk_150_200 : zlink 150 200 = some (7, 151, 0) := by decide +kernel
theorem zlk_150_204 : zlink 150 204 = some (7, 11, 0) := by decide +kernel
theorem zlk_150_207 : zlink 150 207 = some (7, 138, 1) := by decide +kernel
-- 152: PactLedgerModel.<init>()V
theorem znl_152 : (z_meth[152]?).map (fun m => m.2.2.1) = some 1 := by decide +kernel
theorem zrt_152 : (z_meth[152]?).map (fun m => m.2.2.2.1) = some none := by decide +kernel
theorem zfe_152_0 : zfetch 152 0 = some (.aload_n 0, 1) := by decide +kernel
theorem zfe_152_1 : zfetch 152 1 = some (.invokespecial 1, 3) := by decide +kernel
theorem zfe_152_4 : zfetch 152 4 = some (.aload_n 0, 1) := by decide +kernel
theorem zfe_152_5 : zfetch 152 5 = some (.sipush 8660, 3) := by decide +kernel
theorem zfe_152_8 : zfetch 152 8 = some (.newarray .int, 2) := by decide +kernel
theorem zfe_152_10 : zfetch 152 10 = some (.putfield 7, 3) := by decide +kernel
theorem zfe_152_13 : zfetch 152 13 = some (.aload_n 0, 1) := by decide +kernel
theorem zfe_152_14 : zfetch 152 14 = some (.sipush 2800, 3) := by decide +kernel
theorem zfe_152_17 : zfetch 152 17 = some (.newarray .int, 2) := by decide +kernel
theorem zfe_152_19 : zfetch 152 19 = some (.putfield 13, 3) := by decide +kernel
theorem zfe_152_22 : zfetch 152 22 = some (.aload_n 0, 1) := by decide +kernel
theorem zfe_152_23 : zfetch 152 23 = some (.iconst (-1), 1) := by decide +kernel
theorem zfe_152_24 : zfetch 152 24 = some (.putfield 16, 3) := by decide +kernel
theorem zfe_152_27 : zfetch 152 27 = some (.aload_n 0, 1) := by decide +kernel
theorem zfe_152_28 : zfetch 152 28 = some (.bipush 100, 2) := by decide +kernel
theorem zfe_152_30 : zfetch 152 30 = some (.newarray .int, 2) := by decide +kernel
theorem zfe_152_32 : zfetch 152 32 = some (.putfield 20, 3) := by decide +kernel
theorem zfe_152_35 : zfetch 152 35 = some (.aload_n 0, 1) := by decide +kernel
theorem zfe_152_36 : zfetch 152 36 = some (.bipush 100, 2) := by decide +kernel
theorem zfe_152_38 : zfetch 152 38 = some (.newarray .int, 2) := by decide +kernel
theorem zfe_152_40 : zfetch 152 40 = some (.putfield 23, 3) := by decide +kernel
theorem zfe_152_43 : zfetch 152 43 = some (.aload_n 0, 1) := by decide +kernel
theorem zfe_152_44 : zfetch 152 44 = some (.bipush 100, 2) := by decide +kernel
theorem zfe_152_46 : zfetch 152 46 = some (.newarray .int, 2) := by decide +kernel
theorem zfe_152_48 : zfetch 152 48 = some (.putfield 26, 3) := by decide +kernel
theorem zfe_152_51 : zfetch 152 51 = some (.aload_n 0, 1) := by decide +kernel
theorem zfe_152_52 : zfetch 152 52 = some (.bipush 100, 2) := by decide +kernel
theorem zfe_152_54 : zfetch 152 54 = some (.newarray .int, 2) := by decide +kernel
theorem zfe_152_56 : zfetch 152 56 = some (.putfield 29, 3) := by decide +kernel
theorem zfe_152_59 : zfetch 152 59 = some (.aload_n 0, 1) := by decide +kernel
theorem zfe_152_60 : zfetch 152 60 = some (.bipush 100, 2) := by decide +kernel
theorem zfe_152_62 : zfetch 152 62 = some (.newarray .int, 2) := by decide +kernel
theorem zfe_152_64 : zfetch 152 64 = some (.putfield 32, 3) := by decide +kernel
theorem zfe_152_67 : zfetch 152 67 = some (.aload_n 0, 1) := by decide +kernel
theorem zfe_152_68 : zfetch 152 68 = some (.bipush 100, 2) := by decide +kernel
theorem zfe_152_70 : zfetch 152 70 = some (.newarray .int, 2) := by decide +kernel
theorem zfe_152_72 : zfetch 152 72 = some (.putfield 35, 3) := by decide +kernel
theorem zfe_152_75 : zfetch 152 75 = some (.aload_n 0, 1) := by decide +kernel
theorem zfe_152_76 : zfetch 152 76 = some (.bipush 100, 2) := by decide +kernel
theorem zfe_152_78 : zfetch 152 78 = some (.newarray .int, 2) := by decide +kernel
theorem zfe_152_80 : zfetch 152 80 = some (.putfield 38, 3) := by decide +kernel
theorem zfe_152_83 : zfetch 152 83 = some (.aload_n 0, 1) := by decide +kernel
theorem zfe_152_84 : zfetch 152 84 = some (.bipush 100, 2) := by decide +kernel
theorem zfe_152_86 : zfetch 152 86 = some (.newarray .int, 2) := by decide +kernel
theorem zfe_152_88 : zfetch 152 88 = some (.putfield 41, 3) := by decide +kernel
theorem zfe_152_91 : zfetch 152 91 = some (.aload_n 0, 1) := by decide +kernel
theorem zfe_152_92 : zfetch 152 92 = some (.bipush 100, 2) := by decide +kernel
theorem zfe_152_94 : zfetch 152 94 = some (.newarray .long, 2) := by decide +kernel
theorem zfe_152_96 : zfetch 152 96 = some (.putfield 44, 3) := by decide +kernel
theorem zfe_152_99 : zfetch 152 99 = some (.aload_n 0, 1) := by decide +kernel
theorem zfe_152_100 : zfetch 152 100 = some (.bipush 100, 2) := by decide +kernel
theorem zfe_152_102 : zfetch 152 102 = some (.newarray .long, 2) := by decide +kernel
theorem zfe_152_104 : zfetch 152 104 = some (.putfield 48, 3) := by decide +kernel
theorem zfe_152_107 : zfetch 152 107 = some (.aload_n 0, 1) := by decide +kernel
theorem zfe_152_108 : zfetch 152 108 = some (.bipush 10, 2) := by decide +kernel
theorem zfe_152_110 : zfetch 152 110 = some (.newarray .int, 2) := by decide +kernel
theorem zfe_152_112 : zfetch 152 112 = some (.putfield 51, 3) := by decide +kernel
theorem zfe_152_115 : zfetch 152 115 = some (.aload_n 0, 1) := by decide +kernel
theorem zfe_152_116 : zfetch 152 116 = some (.bipush 10, 2) := by decide +kernel
theorem zfe_152_118 : zfetch 152 118 = some (.newarray .int, 2) := by decide +kernel
theorem zfe_152_120 : zfetch 152 120 = some (.putfield 54, 3) := by decide +kernel
theorem zfe_152_123 : zfetch 152 123 = some (.aload_n 0, 1) := by decide +kernel
theorem zfe_152_124 : zfetch 152 124 = some (.sipush 220, 3) := by decide +kernel
theorem zfe_152_127 : zfetch 152 127 = some (.newarray .int, 2) := by decide +kernel
theorem zfe_152_129 : zfetch 152 129 = some (.putfield 57, 3) := by decide +kernel
theorem zfe_152_132 : zfetch 152 132 = some (.aload_n 0, 1) := by decide +kernel
theorem zfe_152_133 : zfetch 152 133 = some (.sipush 220, 3) := by decide +kernel
theorem zfe_152_136 : zfetch 152 136 = some (.newarray .int, 2) := by decide +kernel
theorem zfe_152_138 : zfetch 152 138 = some (.putfield 60, 3) := by decide +kernel
theorem zfe_152_141 : zfetch 152 141 = some (.aload_n 0, 1) := by decide +kernel
theorem zfe_152_142 : zfetch 152 142 = some (.sipush 220, 3) := by decide +kernel
theorem zfe_152_145 : zfetch 152 145 = some (.newarray .int, 2) := by decide +kernel
theorem zfe_152_147 : zfetch 152 147 = some (.putfield 63, 3) := by decide +kernel
theorem zfe_152_150 : zfetch 152 150 = some (.aload_n 0, 1) := by decide +kernel
theorem zfe_152_151 : zfetch 152 151 = some (.sipush 220, 3) := by decide +kernel
theorem zfe_152_154 : zfetch 152 154 = some (.newarray .int, 2) := by decide +kernel
theorem zfe_152_156 : zfetch 152 156 = some (.putfield 66, 3) := by decide +kernel
theorem zfe_152_159 : zfetch 152 159 = some (.aload_n 0, 1) := by decide +kernel
theorem zfe_152_160 : zfetch 152 160 = some (.sipush 220, 3) := by decide +kernel
theorem zfe_152_163 : zfetch 152 163 = some (.newarray .boolean, 2) := by decide +kernel
theorem zfe_152_165 : zfetch 152 165 = some (.putfield 69, 3) := by decide +kernel
theorem zfe_152_168 : zfetch 152 168 = some (.aload_n 0, 1) := by decide +kernel
theorem zfe_152_169 : zfetch 152 169 = some (.sipush 1400, 3) := by decide +kernel
theorem zfe_152_172 : zfetch 152 172 = some (.newarray .byte, 2) := by decide +kernel
theorem zfe_152_174 : zfetch 152 174 = some (.putfield 73, 3) := by decide +kernel
theorem zfe_152_177 : zfetch 152 177 = some (.aload_n 0, 1) := by decide +kernel
theorem zfe_152_178 : zfetch 152 178 = some (.sipush 1400, 3) := by decide +kernel
theorem zfe_152_181 : zfetch 152 181 = some (.newarray .short, 2) := by decide +kernel
theorem zfe_152_183 : zfetch 152 183 = some (.putfield 77, 3) := by decide +kernel
theorem zfe_152_186 : zfetch 152 186 = some (.aload_n 0, 1) := by decide +kernel
theorem zfe_152_187 : zfetch 152 187 = some (.sipush 1400, 3) := by decide +kernel
theorem zfe_152_190 : zfetch 152 190 = some (.newarray .short, 2) := by decide +kernel
theorem zfe_152_192 : zfetch 152 192 = some (.putfield 81, 3) := by decide +kernel
theorem zfe_152_195 : zfetch 152 195 = some (.aload_n 0, 1) := by decide +kernel
theorem zfe_152_196 : zfetch 152 196 = some (.sipush 600, 3) := by decide +kernel
theorem zfe_152_199 : zfetch 152 199 = some (.newarray .long, 2) := by decide +kernel
theorem zfe_152_201 : zfetch 152 201 = some (.putfield 84, 3) := by decide +kernel
theorem zfe_152_204 : zfetch 152 204 = some (.aload_n 0, 1) := by decide +kernel
theorem zfe_152_205 : zfetch 152 205 = some (.sipush 600, 3) := by decide +kernel
theorem zfe_152_208 : zfetch 152 208 = some (.newarray .long, 2) := by decide +kernel
theorem zfe_152_210 : zfetch 152 210 = some (.putfield 87, 3) := by decide +kernel
theorem zfe_152_213 : zfetch 152 213 = some (.aload_n 0, 1) := by decide +kernel
theorem zfe_152_214 : zfetch 152 214 = some (.bipush 60, 2) := by decide +kernel
theorem zfe_152_216 : zfetch 152 216 = some (.newarray .int, 2) := by decide +kernel
theorem zfe_152_218 : zfetch 152 218 = some (.putfield 90, 3) := by decide +kernel
theorem zfe_152_221 : zfetch 152 221 = some (.aload_n 0, 1) := by decide +kernel
theorem zfe_152_222 : zfetch 152 222 = some (.bipush 60, 2) := by decide +kernel
theorem zfe_152_224 : zfetch 152 224 = some (.newarray .int, 2) := by decide +kernel
theorem zfe_152_226 : zfetch 152 226 = some (.putfield 93, 3) := by decide +kernel
theorem zfe_152_229 : zfetch 152 229 = some (.aload_n 0, 1) := by decide +kernel
theorem zfe_152_230 : zfetch 152 230 = some (.bipush 60, 2) := by decide +kernel
theorem zfe_152_232 : zfetch 152 232 = some (.newarray .int, 2) := by decide +kernel
theorem zfe_152_234 : zfetch 152 234 = some (.putfield 96, 3) := by decide +kernel
theorem zfe_152_237 : zfetch 152 237 = some (.aload_n 0, 1) := by decide +kernel
theorem zfe_152_238 : zfetch 152 238 = some (.bipush 12, 2) := by decide +kernel
theorem zfe_152_240 : zfetch 152 240 = some (.newarray .int, 2) := by decide +kernel
theorem zfe_152_242 : zfetch 152 242 = some (.putfield 99, 3) := by decide +kernel
theorem zfe_152_245 : zfetch 152 245 = some (.aload_n 0, 1) := by decide +kernel
theorem zfe_152_246 : zfetch 152 246 = some (.bipush 12, 2) := by decide +kernel
theorem zfe_152_248 : zfetch 152 248 = some (.newarray .int, 2) := by decide +kernel
theorem zfe_152_250 : zfetch 152 250 = some (.putfield 102, 3) := by decide +kernel
theorem zfe_152_253 : zfetch 152 253 = some (.aload_n 0, 1) := by decide +kernel
theorem zfe_152_254 : zfetch 152 254 = some (.bipush 12, 2) := by decide +kernel
theorem zfe_152_256 : zfetch 152 256 = some (.newarray .int, 2) := by decide +kernel
theorem zfe_152_258 : zfetch 152 258 = some (.putfield 105, 3) := by decide +kernel
theorem zfe_152_261 : zfetch 152 261 = some (.aload_n 0, 1) := by decide +kernel
theorem zfe_152_262 : zfetch 152 262 = some (.bipush 12, 2) := by decide +kernel
theorem zfe_152_264 : zfetch 152 264 = some (.newarray .int, 2) := by decide +kernel
theorem zfe_152_266 : zfetch 152 266 = some (.putfield 108, 3) := by decide +kernel
theorem zfe_152_269 : zfetch 152 269 = some (.aload_n 0, 1) := by decide +kernel
theorem zfe_152_270 : zfetch 152 270 = some (.bipush 12, 2) := by decide +kernel
theorem zfe_152_272 : zfetch 152 272 = some (.newarray .int, 2) := by decide +kernel
theorem zfe_152_274 : zfetch 152 274 = some (.putfield 111, 3) := by decide +kernel
theorem zfe_152_277 : zfetch 152 277 = some (.aload_n 0, 1) := by decide +kernel
theorem zfe_152_278 : zfetch 152 278 = some (.bipush 12, 2) := by decide +kernel
theorem zfe_152_280 : zfetch 152 280 = some (.newarray .int, 2) := by decide +kernel
theorem zfe_152_282 : zfetch 152 282 = some (.putfield 114, 3) := by decide +kernel
theorem zfe_152_285 : zfetch 152 285 = some (.aload_n 0, 1) := by decide +kernel
theorem zfe_152_286 : zfetch 152 286 = some (.sipush 144, 3) := by decide +kernel
theorem zfe_152_289 : zfetch 152 289 = some (.newarray .int, 2) := by decide +kernel
theorem zfe_152_291 : zfetch 152 291 = some (.putfield 117, 3) := by decide +kernel
theorem zfe_152_294 : zfetch 152 294 = some (.aload_n 0, 1) := by decide +kernel
theorem zfe_152_295 : zfetch 152 295 = some (.bipush 12, 2) := by decide +kernel
theorem zfe_152_297 : zfetch 152 297 = some (.newarray .int, 2) := by decide +kernel
theorem zfe_152_299 : zfetch 152 299 = some (.putfield 120, 3) := by decide +kernel
theorem zfe_152_302 : zfetch 152 302 = some (.aload_n 0, 1) := by decide +kernel
theorem zfe_152_303 : zfetch 152 303 = some (.sipush 144, 3) := by decide +kernel
theorem zfe_152_306 : zfetch 152 306 = some (.newarray .int, 2) := by decide +kernel
theorem zfe_152_308 : zfetch 152 308 = some (.putfield 123, 3) := by decide +kernel
theorem zfe_152_311 : zfetch 152 311 = some (.aload_n 0, 1) := by decide +kernel
theorem zfe_152_312 : zfetch 152 312 = some (.bipush 12, 2) := by decide +kernel
theorem zfe_152_314 : zfetch 152 314 = some (.newarray .int, 2) := by decide +kernel
theorem zfe_152_316 : zfetch 152 316 = some (.putfield 126, 3) := by decide +kernel
theorem zfe_152_319 : zfetch 152 319 = some (.aload_n 0, 1) := by decide +kernel
theorem zfe_152_320 : zfetch 152 320 = some (.bipush 16, 2) := by decide +kernel
theorem zfe_152_322 : zfetch 152 322 = some (.newarray .int, 2) := by decide +kernel
theorem zfe_152_324 : zfetch 152 324 = some (.putfield 129, 3) := by decide +kernel
theorem zfe_152_327 : zfetch 152 327 = some (.aload_n 0, 1) := by decide +kernel
theorem zfe_152_328 : zfetch 152 328 = some (.iconst 4, 1) := by decide +kernel
theorem zfe_152_329 : zfetch 152 329 = some (.newarray .int, 2) := by decide +kernel
theorem zfe_152_331 : zfetch 152 331 = some (.putfield 132, 3) := by decide +kernel
theorem zfe_152_334 : zfetch 152 334 = some (.aload_n 0, 1) := by decide +kernel
theorem zfe_152_335 : zfetch 152 335 = some (.iconst 4, 1) := by decide +kernel
theorem zfe_152_336 : zfetch 152 336 = some (.newarray .int, 2) := by decide +kernel
theorem zfe_152_338 : zfetch 152 338 = some (.putfield 135, 3) := by decide +kernel
theorem zfe_152_341 : zfetch 152 341 = some (.aload_n 0, 1) := by decide +kernel
theorem zfe_152_342 : zfetch 152 342 = some (.bipush 24, 2) := by decide +kernel
theorem zfe_152_344 : zfetch 152 344 = some (.newarray .int, 2) := by decide +kernel
theorem zfe_152_346 : zfetch 152 346 = some (.putfield 138, 3) := by decide +kernel
theorem zfe_152_349 : zfetch 152 349 = some (.aload_n 0, 1) := by decide +kernel
theorem zfe_152_350 : zfetch 152 350 = some (.bipush 100, 2) := by decide +kernel
theorem zfe_152_352 : zfetch 152 352 = some (.newarray .int, 2) := by decide +kernel
theorem zfe_152_354 : zfetch 152 354 = some (.putfield 141, 3) := by decide +kernel
theorem zfe_152_357 : zfetch 152 357 = some (.return_, 1) := by decide +kernel
theorem zlk_152_1 : zlink 152 1 = some (11, 0, 0) := by decide +kernel
theorem zlk_152_7 : zlink 152 7 = some (0, 12, 1) := by decide +kernel
theorem zlk_152_13 : zlink 152 13 = some (0, 12, 2) := by decide +kernel
theorem zlk_152_16 : zlink 152 16 = some (0, 12, 5) := by decide +kernel
theorem zlk_152_20 : zlink 152 20 = some (0, 12, 9) := by decide +kernel
theorem zlk_152_23 : zlink 152 23 = some (0, 12, 10) := by decide +kernel
theorem zlk_152_26 : zlink 152 26 = some (0, 12, 11) := by decide +kernel
theorem zlk_152_29 : zlink 152 29 = some (0, 12, 12) := by decide +kernel
theorem zlk_152_32 : zlink 152 32 = some (0, 12, 13) := by decide +kernel
theorem zlk_152_35 : zlink 152 35 = some (0, 12, 14) := by decide +kernel
theorem zlk_152_38 : zlink 152 38 = some (0, 12, 15) := by decide +kernel
theorem zlk_152_41 : zlink 152 41 = some (0, 12, 16) := by decide +kernel
theorem zlk_152_44 : zlink 152 44 = some (0, 12, 17) := by decide +kernel
theorem zlk_152_48 : zlink 152 48 = some (0, 12, 18) := by decide +kernel
theorem zlk_152_51 : zlink 152 51 = some (0, 12, 19) := by decide +kernel
theorem zlk_152_54 : zlink 152 54 = some (0, 12, 20) := by decide +kernel
theorem zlk_152_57 : zlink 152 57 = some (0, 12, 22) := by decide +kernel
theorem zlk_152_60 : zlink 152 60 = some (0, 12, 23) := by decide +kernel
theorem zlk_152_63 : zlink 152 63 = some (0, 12, 24) := by decide +kernel
theorem zlk_152_66 : zlink 152 66 = some (0, 12, 25) := by decide +kernel
theorem zlk_152_69 : zlink 152 69 = some (0, 12, 26) := by decide +kernel
theorem zlk_152_73 : zlink 152 73 = some (0, 12, 30) := by decide +kernel
theorem zlk_152_77 : zlink 152 77 = some (0, 12, 31) := by decide +kernel
theorem zlk_152_81 : zlink 152 81 = some (0, 12, 32) := by decide +kernel
theorem zlk_152_84 : zlink 152 84 = some (0, 12, 33) := by decide +kernel
theorem zlk_152_87 : zlink 152 87 = some (0, 12, 34) := by decide +kernel
theorem zlk_152_90 : zlink 152 90 = some (0, 12, 35) := by decide +kernel
theorem zlk_152_93 : zlink 152 93 = some (0, 12, 36) := by decide +kernel
theorem zlk_152_96 : zlink 152 96 = some (0, 12, 37) := by decide +kernel
theorem zlk_152_99 : zlink 152 99 = some (0, 12, 38) := by decide +kernel
theorem zlk_152_102 : zlink 152 102 = some (0, 12, 39) := by decide +kernel
theorem zlk_152_105 : zlink 152 105 = some (0, 12, 40) := by decide +kernel
theorem zlk_152_108 : zlink 152 108 = some (0, 12, 41) := by decide +kernel
theorem zlk_152_111 : zlink 152 111 = some (0, 12, 42) := by decide +kernel
theorem zlk_152_114 : zlink 152 114 = some (0, 12, 43) := by decide +kernel
theorem zlk_152_117 : zlink 152 117 = some (0, 12, 44) := by decide +kernel
theorem zlk_152_120 : zlink 152 120 = some (0, 12, 45) := by decide +kernel
theorem zlk_152_123 : zlink 152 123 = some (0, 12, 46) := by decide +kernel
theorem zlk_152_126 : zlink 152 126 = some (0, 12, 47) := by decide +kernel
theorem zlk_152_129 : zlink 152 129 = some (0, 12, 48) := by decide +kernel
theorem zlk_152_132 : zlink 152 132 = some (0, 12, 61) := by decide +kernel
theorem zlk_152_135 : zlink 152 135 = some (0, 12, 62) := by decide +kernel
theorem zlk_152_138 : zlink 152 138 = some (0, 12, 63) := by decide +kernel
theorem zlk_152_141 : zlink 152 141 = some (0, 12, 64) := by decide +kernel
-- 153: PactLedgerModel.thrown()I
theorem znl_153 : (z_meth[153]?).map (fun m => m.2.2.1) = some 1 := by decide +kernel
theorem zrt_153 : (z_meth[153]?).map (fun m => m.2.2.2.1) = some (some .int) := by decide +kernel
theorem zfe_153_0 : zfetch 153 0 = some (.aload_n 0, 1) := by decide +kernel
theorem zfe_153_1 : zfetch 153 1 = some (.getfield 144, 3) := by decide +kernel
theorem zfe_153_4 : zfetch 153 4 = some (.ireturn, 1) := by decide +kernel
theorem zlk_153_144 : zlink 153 144 = some (0, 12, 0) := by decide +kernel
-- 154: PactLedgerModel.put(JI)I
theorem znl_154 : (z_meth[154]?).map (fun m => m.2.2.1) = some 5 := by decide +kernel
theorem zrt_154 : (z_meth[154]?).map (fun m => m.2.2.2.1) = some (some .int) := by decide +kernel
theorem zfe_154_0 : zfetch 154 0 = some (.aload_n 0, 1) := by decide +kernel
theorem zfe_154_1 : zfetch 154 1 = some (.iload_n 3, 1) := by decide +kernel
theorem zfe_154_2 : zfetch 154 2 = some (.iconst 1, 1) := by decide +kernel
theorem zfe_154_3 : zfetch 154 3 = some (.if_icmp .lt 9, 3) := by decide +kernel
theorem zfe_154_6 : zfetch 154 6 = some (.iload_n 3, 1) := by decide +kernel
theorem zfe_154_7 : zfetch 154 7 = some (.bipush 8, 2) := by decide +kernel
theorem zfe_154_9 : zfetch 154 9 = some (.if_icmp .le 7, 3) := by decide +kernel
theorem zfe_154_12 : zfetch 154 12 = some (.iconst 1, 1) := by decide +kernel
theorem zfe_154_13 : zfetch 154 13 = some (.goto 20, 3) := by decide +kernel
theorem zfe_154_16 : zfetch 154 16 = some (.aload_n 0, 1) := by decide +kernel
theorem zfe_154_17 : zfetch 154 17 = some (.getfield 419, 3) := by decide +kernel
theorem zfe_154_20 : zfetch 154 20 = some (.iload_n 3, 1) := by decide +kernel
theorem zfe_154_21 : zfetch 154 21 = some (.iadd, 1) := by decide +kernel
theorem zfe_154_22 : zfetch 154 22 = some (.sipush 240, 3) := by decide +kernel
theorem zfe_154_25 : zfetch 154 25 = some (.if_icmp .le 7, 3) := by decide +kernel
theorem zfe_154_28 : zfetch 154 28 = some (.iconst 2, 1) := by decide +kernel
theorem zfe_154_29 : zfetch 154 29 = some (.goto 4, 3) := by decide +kernel
theorem zfe_154_32 : zfetch 154 32 = some (.iconst 0, 1) := by decide +kernel
theorem zfe_154_33 : zfetch 154 33 = some (.putfield 144, 3) := by decide +kernel
theorem zfe_154_36 : zfetch 154 36 = some (.iload_n 3, 1) := by decide +kernel
theorem zfe_154_37 : zfetch 154 37 = some (.iconst 1, 1) := by decide +kernel
theorem zfe_154_38 : zfetch 154 38 = some (.isub, 1) := by decide +kernel
theorem zfe_154_39 : zfetch 154 39 = some (.istore 4, 2) := by decide +kernel
theorem zfe_154_41 : zfetch 154 41 = some (.iload 4, 2) := by decide +kernel
theorem zfe_154_43 : zfetch 154 43 = some (.ifCond .lt 44, 3) := by decide +kernel
theorem zfe_154_46 : zfetch 154 46 = some (.aload_n 0, 1) := by decide +kernel
theorem zfe_154_47 : zfetch 154 47 = some (.getfield 144, 3) := by decide +kernel
theorem zfe_154_50 : zfetch 154 50 = some (.ifCond .ne 37, 3) := by decide +kernel
theorem zfe_154_53 : zfetch 154 53 = some (.aload_n 0, 1) := by decide +kernel
theorem zfe_154_54 : zfetch 154 54 = some (.getfield 7, 3) := by decide +kernel
theorem zfe_154_57 : zfetch 154 57 = some (.aload_n 0, 1) := by decide +kernel
theorem zfe_154_58 : zfetch 154 58 = some (.dup, 1) := by decide +kernel
theorem zfe_154_59 : zfetch 154 59 = some (.getfield 419, 3) := by decide +kernel
theorem zfe_154_62 : zfetch 154 62 = some (.dup_x1, 1) := by decide +kernel
theorem zfe_154_63 : zfetch 154 63 = some (.iconst 1, 1) := by decide +kernel
theorem zfe_154_64 : zfetch 154 64 = some (.iadd, 1) := by decide +kernel
theorem zfe_154_65 : zfetch 154 65 = some (.putfield 419, 3) := by decide +kernel
theorem zfe_154_68 : zfetch 154 68 = some (.lload_n 1, 1) := by decide +kernel
theorem zfe_154_69 : zfetch 154 69 = some (.bipush 8, 2) := by decide +kernel
theorem zfe_154_71 : zfetch 154 71 = some (.iload 4, 2) := by decide +kernel
theorem zfe_154_73 : zfetch 154 73 = some (.imul, 1) := by decide +kernel
theorem zfe_154_74 : zfetch 154 74 = some (.lshr, 1) := by decide +kernel
theorem zfe_154_75 : zfetch 154 75 = some (.ldc2_w 422, 3) := by decide +kernel
theorem zfe_154_78 : zfetch 154 78 = some (.land, 1) := by decide +kernel
theorem zfe_154_79 : zfetch 154 79 = some (.l2i, 1) := by decide +kernel
theorem zfe_154_80 : zfetch 154 80 = some (.iastore, 1) := by decide +kernel
theorem zfe_154_81 : zfetch 154 81 = some (.iinc 4 (-1), 3) := by decide +kernel
theorem zfe_154_84 : zfetch 154 84 = some (.goto (-43), 3) := by decide +kernel
theorem zfe_154_87 : zfetch 154 87 = some (.aload_n 0, 1) := by decide +kernel
theorem zfe_154_88 : zfetch 154 88 = some (.getfield 144, 3) := by decide +kernel
theorem zfe_154_91 : zfetch 154 91 = some (.ifCond .ne 10, 3) := by decide +kernel
theorem zfe_154_94 : zfetch 154 94 = some (.aload_n 0, 1) := by decide +kernel
theorem zfe_154_95 : zfetch 154 95 = some (.getfield 419, 3) := by decide +kernel
theorem zfe_154_98 : zfetch 154 98 = some (.goto 4, 3) := by decide +kernel
theorem zfe_154_101 : zfetch 154 101 = some (.iconst 0, 1) := by decide +kernel
theorem zfe_154_102 : zfetch 154 102 = some (.ireturn, 1) := by decide +kernel
theorem zlk_154_7 : zlink 154 7 = some (0, 12, 1) := by decide +kernel
theorem zlk_154_144 : zlink 154 144 = some (0, 12, 0) := by decide +kernel
theorem zlk_154_419 : zlink 154 419 = some (0, 12, 3) := by decide +kernel
theorem zlk_154_422 : zlink 154 422 = some (13, 6, 0) := by decide +kernel
-- 155: PactLedgerModel.deploy()I
theorem znl_155 : (z_meth[155]?).map (fun m => m.2.2.1) = some 5 := by decide +kernel
theorem zrt_155 : (z_meth[155]?).map (fun m => m.2.2.2.1) = some (some .int) := by decide +kernel
theorem zfe_155_0 : zfetch 155 0 = some (.aload_n 0, 1) := by decide +kernel
theorem zfe_155_1 : zfetch 155 1 = some (.getfield 419, 3) := by decide +kernel
theorem zfe_155_4 : zfetch 155 4 = some (.istore_n 1, 1) := by decide +kernel
theorem zfe_155_5 : zfetch 155 5 = some (.aload_n 0, 1) := by decide +kernel
theorem zfe_155_6 : zfetch 155 6 = some (.getfield 424, 3) := by decide +kernel
theorem zfe_155_9 : zfetch 155 9 = some (.istore_n 2, 1) := by decide +kernel
theorem zfe_155_10 : zfetch 155 10 = some (.aload_n 0, 1) := by decide +kernel
theorem zfe_155_11 : zfetch 155 11 = some (.iconst 0, 1) := by decide +kernel
theorem zfe_155_12 : zfetch 155 12 = some (.putfield 419, 3) := by decide +kernel
theorem zfe_155_15 : zfetch 155 15 = some (.iload_n 2, 1) := by decide +kernel
theorem zfe_155_16 : zfetch 155 16 = some (.iconst 4, 1) := by decide +kernel
theorem zfe_155_17 : zfetch 155 17 = some (.if_icmp .ne 10, 3) := by decide +kernel
theorem zfe_155_20 : zfetch 155 20 = some (.aload_n 0, 1) := by decide +kernel
theorem zfe_155_21 : zfetch 155 21 = some (.iconst 1, 1) := by decide +kernel
theorem zfe_155_22 : zfetch 155 22 = some (.iconst 0, 1) := by decide +kernel
theorem zfe_155_23 : zfetch 155 23 = some (.invokevirtual 427, 3) := by decide +kernel
theorem zfe_155_26 : zfetch 155 26 = some (.ireturn, 1) := by decide +kernel
theorem zfe_155_27 : zfetch 155 27 = some (.aload_n 0, 1) := by decide +kernel
theorem zfe_155_28 : zfetch 155 28 = some (.iconst 0, 1) := by decide +kernel
theorem zfe_155_29 : zfetch 155 29 = some (.iload_n 1, 1) := by decide +kernel
theorem zfe_155_30 : zfetch 155 30 = some (.iconst 5, 1) := by decide +kernel
theorem zfe_155_31 : zfetch 155 31 = some (.invokevirtual 409, 3) := by decide +kernel
theorem zfe_155_34 : zfetch 155 34 = some (.ifCond .ne 10, 3) := by decide +kernel
theorem zfe_155_37 : zfetch 155 37 = some (.aload_n 0, 1) := by decide +kernel
theorem zfe_155_38 : zfetch 155 38 = some (.iconst 2, 1) := by decide +kernel
theorem zfe_155_39 : zfetch 155 39 = some (.iconst 0, 1) := by decide +kernel
theorem zfe_155_40 : zfetch 155 40 = some (.invokevirtual 427, 3) := by decide +kernel
theorem zfe_155_43 : zfetch 155 43 = some (.ireturn, 1) := by decide +kernel
theorem zfe_155_44 : zfetch 155 44 = some (.aload_n 0, 1) := by decide +kernel
theorem zfe_155_45 : zfetch 155 45 = some (.invokevirtual 412, 3) := by decide +kernel
theorem zfe_155_48 : zfetch 155 48 = some (.ifCond .eq 10, 3) := by decide +kernel
theorem zfe_155_51 : zfetch 155 51 = some (.aload_n 0, 1) := by decide +kernel
theorem zfe_155_52 : zfetch 155 52 = some (.invokevirtual 430, 3) := by decide +kernel
theorem zfe_155_55 : zfetch 155 55 = some (.ifCond .ne 10, 3) := by decide +kernel
theorem zfe_155_58 : zfetch 155 58 = some (.aload_n 0, 1) := by decide +kernel
theorem zfe_155_59 : zfetch 155 59 = some (.iconst 3, 1) := by decide +kernel
theorem zfe_155_60 : zfetch 155 60 = some (.iconst 0, 1) := by decide +kernel
theorem zfe_155_61 : zfetch 155 61 = some (.invokevirtual 427, 3) := by decide +kernel
theorem zfe_155_64 : zfetch 155 64 = some (.ireturn, 1) := by decide +kernel
theorem zfe_155_65 : zfetch 155 65 = some (.aload_n 0, 1) := by decide +kernel
theorem zfe_155_66 : zfetch 155 66 = some (.getfield 32, 3) := by decide +kernel
theorem zfe_155_69 : zfetch 155 69 = some (.aload_n 0, 1) := by decide +kernel
theorem zfe_155_70 : zfetch 155 70 = some (.getfield 338, 3) := by decide +kernel
theorem zfe_155_73 : zfetch 155 73 = some (.iaload, 1) := by decide +kernel
theorem zfe_155_74 : zfetch 155 74 = some (.istore_n 3, 1) := by decide +kernel
theorem zfe_155_75 : zfetch 155 75 = some (.aload_n 0, 1) := by decide +kernel
theorem zfe_155_76 : zfetch 155 76 = some (.iload_n 3, 1) := by decide +kernel
theorem zfe_155_77 : zfetch 155 77 = some (.aload_n 0, 1) := by decide +kernel
theorem zfe_155_78 : zfetch 155 78 = some (.getfield 335, 3) := by decide +kernel
theorem zfe_155_81 : zfetch 155 81 = some (.invokevirtual 312, 3) := by decide +kernel
theorem zfe_155_84 : zfetch 155 84 = some (.ifCond .ge 10, 3) := by decide +kernel
theorem zfe_155_87 : zfetch 155 87 = some (.aload_n 0, 1) := by decide +kernel
theorem zfe_155_88 : zfetch 155 88 = some (.iconst 3, 1) := by decide +kernel
theorem zfe_155_89 : zfetch 155 89 = some (.iconst 0, 1) := by decide +kernel
theorem zfe_155_90 : zfetch 155 90 = some (.invokevirtual 427, 3) := by decide +kernel
theorem zfe_155_93 : zfetch 155 93 = some (.ireturn, 1) := by decide +kernel
theorem zfe_155_94 : zfetch 155 94 = some (.iconst 0, 1) := by decide +kernel
theorem zfe_155_95 : zfetch 155 95 = some (.istore 4, 2) := by decide +kernel
theorem zfe_155_97 : zfetch 155 97 = some (.iload 4, 2) := by decide +kernel
theorem zfe_155_99 : zfetch 155 99 = some (.iload_n 1, 1) := by decide +kernel
theorem zfe_155_100 : zfetch 155 100 = some (.if_icmp .ge 33, 3) := by decide +kernel
theorem zfe_155_103 : zfetch 155 103 = some (.aload_n 0, 1) := by decide +kernel
theorem zfe_155_104 : zfetch 155 104 = some (.getfield 7, 3) := by decide +kernel
theorem zfe_155_107 : zfetch 155 107 = some (.sipush 240, 3) := by decide +kernel
theorem zfe_155_110 : zfetch 155 110 = some (.sipush 240, 3) := by decide +kernel
theorem zfe_155_113 : zfetch 155 113 = some (.iload_n 2, 1) := by decide +kernel
theorem zfe_155_114 : zfetch 155 114 = some (.imul, 1) := by decide +kernel
theorem zfe_155_115 : zfetch 155 115 = some (.iadd, 1) := by decide +kernel
theorem zfe_155_116 : zfetch 155 116 = some (.iload 4, 2) := by decide +kernel
theorem zfe_155_118 : zfetch 155 118 = some (.iadd, 1) := by decide +kernel
theorem zfe_155_119 : zfetch 155 119 = some (.aload_n 0, 1) := by decide +kernel
theorem zfe_155_120 : zfetch 155 120 = some (.getfield 7, 3) := by decide +kernel
theorem zfe_155_123 : zfetch 155 123 = some (.iload 4, 2) := by decide +kernel
theorem zfe_155_125 : zfetch 155 125 = some (.iaload, 1) := by decide +kernel
theorem zfe_155_126 : zfetch 155 126 = some (.iastore, 1) := by decide +kernel
theorem zfe_155_127 : zfetch 155 127 = some (.iinc 4 1, 3) := by decide +kernel
theorem zfe_155_130 : zfetch 155 130 = some (.goto (-33), 3) := by decide +kernel
theorem zfe_155_133 : zfetch 155 133 = some (.aload_n 0, 1) := by decide +kernel
theorem zfe_155_134 : zfetch 155 134 = some (.getfield 23, 3) := by decide +kernel
theorem zfe_155_137 : zfetch 155 137 = some (.iload_n 3, 1) := by decide +kernel
theorem zfe_155_138 : zfetch 155 138 = some (.iaload, 1) := by decide +kernel
theorem zfe_155_139 : zfetch 155 139 = some (.istore 4, 2) := by decide +kernel
theorem zfe_155_141 : zfetch 155 141 = some (.iload 4, 2) := by decide +kernel
theorem zfe_155_143 : zfetch 155 143 = some (.iload_n 1, 1) := by decide +kernel
theorem zfe_155_144 : zfetch 155 144 = some (.if_icmp .ge 40, 3) := by decide +kernel
theorem zfe_155_147 : zfetch 155 147 = some (.aload_n 0, 1) := by decide +kernel
theorem zfe_155_148 : zfetch 155 148 = some (.getfield 7, 3) := by decide +kernel
theorem zfe_155_151 : zfetch 155 151 = some (.sipush 1200, 3) := by decide +kernel
theorem zfe_155_154 : zfetch 155 154 = some (.sipush 1860, 3) := by decide +kernel
theorem zfe_155_157 : zfetch 155 157 = some (.iload_n 2, 1) := by decide +kernel
theorem zfe_155_158 : zfetch 155 158 = some (.imul, 1) := by decide +kernel
theorem zfe_155_159 : zfetch 155 159 = some (.iadd, 1) := by decide +kernel
theorem zfe_155_160 : zfetch 155 160 = some (.iload 4, 2) := by decide +kernel
theorem zfe_155_162 : zfetch 155 162 = some (.iadd, 1) := by decide +kernel
theorem zfe_155_163 : zfetch 155 163 = some (.aload_n 0, 1) := by decide +kernel
theorem zfe_155_164 : zfetch 155 164 = some (.getfield 23, 3) := by decide +kernel
theorem zfe_155_167 : zfetch 155 167 = some (.iload_n 3, 1) := by decide +kernel
theorem zfe_155_168 : zfetch 155 168 = some (.iaload, 1) := by decide +kernel
theorem zfe_155_169 : zfetch 155 169 = some (.isub, 1) := by decide +kernel
theorem zfe_155_170 : zfetch 155 170 = some (.aload_n 0, 1) := by decide +kernel
theorem zfe_155_171 : zfetch 155 171 = some (.getfield 7, 3) := by decide +kernel
theorem zfe_155_174 : zfetch 155 174 = some (.iload 4, 2) := by decide +kernel
theorem zfe_155_176 : zfetch 155 176 = some (.iaload, 1) := by decide +kernel
theorem zfe_155_177 : zfetch 155 177 = some (.iastore, 1) := by decide +kernel
theorem zfe_155_178 : zfetch 155 178 = some (.iinc 4 1, 3) := by decide +kernel
theorem zfe_155_181 : zfetch 155 181 = some (.goto (-40), 3) := by decide +kernel
theorem zfe_155_184 : zfetch 155 184 = some (.aload_n 0, 1) := by decide +kernel
theorem zfe_155_185 : zfetch 155 185 = some (.getfield 132, 3) := by decide +kernel
theorem zfe_155_188 : zfetch 155 188 = some (.iload_n 2, 1) := by decide +kernel
theorem zfe_155_189 : zfetch 155 189 = some (.iload_n 1, 1) := by decide +kernel
theorem zfe_155_190 : zfetch 155 190 = some (.iastore, 1) := by decide +kernel
theorem zfe_155_191 : zfetch 155 191 = some (.aload_n 0, 1) := by decide +kernel
theorem zfe_155_192 : zfetch 155 192 = some (.getfield 135, 3) := by decide +kernel
theorem zfe_155_195 : zfetch 155 195 = some (.iload_n 2, 1) := by decide +kernel
theorem zfe_155_196 : zfetch 155 196 = some (.iload_n 1, 1) := by decide +kernel
theorem zfe_155_197 : zfetch 155 197 = some (.aload_n 0, 1) := by decide +kernel
theorem zfe_155_198 : zfetch 155 198 = some (.getfield 23, 3) := by decide +kernel
theorem zfe_155_201 : zfetch 155 201 = some (.iload_n 3, 1) := by decide +kernel
theorem zfe_155_202 : zfetch 155 202 = some (.iaload, 1) := by decide +kernel
theorem zfe_155_203 : zfetch 155 203 = some (.isub, 1) := by decide +kernel
theorem zfe_155_204 : zfetch 155 204 = some (.iastore, 1) := by decide +kernel
theorem zfe_155_205 : zfetch 155 205 = some (.aload_n 0, 1) := by decide +kernel
theorem zfe_155_206 : zfetch 155 206 = some (.getfield 138, 3) := by decide +kernel
theorem zfe_155_209 : zfetch 155 209 = some (.bipush 6, 2) := by decide +kernel
theorem zfe_155_211 : zfetch 155 211 = some (.iload_n 2, 1) := by decide +kernel
theorem zfe_155_212 : zfetch 155 212 = some (.imul, 1) := by decide +kernel
theorem zfe_155_213 : zfetch 155 213 = some (.iconst 5, 1) := by decide +kernel
theorem zfe_155_214 : zfetch 155 214 = some (.iadd, 1) := by decide +kernel
theorem zfe_155_215 : zfetch 155 215 = some (.aload_n 0, 1) := by decide +kernel
theorem zfe_155_216 : zfetch 155 216 = some (.getfield 153, 3) := by decide +kernel
theorem zfe_155_219 : zfetch 155 219 = some (.iload_n 3, 1) := by decide +kernel
theorem zfe_155_220 : zfetch 155 220 = some (.isub, 1) := by decide +kernel
theorem zfe_155_221 : zfetch 155 221 = some (.iastore, 1) := by decide +kernel
theorem zfe_155_222 : zfetch 155 222 = some (.aload_n 0, 1) := by decide +kernel
theorem zfe_155_223 : zfetch 155 223 = some (.getfield 138, 3) := by decide +kernel
theorem zfe_155_226 : zfetch 155 226 = some (.bipush 6, 2) := by decide +kernel
theorem zfe_155_228 : zfetch 155 228 = some (.iload_n 2, 1) := by decide +kernel
theorem zfe_155_229 : zfetch 155 229 = some (.imul, 1) := by decide +kernel
theorem zfe_155_230 : zfetch 155 230 = some (.iconst 4, 1) := by decide +kernel
theorem zfe_155_231 : zfetch 155 231 = some (.iadd, 1) := by decide +kernel
theorem zfe_155_232 : zfetch 155 232 = some (.aload_n 0, 1) := by decide +kernel
theorem zfe_155_233 : zfetch 155 233 = some (.invokevirtual 416, 3) := by decide +kernel
theorem zfe_155_236 : zfetch 155 236 = some (.ifCond .eq 14, 3) := by decide +kernel
theorem zfe_155_239 : zfetch 155 239 = some (.aload_n 0, 1) := by decide +kernel
theorem zfe_155_240 : zfetch 155 240 = some (.getfield 29, 3) := by decide +kernel
theorem zfe_155_243 : zfetch 155 243 = some (.iload_n 3, 1) := by decide +kernel
theorem zfe_155_244 : zfetch 155 244 = some (.iconst 1, 1) := by decide +kernel
theorem zfe_155_245 : zfetch 155 245 = some (.iadd, 1) := by decide +kernel
theorem zfe_155_246 : zfetch 155 246 = some (.iaload, 1) := by decide +kernel
theorem zfe_155_247 : zfetch 155 247 = some (.goto 4, 3) := by decide +kernel
theorem zfe_155_250 : zfetch 155 250 = some (.iconst (-1), 1) := by decide +kernel
theorem zfe_155_251 : zfetch 155 251 = some (.iastore, 1) := by decide +kernel
theorem zfe_155_252 : zfetch 155 252 = some (.aload_n 0, 1) := by decide +kernel
theorem zfe_155_253 : zfetch 155 253 = some (.getfield 138, 3) := by decide +kernel
theorem zfe_155_256 : zfetch 155 256 = some (.bipush 6, 2) := by decide +kernel
theorem zfe_155_258 : zfetch 155 258 = some (.iload_n 2, 1) := by decide +kernel
theorem zfe_155_259 : zfetch 155 259 = some (.imul, 1) := by decide +kernel
theorem zfe_155_260 : zfetch 155 260 = some (.iconst 1, 1) := by decide +kernel
theorem zfe_155_261 : zfetch 155 261 = some (.iadd, 1) := by decide +kernel
theorem zfe_155_262 : zfetch 155 262 = some (.aload_n 0, 1) := by decide +kernel
theorem zfe_155_263 : zfetch 155 263 = some (.getfield 299, 3) := by decide +kernel
theorem zfe_155_266 : zfetch 155 266 = some (.iastore, 1) := by decide +kernel
theorem zfe_155_267 : zfetch 155 267 = some (.aload_n 0, 1) := by decide +kernel
theorem zfe_155_268 : zfetch 155 268 = some (.getfield 138, 3) := by decide +kernel
theorem zfe_155_271 : zfetch 155 271 = some (.bipush 6, 2) := by decide +kernel
theorem zfe_155_273 : zfetch 155 273 = some (.iload_n 2, 1) := by decide +kernel
theorem zfe_155_274 : zfetch 155 274 = some (.imul, 1) := by decide +kernel
theorem zfe_155_275 : zfetch 155 275 = some (.aload_n 0, 1) := by decide +kernel
theorem zfe_155_276 : zfetch 155 276 = some (.getfield 329, 3) := by decide +kernel
theorem zfe_155_279 : zfetch 155 279 = some (.iastore, 1) := by decide +kernel
theorem zfe_155_280 : zfetch 155 280 = some (.aload_n 0, 1) := by decide +kernel
theorem zfe_155_281 : zfetch 155 281 = some (.dup, 1) := by decide +kernel
theorem zfe_155_282 : zfetch 155 282 = some (.getfield 424, 3) := by decide +kernel
theorem zfe_155_285 : zfetch 155 285 = some (.iconst 1, 1) := by decide +kernel
theorem zfe_155_286 : zfetch 155 286 = some (.iadd, 1) := by decide +kernel
theorem zfe_155_287 : zfetch 155 287 = some (.putfield 424, 3) := by decide +kernel
theorem zfe_155_290 : zfetch 155 290 = some (.aload_n 0, 1) := by decide +kernel
theorem zfe_155_291 : zfetch 155 291 = some (.iconst 0, 1) := by decide +kernel
theorem zfe_155_292 : zfetch 155 292 = some (.iload_n 2, 1) := by decide +kernel
theorem zfe_155_293 : zfetch 155 293 = some (.invokevirtual 427, 3) := by decide +kernel
theorem zfe_155_296 : zfetch 155 296 = some (.ireturn, 1) := by decide +kernel
theorem zlk_155_7 : zlink 155 7 = some (0, 12, 1) := by decide +kernel
theorem zlk_155_23 : zlink 155 23 = some (0, 12, 10) := by decide +kernel
theorem zlk_155_29 : zlink 155 29 = some (0, 12, 12) := by decide +kernel
theorem zlk_155_32 : zlink 155 32 = some (0, 12, 13) := by decide +kernel
theorem zlk_155_132 : zlink 155 132 = some (0, 12, 61) := by decide +kernel
theorem zlk_155_135 : zlink 155 135 = some (0, 12, 62) := by decide +kernel
theorem zlk_155_138 : zlink 155 138 = some (0, 12, 63) := by decide +kernel
theorem zlk_155_153 : zlink 155 153 = some (0, 12, 8) := by decide +kernel
theorem zlk_155_299 : zlink 155 299 = some (0, 12, 51) := by decide +kernel
theorem zlk_155_312 : zlink 155 312 = some (7, 182, 2) := by decide +kernel
theorem zlk_155_329 : zlink 155 329 = some (0, 12, 52) := by decide +kernel
theorem zlk_155_335 : zlink 155 335 = some (0, 12, 56) := by decide +kernel
theorem zlk_155_338 : zlink 155 338 = some (0, 12, 57) := by decide +kernel
theorem zlk_155_409 : zlink 155 409 = some (7, 157, 3) := by decide +kernel
theorem zlk_155_412 : zlink 155 412 = some (7, 161, 0) := by decide +kernel
theorem zlk_155_416 : zlink 155 416 = some (7, 195, 0) := by decide +kernel
theorem zlk_155_419 : zlink 155 419 = some (0, 12, 3) := by decide +kernel
theorem zlk_155_424 : zlink 155 424 = some (0, 12, 53) := by decide +kernel
theorem zlk_155_427 : zlink 155 427 = some (7, 156, 2) := by decide +kernel
theorem zlk_155_430 : zlink 155 430 = some (7, 167, 0) := by decide +kernel
-- 156: PactLedgerModel.give(II)I
theorem znl_156 : (z_meth[156]?).map (fun m => m.2.2.1) = some 3 := by decide +kernel
theorem zrt_156 : (z_meth[156]?).map (fun m => m.2.2.2.1) = some (some .int) := by decide +kernel
theorem zfe_156_0 : zfetch 156 0 = some (.aload_n 0, 1) := by decide +kernel
theorem zfe_156_1 : zfetch 156 1 = some (.iload_n 1, 1) := by decide +kernel
theorem zfe_156_2 : zfetch 156 2 = some (.putfield 144, 3) := by decide +kernel
theorem zfe_156_5 : zfetch 156 5 = some (.iload_n 2, 1) := by decide +kernel
theorem zfe_156_6 : zfetch 156 6 = some (.ireturn, 1) := by decide +kernel
theorem zlk_156_144 : zlink 156 144 = some (0, 12, 0) := by decide +kernel
-- 157: PactLedgerModel.readNodes(III)Z
theorem znl_157 : (z_meth[157]?).map (fun m => m.2.2.1) = some 11 := by decide +kernel
theorem zrt_157 : (z_meth[157]?).map (fun m => m.2.2.2.1) = some (some .boolean) := by decide +kernel
theorem zfe_157_0 : zfetch 157 0 = some (.aload_n 0, 1) := by decide +kernel
theorem zfe_157_1 : zfetch 157 1 = some (.iload_n 1, 1) := by decide +kernel
theorem zfe_157_2 : zfetch 157 2 = some (.putfield 147, 3) := by decide +kernel
theorem zfe_157_5 : zfetch 157 5 = some (.aload_n 0, 1) := by decide +kernel
theorem zfe_157_6 : zfetch 157 6 = some (.iload_n 1, 1) := by decide +kernel
theorem zfe_157_7 : zfetch 157 7 = some (.iload_n 2, 1) := by decide +kernel
theorem zfe_157_8 : zfetch 157 8 = some (.iadd, 1) := by decide +kernel
theorem zfe_157_9 : zfetch 157 9 = some (.putfield 150, 3) := by decide +kernel
theorem zfe_157_12 : zfetch 157 12 = some (.aload_n 0, 1) := by decide +kernel
theorem zfe_157_13 : zfetch 157 13 = some (.iconst (-1), 1) := by decide +kernel
theorem zfe_157_14 : zfetch 157 14 = some (.putfield 16, 3) := by decide +kernel
theorem zfe_157_17 : zfetch 157 17 = some (.aload_n 0, 1) := by decide +kernel
theorem zfe_157_18 : zfetch 157 18 = some (.iconst 0, 1) := by decide +kernel
theorem zfe_157_19 : zfetch 157 19 = some (.putfield 153, 3) := by decide +kernel
theorem zfe_157_22 : zfetch 157 22 = some (.iconst 0, 1) := by decide +kernel
theorem zfe_157_23 : zfetch 157 23 = some (.istore 4, 2) := by decide +kernel
theorem zfe_157_25 : zfetch 157 25 = some (.iload_n 1, 1) := by decide +kernel
theorem zfe_157_26 : zfetch 157 26 = some (.istore 5, 2) := by decide +kernel
theorem zfe_157_28 : zfetch 157 28 = some (.iconst 0, 1) := by decide +kernel
theorem zfe_157_29 : zfetch 157 29 = some (.istore 6, 2) := by decide +kernel
theorem zfe_157_31 : zfetch 157 31 = some (.iconst 0, 1) := by decide +kernel
theorem zfe_157_32 : zfetch 157 32 = some (.istore 7, 2) := by decide +kernel
theorem zfe_157_34 : zfetch 157 34 = some (.iload 7, 2) := by decide +kernel
theorem zfe_157_36 : zfetch 157 36 = some (.sipush 300, 3) := by decide +kernel
theorem zfe_157_39 : zfetch 157 39 = some (.if_icmp .ge 288, 3) := by decide +kernel
theorem zfe_157_42 : zfetch 157 42 = some (.iload 6, 2) := by decide +kernel
theorem zfe_157_44 : zfetch 157 44 = some (.iload_n 3, 1) := by decide +kernel
theorem zfe_157_45 : zfetch 157 45 = some (.if_icmp .ge 282, 3) := by decide +kernel
theorem zfe_157_48 : zfetch 157 48 = some (.iload 5, 2) := by decide +kernel
theorem zfe_157_50 : zfetch 157 50 = some (.aload_n 0, 1) := by decide +kernel
theorem zfe_157_51 : zfetch 157 51 = some (.getfield 150, 3) := by decide +kernel
theorem zfe_157_54 : zfetch 157 54 = some (.if_icmp .lt 20, 3) := by decide +kernel
theorem zfe_157_57 : zfetch 157 57 = some (.aload_n 0, 1) := by decide +kernel
theorem zfe_157_58 : zfetch 157 58 = some (.aload_n 0, 1) := by decide +kernel
theorem zfe_157_59 : zfetch 157 59 = some (.getfield 150, 3) := by decide +kernel
theorem zfe_157_62 : zfetch 157 62 = some (.invokevirtual 156, 3) := by decide +kernel
theorem zfe_157_65 : zfetch 157 65 = some (.ifCond .lt 7, 3) := by decide +kernel
theorem zfe_157_68 : zfetch 157 68 = some (.iconst 1, 1) := by decide +kernel
theorem zfe_157_69 : zfetch 157 69 = some (.goto 4, 3) := by decide +kernel
theorem zfe_157_72 : zfetch 157 72 = some (.iconst 0, 1) := by decide +kernel
theorem zfe_157_73 : zfetch 157 73 = some (.ireturn, 1) := by decide +kernel
theorem zfe_157_74 : zfetch 157 74 = some (.iload 4, 2) := by decide +kernel
theorem zfe_157_76 : zfetch 157 76 = some (.bipush 9, 2) := by decide +kernel
theorem zfe_157_78 : zfetch 157 78 = some (.if_icmp .eq 12, 3) := by decide +kernel
theorem zfe_157_81 : zfetch 157 81 = some (.aload_n 0, 1) := by decide +kernel
theorem zfe_157_82 : zfetch 157 82 = some (.getfield 153, 3) := by decide +kernel
theorem zfe_157_85 : zfetch 157 85 = some (.bipush 100, 2) := by decide +kernel
theorem zfe_157_87 : zfetch 157 87 = some (.if_icmp .ne 18, 3) := by decide +kernel
theorem zfe_157_90 : zfetch 157 90 = some (.aload_n 0, 1) := by decide +kernel
theorem zfe_157_91 : zfetch 157 91 = some (.iload 5, 2) := by decide +kernel
theorem zfe_157_93 : zfetch 157 93 = some (.invokevirtual 156, 3) := by decide +kernel
theorem zfe_157_96 : zfetch 157 96 = some (.ifCond .lt 7, 3) := by decide +kernel
theorem zfe_157_99 : zfetch 157 99 = some (.iconst 1, 1) := by decide +kernel
theorem zfe_157_100 : zfetch 157 100 = some (.goto 4, 3) := by decide +kernel
theorem zfe_157_103 : zfetch 157 103 = some (.iconst 0, 1) := by decide +kernel
theorem zfe_157_104 : zfetch 157 104 = some (.ireturn, 1) := by decide +kernel
theorem zfe_157_105 : zfetch 157 105 = some (.aload_n 0, 1) := by decide +kernel
theorem zfe_157_106 : zfetch 157 106 = some (.getfield 153, 3) := by decide +kernel
theorem zfe_157_109 : zfetch 157 109 = some (.istore 8, 2) := by decide +kernel
theorem zfe_157_111 : zfetch 157 111 = some (.aload_n 0, 1) := by decide +kernel
theorem zfe_157_112 : zfetch 157 112 = some (.getfield 35, 3) := by decide +kernel
theorem zfe_157_115 : zfetch 157 115 = some (.iload 8, 2) := by decide +kernel
theorem zfe_157_117 : zfetch 157 117 = some (.iload 4, 2) := by decide +kernel
theorem zfe_157_119 : zfetch 157 119 = some (.ifCond .ne 7, 3) := by decide +kernel
theorem zfe_157_122 : zfetch 157 122 = some (.iconst (-1), 1) := by decide +kernel
theorem zfe_157_123 : zfetch 157 123 = some (.goto 12, 3) := by decide +kernel
theorem zfe_157_126 : zfetch 157 126 = some (.aload_n 0, 1) := by decide +kernel
theorem zfe_157_127 : zfetch 157 127 = some (.getfield 51, 3) := by decide +kernel
theorem zfe_157_130 : zfetch 157 130 = some (.iload 4, 2) := by decide +kernel
theorem zfe_157_132 : zfetch 157 132 = some (.iconst 1, 1) := by decide +kernel
theorem zfe_157_133 : zfetch 157 133 = some (.isub, 1) := by decide +kernel
theorem zfe_157_134 : zfetch 157 134 = some (.iaload, 1) := by decide +kernel
theorem zfe_157_135 : zfetch 157 135 = some (.iastore, 1) := by decide +kernel
theorem zfe_157_136 : zfetch 157 136 = some (.aload_n 0, 1) := by decide +kernel
theorem zfe_157_137 : zfetch 157 137 = some (.iload 8, 2) := by decide +kernel
theorem zfe_157_139 : zfetch 157 139 = some (.iload 5, 2) := by decide +kernel
theorem zfe_157_141 : zfetch 157 141 = some (.invokevirtual 160, 3) := by decide +kernel
theorem zfe_157_144 : zfetch 157 144 = some (.istore 5, 2) := by decide +kernel
theorem zfe_157_146 : zfetch 157 146 = some (.iload 5, 2) := by decide +kernel
theorem zfe_157_148 : zfetch 157 148 = some (.ifCond .ge 5, 3) := by decide +kernel
theorem zfe_157_151 : zfetch 157 151 = some (.iconst 0, 1) := by decide +kernel
theorem zfe_157_152 : zfetch 157 152 = some (.ireturn, 1) := by decide +kernel
theorem zfe_157_153 : zfetch 157 153 = some (.aload_n 0, 1) := by decide +kernel
theorem zfe_157_154 : zfetch 157 154 = some (.getfield 32, 3) := by decide +kernel
theorem zfe_157_157 : zfetch 157 157 = some (.iload 8, 2) := by decide +kernel
theorem zfe_157_159 : zfetch 157 159 = some (.aload_n 0, 1) := by decide +kernel
theorem zfe_157_160 : zfetch 157 160 = some (.getfield 153, 3) := by decide +kernel
theorem zfe_157_163 : zfetch 157 163 = some (.iastore, 1) := by decide +kernel
theorem zfe_157_164 : zfetch 157 164 = some (.aload_n 0, 1) := by decide +kernel
theorem zfe_157_165 : zfetch 157 165 = some (.getfield 51, 3) := by decide +kernel
theorem zfe_157_168 : zfetch 157 168 = some (.iload 4, 2) := by decide +kernel
theorem zfe_157_170 : zfetch 157 170 = some (.iload 8, 2) := by decide +kernel
theorem zfe_157_172 : zfetch 157 172 = some (.iastore, 1) := by decide +kernel
theorem zfe_157_173 : zfetch 157 173 = some (.aload_n 0, 1) := by decide +kernel
theorem zfe_157_174 : zfetch 157 174 = some (.getfield 54, 3) := by decide +kernel
theorem zfe_157_177 : zfetch 157 177 = some (.iload 4, 2) := by decide +kernel
theorem zfe_157_179 : zfetch 157 179 = some (.aload_n 0, 1) := by decide +kernel
theorem zfe_157_180 : zfetch 157 180 = some (.getfield 29, 3) := by decide +kernel
theorem zfe_157_183 : zfetch 157 183 = some (.iload 8, 2) := by decide +kernel
theorem zfe_157_185 : zfetch 157 185 = some (.iaload, 1) := by decide +kernel
theorem zfe_157_186 : zfetch 157 186 = some (.iconst 1, 1) := by decide +kernel
theorem zfe_157_187 : zfetch 157 187 = some (.iadd, 1) := by decide +kernel
theorem zfe_157_188 : zfetch 157 188 = some (.iastore, 1) := by decide +kernel
theorem zfe_157_189 : zfetch 157 189 = some (.iload 4, 2) := by decide +kernel
theorem zfe_157_191 : zfetch 157 191 = some (.aload_n 0, 1) := by decide +kernel
theorem zfe_157_192 : zfetch 157 192 = some (.getfield 29, 3) := by decide +kernel
theorem zfe_157_195 : zfetch 157 195 = some (.iload 8, 2) := by decide +kernel
theorem zfe_157_197 : zfetch 157 197 = some (.iaload, 1) := by decide +kernel
theorem zfe_157_198 : zfetch 157 198 = some (.ifCond .le 7, 3) := by decide +kernel
theorem zfe_157_201 : zfetch 157 201 = some (.iconst 1, 1) := by decide +kernel
theorem zfe_157_202 : zfetch 157 202 = some (.goto 4, 3) := by decide +kernel
theorem zfe_157_205 : zfetch 157 205 = some (.iconst 0, 1) := by decide +kernel
theorem zfe_157_206 : zfetch 157 206 = some (.iadd, 1) := by decide +kernel
theorem zfe_157_207 : zfetch 157 207 = some (.istore 4, 2) := by decide +kernel
theorem zfe_157_209 : zfetch 157 209 = some (.iconst 1, 1) := by decide +kernel
theorem zfe_157_210 : zfetch 157 210 = some (.istore 9, 2) := by decide +kernel
theorem zfe_157_212 : zfetch 157 212 = some (.iconst 0, 1) := by decide +kernel
theorem zfe_157_213 : zfetch 157 213 = some (.istore 10, 2) := by decide +kernel
theorem zfe_157_215 : zfetch 157 215 = some (.iload 10, 2) := by decide +kernel
theorem zfe_157_217 : zfetch 157 217 = some (.bipush 10, 2) := by decide +kernel
theorem zfe_157_219 : zfetch 157 219 = some (.if_icmp .ge 87, 3) := by decide +kernel
theorem zfe_157_222 : zfetch 157 222 = some (.iload 9, 2) := by decide +kernel
theorem zfe_157_224 : zfetch 157 224 = some (.ifCond .eq 82, 3) := by decide +kernel
theorem zfe_157_227 : zfetch 157 227 = some (.iload 4, 2) := by decide +kernel
theorem zfe_157_229 : zfetch 157 229 = some (.ifCond .le 77, 3) := by decide +kernel
theorem zfe_157_232 : zfetch 157 232 = some (.aload_n 0, 1) := by decide +kernel
theorem zfe_157_233 : zfetch 157 233 = some (.getfield 54, 3) := by decide +kernel
theorem zfe_157_236 : zfetch 157 236 = some (.iload 4, 2) := by decide +kernel
theorem zfe_157_238 : zfetch 157 238 = some (.iconst 1, 1) := by decide +kernel
theorem zfe_157_239 : zfetch 157 239 = some (.isub, 1) := by decide +kernel
theorem zfe_157_240 : zfetch 157 240 = some (.dup2, 1) := by decide +kernel
theorem zfe_157_241 : zfetch 157 241 = some (.iaload, 1) := by decide +kernel
theorem zfe_157_242 : zfetch 157 242 = some (.iconst 1, 1) := by decide +kernel
theorem zfe_157_243 : zfetch 157 243 = some (.isub, 1) := by decide +kernel
theorem zfe_157_244 : zfetch 157 244 = some (.iastore, 1) := by decide +kernel
theorem zfe_157_245 : zfetch 157 245 = some (.aload_n 0, 1) := by decide +kernel
theorem zfe_157_246 : zfetch 157 246 = some (.getfield 54, 3) := by decide +kernel
theorem zfe_157_249 : zfetch 157 249 = some (.iload 4, 2) := by decide +kernel
theorem zfe_157_251 : zfetch 157 251 = some (.iconst 1, 1) := by decide +kernel
theorem zfe_157_252 : zfetch 157 252 = some (.isub, 1) := by decide +kernel
theorem zfe_157_253 : zfetch 157 253 = some (.iaload, 1) := by decide +kernel
theorem zfe_157_254 : zfetch 157 254 = some (.ifCond .ne 7, 3) := by decide +kernel
theorem zfe_157_257 : zfetch 157 257 = some (.iconst 1, 1) := by decide +kernel
theorem zfe_157_258 : zfetch 157 258 = some (.goto 4, 3) := by decide +kernel
theorem zfe_157_261 : zfetch 157 261 = some (.iconst 0, 1) := by decide +kernel
theorem zfe_157_262 : zfetch 157 262 = some (.istore 9, 2) := by decide +kernel
theorem zfe_157_264 : zfetch 157 264 = some (.iload 4, 2) := by decide +kernel
theorem zfe_157_266 : zfetch 157 266 = some (.iload 9, 2) := by decide +kernel
theorem zfe_157_268 : zfetch 157 268 = some (.ifCond .eq 7, 3) := by decide +kernel
theorem zfe_157_271 : zfetch 157 271 = some (.iconst 1, 1) := by decide +kernel
theorem zfe_157_272 : zfetch 157 272 = some (.goto 4, 3) := by decide +kernel
theorem zfe_157_275 : zfetch 157 275 = some (.iconst 0, 1) := by decide +kernel
theorem zfe_157_276 : zfetch 157 276 = some (.isub, 1) := by decide +kernel
theorem zfe_157_277 : zfetch 157 277 = some (.istore 4, 2) := by decide +kernel
theorem zfe_157_279 : zfetch 157 279 = some (.iload 9, 2) := by decide +kernel
theorem zfe_157_281 : zfetch 157 281 = some (.ifCond .eq 19, 3) := by decide +kernel
theorem zfe_157_284 : zfetch 157 284 = some (.aload_n 0, 1) := by decide +kernel
theorem zfe_157_285 : zfetch 157 285 = some (.getfield 32, 3) := by decide +kernel
theorem zfe_157_288 : zfetch 157 288 = some (.aload_n 0, 1) := by decide +kernel
theorem zfe_157_289 : zfetch 157 289 = some (.getfield 51, 3) := by decide +kernel
theorem zfe_157_292 : zfetch 157 292 = some (.iload 4, 2) := by decide +kernel
theorem zfe_157_294 : zfetch 157 294 = some (.iaload, 1) := by decide +kernel
theorem zfe_157_295 : zfetch 157 295 = some (.aload_n 0, 1) := by decide +kernel
theorem zfe_157_296 : zfetch 157 296 = some (.getfield 153, 3) := by decide +kernel
theorem zfe_157_299 : zfetch 157 299 = some (.iastore, 1) := by decide +kernel
theorem zfe_157_300 : zfetch 157 300 = some (.iinc 10 1, 3) := by decide +kernel
theorem zfe_157_303 : zfetch 157 303 = some (.goto (-88), 3) := by decide +kernel
theorem zfe_157_306 : zfetch 157 306 = some (.iload 6, 2) := by decide +kernel
theorem zfe_157_308 : zfetch 157 308 = some (.iload 4, 2) := by decide +kernel
theorem zfe_157_310 : zfetch 157 310 = some (.ifCond .ne 7, 3) := by decide +kernel
theorem zfe_157_313 : zfetch 157 313 = some (.iconst 1, 1) := by decide +kernel
theorem zfe_157_314 : zfetch 157 314 = some (.goto 4, 3) := by decide +kernel
theorem zfe_157_317 : zfetch 157 317 = some (.iconst 0, 1) := by decide +kernel
theorem zfe_157_318 : zfetch 157 318 = some (.iadd, 1) := by decide +kernel
theorem zfe_157_319 : zfetch 157 319 = some (.istore 6, 2) := by decide +kernel
theorem zfe_157_321 : zfetch 157 321 = some (.iinc 7 1, 3) := by decide +kernel
theorem zfe_157_324 : zfetch 157 324 = some (.goto (-290), 3) := by decide +kernel
theorem zfe_157_327 : zfetch 157 327 = some (.iload 5, 2) := by decide +kernel
theorem zfe_157_329 : zfetch 157 329 = some (.aload_n 0, 1) := by decide +kernel
theorem zfe_157_330 : zfetch 157 330 = some (.getfield 150, 3) := by decide +kernel
theorem zfe_157_333 : zfetch 157 333 = some (.if_icmp .eq 12, 3) := by decide +kernel
theorem zfe_157_336 : zfetch 157 336 = some (.aload_n 0, 1) := by decide +kernel
theorem zfe_157_337 : zfetch 157 337 = some (.iload 5, 2) := by decide +kernel
theorem zfe_157_339 : zfetch 157 339 = some (.invokevirtual 156, 3) := by decide +kernel
theorem zfe_157_342 : zfetch 157 342 = some (.ifCond .lt 7, 3) := by decide +kernel
theorem zfe_157_345 : zfetch 157 345 = some (.iconst 1, 1) := by decide +kernel
theorem zfe_157_346 : zfetch 157 346 = some (.goto 4, 3) := by decide +kernel
theorem zfe_157_349 : zfetch 157 349 = some (.iconst 0, 1) := by decide +kernel
theorem zfe_157_350 : zfetch 157 350 = some (.ireturn, 1) := by decide +kernel
theorem zlk_157_16 : zlink 157 16 = some (0, 12, 5) := by decide +kernel
theorem zlk_157_29 : zlink 157 29 = some (0, 12, 12) := by decide +kernel
theorem zlk_157_32 : zlink 157 32 = some (0, 12, 13) := by decide +kernel
theorem zlk_157_35 : zlink 157 35 = some (0, 12, 14) := by decide +kernel
theorem zlk_157_51 : zlink 157 51 = some (0, 12, 19) := by decide +kernel
theorem zlk_157_54 : zlink 157 54 = some (0, 12, 20) := by decide +kernel
theorem zlk_157_147 : zlink 157 147 = some (0, 12, 6) := by decide +kernel
theorem zlk_157_150 : zlink 157 150 = some (0, 12, 7) := by decide +kernel
theorem zlk_157_153 : zlink 157 153 = some (0, 12, 8) := by decide +kernel
theorem zlk_157_156 : zlink 157 156 = some (7, 158, 1) := by decide +kernel
theorem zlk_157_160 : zlink 157 160 = some (7, 159, 2) := by decide +kernel
-- 158: PactLedgerModel.bad(I)I
theorem znl_158 : (z_meth[158]?).map (fun m => m.2.2.1) = some 2 := by decide +kernel
theorem zrt_158 : (z_meth[158]?).map (fun m => m.2.2.2.1) = some (some .int) := by decide +kernel
theorem zfe_158_0 : zfetch 158 0 = some (.aload_n 0, 1) := by decide +kernel
theorem zfe_158_1 : zfetch 158 1 = some (.iload_n 1, 1) := by decide +kernel
theorem zfe_158_2 : zfetch 158 2 = some (.aload_n 0, 1) := by decide +kernel
theorem zfe_158_3 : zfetch 158 3 = some (.getfield 147, 3) := by decide +kernel
theorem zfe_158_6 : zfetch 158 6 = some (.isub, 1) := by decide +kernel
theorem zfe_158_7 : zfetch 158 7 = some (.putfield 16, 3) := by decide +kernel
theorem zfe_158_10 : zfetch 158 10 = some (.iconst (-1), 1) := by decide +kernel
theorem zfe_158_11 : zfetch 158 11 = some (.ireturn, 1) := by decide +kernel
theorem zlk_158_16 : zlink 158 16 = some (0, 12, 5) := by decide +kernel
theorem zlk_158_147 : zlink 158 147 = some (0, 12, 6) := by decide +kernel
-- 196: PactLedgerModel.wrong()I
theorem znl_196 : (z_meth[196]?).map (fun m => m.2.2.1) = some 1 := by decide +kernel
theorem zrt_196 : (z_meth[196]?).map (fun m => m.2.2.2.1) = some (some .int) := by decide +kernel
theorem zfe_196_0 : zfetch 196 0 = some (.aload_n 0, 1) := by decide +kernel
theorem zfe_196_1 : zfetch 196 1 = some (.iconst 0, 1) := by decide +kernel
theorem zfe_196_2 : zfetch 196 2 = some (.aload_n 0, 1) := by decide +kernel
theorem zfe_196_3 : zfetch 196 3 = some (.getfield 16, 3) := by decide +kernel
theorem zfe_196_6 : zfetch 196 6 = some (.invokevirtual 427, 3) := by decide +kernel
theorem zfe_196_9 : zfetch 196 9 = some (.ireturn, 1) := by decide +kernel
theorem zlk_196_16 : zlink 196 16 = some (0, 12, 5) := by decide +kernel
theorem zlk_196_427 : zlink 196 427 = some (7, 156, 2) := by decide +kernel
-- 197: PactLedgerModel.call(III)I
theorem znl_197 : (z_meth[197]?).map (fun m => m.2.2.1) = some 10 := by decide +kernel
theorem zrt_197 : (z_meth[197]?).map (fun m => m.2.2.2.1) = some (some .int) := by decide +kernel
theorem zfe_197_0 : zfetch 197 0 = some (.aload_n 0, 1) := by decide +kernel
theorem zfe_197_1 : zfetch 197 1 = some (.getfield 419, 3) := by decide +kernel
theorem zfe_197_4 : zfetch 197 4 = some (.istore 4, 2) := by decide +kernel
theorem zfe_197_6 : zfetch 197 6 = some (.aload_n 0, 1) := by decide +kernel
theorem zfe_197_7 : zfetch 197 7 = some (.iconst 0, 1) := by decide +kernel
theorem zfe_197_8 : zfetch 197 8 = some (.putfield 419, 3) := by decide +kernel
theorem zfe_197_11 : zfetch 197 11 = some (.aload_n 0, 1) := by decide +kernel
theorem zfe_197_12 : zfetch 197 12 = some (.iconst 0, 1) := by decide +kernel
theorem zfe_197_13 : zfetch 197 13 = some (.putfield 231, 3) := by decide +kernel
theorem zfe_197_16 : zfetch 197 16 = some (.aload_n 0, 1) := by decide +kernel
theorem zfe_197_17 : zfetch 197 17 = some (.iload_n 1, 1) := by decide +kernel
theorem zfe_197_18 : zfetch 197 18 = some (.invokevirtual 433, 3) := by decide +kernel
theorem zfe_197_21 : zfetch 197 21 = some (.ifCond .eq 26, 3) := by decide +kernel
theorem zfe_197_24 : zfetch 197 24 = some (.iload_n 2, 1) := by decide +kernel
theorem zfe_197_25 : zfetch 197 25 = some (.iconst 1, 1) := by decide +kernel
theorem zfe_197_26 : zfetch 197 26 = some (.if_icmp .lt 21, 3) := by decide +kernel
theorem zfe_197_29 : zfetch 197 29 = some (.iload_n 2, 1) := by decide +kernel
theorem zfe_197_30 : zfetch 197 30 = some (.bipush 120, 2) := by decide +kernel
theorem zfe_197_32 : zfetch 197 32 = some (.if_icmp .gt 15, 3) := by decide +kernel
theorem zfe_197_35 : zfetch 197 35 = some (.iload_n 3, 1) := by decide +kernel
theorem zfe_197_36 : zfetch 197 36 = some (.iconst 1, 1) := by decide +kernel
theorem zfe_197_37 : zfetch 197 37 = some (.if_icmp .lt 10, 3) := by decide +kernel
theorem zfe_197_40 : zfetch 197 40 = some (.iload_n 3, 1) := by decide +kernel
theorem zfe_197_41 : zfetch 197 41 = some (.sipush 150, 3) := by decide +kernel
theorem zfe_197_44 : zfetch 197 44 = some (.if_icmp .le 10, 3) := by decide +kernel
theorem zfe_197_47 : zfetch 197 47 = some (.aload_n 0, 1) := by decide +kernel
theorem zfe_197_48 : zfetch 197 48 = some (.iconst 1, 1) := by decide +kernel
theorem zfe_197_49 : zfetch 197 49 = some (.iconst 0, 1) := by decide +kernel
theorem zfe_197_50 : zfetch 197 50 = some (.invokevirtual 427, 3) := by decide +kernel
theorem zfe_197_53 : zfetch 197 53 = some (.ireturn, 1) := by decide +kernel
theorem zfe_197_54 : zfetch 197 54 = some (.aload_n 0, 1) := by decide +kernel
theorem zfe_197_55 : zfetch 197 55 = some (.iload_n 1, 1) := by decide +kernel
theorem zfe_197_56 : zfetch 197 56 = some (.invokevirtual 436, 3) := by decide +kernel
theorem zfe_197_59 : zfetch 197 59 = some (.aload_n 0, 1) := by decide +kernel
theorem zfe_197_60 : zfetch 197 60 = some (.iconst 0, 1) := by decide +kernel
theorem zfe_197_61 : zfetch 197 61 = some (.iload 4, 2) := by decide +kernel
theorem zfe_197_63 : zfetch 197 63 = some (.iconst 1, 1) := by decide +kernel
theorem zfe_197_64 : zfetch 197 64 = some (.invokevirtual 409, 3) := by decide +kernel
theorem zfe_197_67 : zfetch 197 67 = some (.ifCond .eq 15, 3) := by decide +kernel
theorem zfe_197_70 : zfetch 197 70 = some (.aload_n 0, 1) := by decide +kernel
theorem zfe_197_71 : zfetch 197 71 = some (.iconst 0, 1) := by decide +kernel
theorem zfe_197_72 : zfetch 197 72 = some (.aload_n 0, 1) := by decide +kernel
theorem zfe_197_73 : zfetch 197 73 = some (.getfield 332, 3) := by decide +kernel
theorem zfe_197_76 : zfetch 197 76 = some (.invokevirtual 312, 3) := by decide +kernel
theorem zfe_197_79 : zfetch 197 79 = some (.goto 4, 3) := by decide +kernel
theorem zfe_197_82 : zfetch 197 82 = some (.iconst (-1), 1) := by decide +kernel
theorem zfe_197_83 : zfetch 197 83 = some (.istore 5, 2) := by decide +kernel
theorem zfe_197_85 : zfetch 197 85 = some (.iload 5, 2) := by decide +kernel
theorem zfe_197_87 : zfetch 197 87 = some (.ifCond .ge 10, 3) := by decide +kernel
theorem zfe_197_90 : zfetch 197 90 = some (.aload_n 0, 1) := by decide +kernel
theorem zfe_197_91 : zfetch 197 91 = some (.iconst 1, 1) := by decide +kernel
theorem zfe_197_92 : zfetch 197 92 = some (.iconst 0, 1) := by decide +kernel
theorem zfe_197_93 : zfetch 197 93 = some (.invokevirtual 427, 3) := by decide +kernel
theorem zfe_197_96 : zfetch 197 96 = some (.ireturn, 1) := by decide +kernel
theorem zfe_197_97 : zfetch 197 97 = some (.aload_n 0, 1) := by decide +kernel
theorem zfe_197_98 : zfetch 197 98 = some (.iload_n 1, 1) := by decide +kernel
theorem zfe_197_99 : zfetch 197 99 = some (.invokevirtual 439, 3) := by decide +kernel
theorem zfe_197_102 : zfetch 197 102 = some (.istore 6, 2) := by decide +kernel
theorem zfe_197_104 : zfetch 197 104 = some (.aload_n 0, 1) := by decide +kernel
theorem zfe_197_105 : zfetch 197 105 = some (.sipush 240, 3) := by decide +kernel
theorem zfe_197_108 : zfetch 197 108 = some (.sipush 240, 3) := by decide +kernel
theorem zfe_197_111 : zfetch 197 111 = some (.iload_n 1, 1) := by decide +kernel
theorem zfe_197_112 : zfetch 197 112 = some (.imul, 1) := by decide +kernel
theorem zfe_197_113 : zfetch 197 113 = some (.iadd, 1) := by decide +kernel
theorem zfe_197_114 : zfetch 197 114 = some (.aload_n 0, 1) := by decide +kernel
theorem zfe_197_115 : zfetch 197 115 = some (.getfield 132, 3) := by decide +kernel
theorem zfe_197_118 : zfetch 197 118 = some (.iload_n 1, 1) := by decide +kernel
theorem zfe_197_119 : zfetch 197 119 = some (.iaload, 1) := by decide +kernel
theorem zfe_197_120 : zfetch 197 120 = some (.iconst 5, 1) := by decide +kernel
theorem zfe_197_121 : zfetch 197 121 = some (.invokevirtual 409, 3) := by decide +kernel
theorem zfe_197_124 : zfetch 197 124 = some (.pop, 1) := by decide +kernel
theorem zfe_197_125 : zfetch 197 125 = some (.iconst 0, 1) := by decide +kernel
theorem zfe_197_126 : zfetch 197 126 = some (.istore 7, 2) := by decide +kernel
theorem zfe_197_128 : zfetch 197 128 = some (.iload 7, 2) := by decide +kernel
theorem zfe_197_130 : zfetch 197 130 = some (.bipush 100, 2) := by decide +kernel
theorem zfe_197_132 : zfetch 197 132 = some (.if_icmp .ge 17, 3) := by decide +kernel
theorem zfe_197_135 : zfetch 197 135 = some (.aload_n 0, 1) := by decide +kernel
theorem zfe_197_136 : zfetch 197 136 = some (.getfield 141, 3) := by decide +kernel
theorem zfe_197_139 : zfetch 197 139 = some (.iload 7, 2) := by decide +kernel
theorem zfe_197_141 : zfetch 197 141 = some (.iconst (-1), 1) := by decide +kernel
theorem zfe_197_142 : zfetch 197 142 = some (.iastore, 1) := by decide +kernel
theorem zfe_197_143 : zfetch 197 143 = some (.iinc 7 1, 3) := by decide +kernel
theorem zfe_197_146 : zfetch 197 146 = some (.goto (-18), 3) := by decide +kernel
theorem zfe_197_149 : zfetch 197 149 = some (.aload_n 0, 1) := by decide +kernel
theorem zfe_197_150 : zfetch 197 150 = some (.iconst 0, 1) := by decide +kernel
theorem zfe_197_151 : zfetch 197 151 = some (.putfield 287, 3) := by decide +kernel
theorem zfe_197_154 : zfetch 197 154 = some (.aload_n 0, 1) := by decide +kernel
theorem zfe_197_155 : zfetch 197 155 = some (.iconst 0, 1) := by decide +kernel
theorem zfe_197_156 : zfetch 197 156 = some (.putfield 296, 3) := by decide +kernel
theorem zfe_197_159 : zfetch 197 159 = some (.aload_n 0, 1) := by decide +kernel
theorem zfe_197_160 : zfetch 197 160 = some (.iconst 0, 1) := by decide +kernel
theorem zfe_197_161 : zfetch 197 161 = some (.putfield 366, 3) := by decide +kernel
theorem zfe_197_164 : zfetch 197 164 = some (.aload_n 0, 1) := by decide +kernel
theorem zfe_197_165 : zfetch 197 165 = some (.iload_n 3, 1) := by decide +kernel
theorem zfe_197_166 : zfetch 197 166 = some (.putfield 369, 3) := by decide +kernel
theorem zfe_197_169 : zfetch 197 169 = some (.aload_n 0, 1) := by decide +kernel
theorem zfe_197_170 : zfetch 197 170 = some (.iload_n 2, 1) := by decide +kernel
theorem zfe_197_171 : zfetch 197 171 = some (.putfield 266, 3) := by decide +kernel
theorem zfe_197_174 : zfetch 197 174 = some (.aload_n 0, 1) := by decide +kernel
theorem zfe_197_175 : zfetch 197 175 = some (.aload_n 0, 1) := by decide +kernel
theorem zfe_197_176 : zfetch 197 176 = some (.iconst 5, 1) := by decide +kernel
theorem zfe_197_177 : zfetch 197 177 = some (.iload 5, 2) := by decide +kernel
theorem zfe_197_179 : zfetch 197 179 = some (.iload 6, 2) := by decide +kernel
theorem zfe_197_181 : zfetch 197 181 = some (.invokevirtual 189, 3) := by decide +kernel
theorem zfe_197_184 : zfetch 197 184 = some (.invokevirtual 315, 3) := by decide +kernel
theorem zfe_197_187 : zfetch 197 187 = some (.aload_n 0, 1) := by decide +kernel
theorem zfe_197_188 : zfetch 197 188 = some (.invokevirtual 442, 3) := by decide +kernel
theorem zfe_197_191 : zfetch 197 191 = some (.istore 7, 2) := by decide +kernel
theorem zfe_197_193 : zfetch 197 193 = some (.iload 7, 2) := by decide +kernel
theorem zfe_197_195 : zfetch 197 195 = some (.ifCond .eq 11, 3) := by decide +kernel
theorem zfe_197_198 : zfetch 197 198 = some (.aload_n 0, 1) := by decide +kernel
theorem zfe_197_199 : zfetch 197 199 = some (.iload 7, 2) := by decide +kernel
theorem zfe_197_201 : zfetch 197 201 = some (.iconst 0, 1) := by decide +kernel
theorem zfe_197_202 : zfetch 197 202 = some (.invokevirtual 427, 3) := by decide +kernel
theorem zfe_197_205 : zfetch 197 205 = some (.ireturn, 1) := by decide +kernel
theorem zfe_197_206 : zfetch 197 206 = some (.aload_n 0, 1) := by decide +kernel
theorem zfe_197_207 : zfetch 197 207 = some (.getfield 77, 3) := by decide +kernel
theorem zfe_197_210 : zfetch 197 210 = some (.aload_n 0, 1) := by decide +kernel
theorem zfe_197_211 : zfetch 197 211 = some (.iconst 0, 1) := by decide +kernel
theorem zfe_197_212 : zfetch 197 212 = some (.invokevirtual 290, 3) := by decide +kernel
theorem zfe_197_215 : zfetch 197 215 = some (.saload, 1) := by decide +kernel
theorem zfe_197_216 : zfetch 197 216 = some (.istore 8, 2) := by decide +kernel
theorem zfe_197_218 : zfetch 197 218 = some (.aload_n 0, 1) := by decide +kernel
theorem zfe_197_219 : zfetch 197 219 = some (.iload 8, 2) := by decide +kernel
theorem zfe_197_221 : zfetch 197 221 = some (.bipush 100, 2) := by decide +kernel
theorem zfe_197_223 : zfetch 197 223 = some (.iconst 0, 1) := by decide +kernel
theorem zfe_197_224 : zfetch 197 224 = some (.invokevirtual 384, 3) := by decide +kernel
theorem zfe_197_227 : zfetch 197 227 = some (.ifCond .eq 25, 3) := by decide +kernel
theorem zfe_197_230 : zfetch 197 230 = some (.aload_n 0, 1) := by decide +kernel
theorem zfe_197_231 : zfetch 197 231 = some (.iload_n 1, 1) := by decide +kernel
theorem zfe_197_232 : zfetch 197 232 = some (.aload_n 0, 1) := by decide +kernel
theorem zfe_197_233 : zfetch 197 233 = some (.getfield 81, 3) := by decide +kernel
theorem zfe_197_236 : zfetch 197 236 = some (.aload_n 0, 1) := by decide +kernel
theorem zfe_197_237 : zfetch 197 237 = some (.iconst 0, 1) := by decide +kernel
theorem zfe_197_238 : zfetch 197 238 = some (.invokevirtual 290, 3) := by decide +kernel
theorem zfe_197_241 : zfetch 197 241 = some (.saload, 1) := by decide +kernel
theorem zfe_197_242 : zfetch 197 242 = some (.invokevirtual 446, 3) := by decide +kernel
theorem zfe_197_245 : zfetch 197 245 = some (.ifCond .eq 7, 3) := by decide +kernel
theorem zfe_197_248 : zfetch 197 248 = some (.iconst 1, 1) := by decide +kernel
theorem zfe_197_249 : zfetch 197 249 = some (.goto 4, 3) := by decide +kernel
theorem zfe_197_252 : zfetch 197 252 = some (.iconst 0, 1) := by decide +kernel
theorem zfe_197_253 : zfetch 197 253 = some (.istore 9, 2) := by decide +kernel
theorem zfe_197_255 : zfetch 197 255 = some (.aload_n 0, 1) := by decide +kernel
theorem zfe_197_256 : zfetch 197 256 = some (.iconst 0, 1) := by decide +kernel
theorem zfe_197_257 : zfetch 197 257 = some (.putfield 231, 3) := by decide +kernel
theorem zfe_197_260 : zfetch 197 260 = some (.iload 9, 2) := by decide +kernel
theorem zfe_197_262 : zfetch 197 262 = some (.ifCond .ne 10, 3) := by decide +kernel
theorem zfe_197_265 : zfetch 197 265 = some (.aload_n 0, 1) := by decide +kernel
theorem zfe_197_266 : zfetch 197 266 = some (.iconst 3, 1) := by decide +kernel
theorem zfe_197_267 : zfetch 197 267 = some (.iconst 0, 1) := by decide +kernel
theorem zfe_197_268 : zfetch 197 268 = some (.invokevirtual 427, 3) := by decide +kernel
theorem zfe_197_271 : zfetch 197 271 = some (.ireturn, 1) := by decide +kernel
theorem zfe_197_272 : zfetch 197 272 = some (.aload_n 0, 1) := by decide +kernel
theorem zfe_197_273 : zfetch 197 273 = some (.iload 8, 2) := by decide +kernel
theorem zfe_197_275 : zfetch 197 275 = some (.bipush 100, 2) := by decide +kernel
theorem zfe_197_277 : zfetch 197 277 = some (.iconst 0, 1) := by decide +kernel
theorem zfe_197_278 : zfetch 197 278 = some (.invokevirtual 384, 3) := by decide +kernel
theorem zfe_197_281 : zfetch 197 281 = some (.pop, 1) := by decide +kernel
theorem zfe_197_282 : zfetch 197 282 = some (.aload_n 0, 1) := by decide +kernel
theorem zfe_197_283 : zfetch 197 283 = some (.getfield 138, 3) := by decide +kernel
theorem zfe_197_286 : zfetch 197 286 = some (.bipush 6, 2) := by decide +kernel
theorem zfe_197_288 : zfetch 197 288 = some (.iload_n 1, 1) := by decide +kernel
theorem zfe_197_289 : zfetch 197 289 = some (.imul, 1) := by decide +kernel
theorem zfe_197_290 : zfetch 197 290 = some (.iconst 2, 1) := by decide +kernel
theorem zfe_197_291 : zfetch 197 291 = some (.iadd, 1) := by decide +kernel
theorem zfe_197_292 : zfetch 197 292 = some (.dup2, 1) := by decide +kernel
theorem zfe_197_293 : zfetch 197 293 = some (.iaload, 1) := by decide +kernel
theorem zfe_197_294 : zfetch 197 294 = some (.iconst 1, 1) := by decide +kernel
theorem zfe_197_295 : zfetch 197 295 = some (.iadd, 1) := by decide +kernel
theorem zfe_197_296 : zfetch 197 296 = some (.iastore, 1) := by decide +kernel
theorem zfe_197_297 : zfetch 197 297 = some (.aload_n 0, 1) := by decide +kernel
theorem zfe_197_298 : zfetch 197 298 = some (.getfield 138, 3) := by decide +kernel
theorem zfe_197_301 : zfetch 197 301 = some (.bipush 6, 2) := by decide +kernel
theorem zfe_197_303 : zfetch 197 303 = some (.iload_n 1, 1) := by decide +kernel
theorem zfe_197_304 : zfetch 197 304 = some (.imul, 1) := by decide +kernel
theorem zfe_197_305 : zfetch 197 305 = some (.iconst 3, 1) := by decide +kernel
theorem zfe_197_306 : zfetch 197 306 = some (.iadd, 1) := by decide +kernel
theorem zfe_197_307 : zfetch 197 307 = some (.dup2, 1) := by decide +kernel
theorem zfe_197_308 : zfetch 197 308 = some (.iaload, 1) := by decide +kernel
theorem zfe_197_309 : zfetch 197 309 = some (.aload_n 0, 1) := by decide +kernel
theorem zfe_197_310 : zfetch 197 310 = some (.getfield 366, 3) := by decide +kernel
theorem zfe_197_313 : zfetch 197 313 = some (.iadd, 1) := by decide +kernel
theorem zfe_197_314 : zfetch 197 314 = some (.iastore, 1) := by decide +kernel
theorem zfe_197_315 : zfetch 197 315 = some (.aload_n 0, 1) := by decide +kernel
theorem zfe_197_316 : zfetch 197 316 = some (.iconst 0, 1) := by decide +kernel
theorem zfe_197_317 : zfetch 197 317 = some (.aload_n 0, 1) := by decide +kernel
theorem zfe_197_318 : zfetch 197 318 = some (.getfield 366, 3) := by decide +kernel
theorem zfe_197_321 : zfetch 197 321 = some (.invokevirtual 427, 3) := by decide +kernel
theorem zfe_197_324 : zfetch 197 324 = some (.ireturn, 1) := by decide +kernel
theorem zlk_197_77 : zlink 197 77 = some (0, 12, 31) := by decide +kernel
theorem zlk_197_81 : zlink 197 81 = some (0, 12, 32) := by decide +kernel
theorem zlk_197_132 : zlink 197 132 = some (0, 12, 61) := by decide +kernel
theorem zlk_197_138 : zlink 197 138 = some (0, 12, 63) := by decide +kernel
theorem zlk_197_141 : zlink 197 141 = some (0, 12, 64) := by decide +kernel
theorem zlk_197_189 : zlink 197 189 = some (7, 187, 3) := by decide +kernel
theorem zlk_197_231 : zlink 197 231 = some (0, 12, 4) := by decide +kernel
theorem zlk_197_266 : zlink 197 266 = some (0, 12, 58) := by decide +kernel
theorem zlk_197_287 : zlink 197 287 = some (0, 12, 49) := by decide +kernel
theorem zlk_197_290 : zlink 197 290 = some (7, 173, 1) := by decide +kernel
theorem zlk_197_296 : zlink 197 296 = some (0, 12, 50) := by decide +kernel
theorem zlk_197_312 : zlink 197 312 = some (7, 182, 2) := by decide +kernel
theorem zlk_197_315 : zlink 197 315 = some (7, 168, 1) := by decide +kernel
theorem zlk_197_332 : zlink 197 332 = some (0, 12, 54) := by decide +kernel
theorem zlk_197_366 : zlink 197 366 = some (0, 12, 59) := by decide +kernel
theorem zlk_197_369 : zlink 197 369 = some (0, 12, 60) := by decide +kernel
theorem zlk_197_384 : zlink 197 384 = some (7, 208, 3) := by decide +kernel
theorem zlk_197_409 : zlink 197 409 = some (7, 157, 3) := by decide +kernel
theorem zlk_197_419 : zlink 197 419 = some (0, 12, 3) := by decide +kernel
theorem zlk_197_427 : zlink 197 427 = some (7, 156, 2) := by decide +kernel
theorem zlk_197_433 : zlink 197 433 = some (7, 198, 1) := by decide +kernel
theorem zlk_197_436 : zlink 197 436 = some (7, 199, 1) := by decide +kernel
theorem zlk_197_439 : zlink 197 439 = some (7, 200, 1) := by decide +kernel
theorem zlk_197_442 : zlink 197 442 = some (7, 201, 0) := by decide +kernel
theorem zlk_197_446 : zlink 197 446 = some (7, 226, 2) := by decide +kernel
-- 198: PactLedgerModel.isContract(I)Z
theorem znl_198 : (z_meth[198]?).map (fun m => m.2.2.1) = some 2 := by decide +kernel
theorem zrt_198 : (z_meth[198]?).map (fun m => m.2.2.2.1) = some (some .boolean) := by decide +kernel
theorem zfe_198_0 : zfetch 198 0 = some (.iload_n 1, 1) := by decide +kernel
theorem zfe_198_1 : zfetch 198 1 = some (.ifCond .lt 15, 3) := by decide +kernel
theorem zfe_198_4 : zfetch 198 4 = some (.iload_n 1, 1) := by decide +kernel
theorem zfe_198_5 : zfetch 198 5 = some (.aload_n 0, 1) := by decide +kernel
theorem zfe_198_6 : zfetch 198 6 = some (.getfield 424, 3) := by decide +kernel
theorem zfe_198_9 : zfetch 198 9 = some (.if_icmp .ge 7, 3) := by decide +kernel
theorem zfe_198_12 : zfetch 198 12 = some (.iconst 1, 1) := by decide +kernel
theorem zfe_198_13 : zfetch 198 13 = some (.goto 4, 3) := by decide +kernel
theorem zfe_198_16 : zfetch 198 16 = some (.iconst 0, 1) := by decide +kernel
theorem zfe_198_17 : zfetch 198 17 = some (.ireturn, 1) := by decide +kernel
theorem zlk_198_424 : zlink 198 424 = some (0, 12, 53) := by decide +kernel
-- 227: PactLedgerModel.storage(I)I
theorem znl_227 : (z_meth[227]?).map (fun m => m.2.2.1) = some 3 := by decide +kernel
theorem zrt_227 : (z_meth[227]?).map (fun m => m.2.2.2.1) = some (some .int) := by decide +kernel
theorem zfe_227_0 : zfetch 227 0 = some (.aload_n 0, 1) := by decide +kernel
theorem zfe_227_1 : zfetch 227 1 = some (.iload_n 1, 1) := by decide +kernel
theorem zfe_227_2 : zfetch 227 2 = some (.invokevirtual 433, 3) := by decide +kernel
theorem zfe_227_5 : zfetch 227 5 = some (.ifCond .ne 10, 3) := by decide +kernel
theorem zfe_227_8 : zfetch 227 8 = some (.aload_n 0, 1) := by decide +kernel
theorem zfe_227_9 : zfetch 227 9 = some (.iconst 1, 1) := by decide +kernel
theorem zfe_227_10 : zfetch 227 10 = some (.iconst 0, 1) := by decide +kernel
theorem zfe_227_11 : zfetch 227 11 = some (.invokevirtual 427, 3) := by decide +kernel
theorem zfe_227_14 : zfetch 227 14 = some (.ireturn, 1) := by decide +kernel
theorem zfe_227_15 : zfetch 227 15 = some (.aload_n 0, 1) := by decide +kernel
theorem zfe_227_16 : zfetch 227 16 = some (.getfield 16, 3) := by decide +kernel
theorem zfe_227_19 : zfetch 227 19 = some (.istore_n 2, 1) := by decide +kernel
theorem zfe_227_20 : zfetch 227 20 = some (.aload_n 0, 1) := by decide +kernel
theorem zfe_227_21 : zfetch 227 21 = some (.iload_n 1, 1) := by decide +kernel
theorem zfe_227_22 : zfetch 227 22 = some (.invokevirtual 436, 3) := by decide +kernel
theorem zfe_227_25 : zfetch 227 25 = some (.aload_n 0, 1) := by decide +kernel
theorem zfe_227_26 : zfetch 227 26 = some (.aload_n 0, 1) := by decide +kernel
theorem zfe_227_27 : zfetch 227 27 = some (.iload_n 1, 1) := by decide +kernel
theorem zfe_227_28 : zfetch 227 28 = some (.invokevirtual 439, 3) := by decide +kernel
theorem zfe_227_31 : zfetch 227 31 = some (.bipush 100, 2) := by decide +kernel
theorem zfe_227_33 : zfetch 227 33 = some (.iconst 0, 1) := by decide +kernel
theorem zfe_227_34 : zfetch 227 34 = some (.invokevirtual 384, 3) := by decide +kernel
theorem zfe_227_37 : zfetch 227 37 = some (.pop, 1) := by decide +kernel
theorem zfe_227_38 : zfetch 227 38 = some (.aload_n 0, 1) := by decide +kernel
theorem zfe_227_39 : zfetch 227 39 = some (.iload_n 2, 1) := by decide +kernel
theorem zfe_227_40 : zfetch 227 40 = some (.putfield 16, 3) := by decide +kernel
theorem zfe_227_43 : zfetch 227 43 = some (.aload_n 0, 1) := by decide +kernel
theorem zfe_227_44 : zfetch 227 44 = some (.iconst 0, 1) := by decide +kernel
theorem zfe_227_45 : zfetch 227 45 = some (.aload_n 0, 1) := by decide +kernel
theorem zfe_227_46 : zfetch 227 46 = some (.getfield 231, 3) := by decide +kernel
theorem zfe_227_49 : zfetch 227 49 = some (.invokevirtual 427, 3) := by decide +kernel
theorem zfe_227_52 : zfetch 227 52 = some (.ireturn, 1) := by decide +kernel
theorem zlk_227_16 : zlink 227 16 = some (0, 12, 5) := by decide +kernel
theorem zlk_227_231 : zlink 227 231 = some (0, 12, 4) := by decide +kernel
theorem zlk_227_384 : zlink 227 384 = some (7, 208, 3) := by decide +kernel
theorem zlk_227_427 : zlink 227 427 = some (7, 156, 2) := by decide +kernel
theorem zlk_227_433 : zlink 227 433 = some (7, 198, 1) := by decide +kernel
theorem zlk_227_436 : zlink 227 436 = some (7, 199, 1) := by decide +kernel
theorem zlk_227_439 : zlink 227 439 = some (7, 200, 1) := by decide +kernel
-- 228: PactLedgerModel.find(I)I
theorem znl_228 : (z_meth[228]?).map (fun m => m.2.2.1) = some 5 := by decide +kernel
theorem zrt_228 : (z_meth[228]?).map (fun m => m.2.2.2.1) = some (some .int) := by decide +kernel
theorem zfe_228_0 : zfetch 228 0 = some (.aload_n 0, 1) := by decide +kernel
theorem zfe_228_1 : zfetch 228 1 = some (.getfield 419, 3) := by decide +kernel
theorem zfe_228_4 : zfetch 228 4 = some (.istore_n 2, 1) := by decide +kernel
theorem zfe_228_5 : zfetch 228 5 = some (.aload_n 0, 1) := by decide +kernel
theorem zfe_228_6 : zfetch 228 6 = some (.iconst 0, 1) := by decide +kernel
theorem zfe_228_7 : zfetch 228 7 = some (.putfield 419, 3) := by decide +kernel
theorem zfe_228_10 : zfetch 228 10 = some (.aload_n 0, 1) := by decide +kernel
theorem zfe_228_11 : zfetch 228 11 = some (.iload_n 1, 1) := by decide +kernel
theorem zfe_228_12 : zfetch 228 12 = some (.invokevirtual 433, 3) := by decide +kernel
theorem zfe_228_15 : zfetch 228 15 = some (.ifCond .eq 17, 3) := by decide +kernel
theorem zfe_228_18 : zfetch 228 18 = some (.aload_n 0, 1) := by decide +kernel
theorem zfe_228_19 : zfetch 228 19 = some (.getfield 138, 3) := by decide +kernel
theorem zfe_228_22 : zfetch 228 22 = some (.bipush 6, 2) := by decide +kernel
theorem zfe_228_24 : zfetch 228 24 = some (.iload_n 1, 1) := by decide +kernel
theorem zfe_228_25 : zfetch 228 25 = some (.imul, 1) := by decide +kernel
theorem zfe_228_26 : zfetch 228 26 = some (.iconst 4, 1) := by decide +kernel
theorem zfe_228_27 : zfetch 228 27 = some (.iadd, 1) := by decide +kernel
theorem zfe_228_28 : zfetch 228 28 = some (.iaload, 1) := by decide +kernel
theorem zfe_228_29 : zfetch 228 29 = some (.ifCond .ge 10, 3) := by decide +kernel
theorem zfe_228_32 : zfetch 228 32 = some (.aload_n 0, 1) := by decide +kernel
theorem zfe_228_33 : zfetch 228 33 = some (.iconst 1, 1) := by decide +kernel
theorem zfe_228_34 : zfetch 228 34 = some (.iconst 0, 1) := by decide +kernel
theorem zfe_228_35 : zfetch 228 35 = some (.invokevirtual 427, 3) := by decide +kernel
theorem zfe_228_38 : zfetch 228 38 = some (.ireturn, 1) := by decide +kernel
theorem zfe_228_39 : zfetch 228 39 = some (.aload_n 0, 1) := by decide +kernel
theorem zfe_228_40 : zfetch 228 40 = some (.iload_n 1, 1) := by decide +kernel
theorem zfe_228_41 : zfetch 228 41 = some (.invokevirtual 436, 3) := by decide +kernel
theorem zfe_228_44 : zfetch 228 44 = some (.aload_n 0, 1) := by decide +kernel
theorem zfe_228_45 : zfetch 228 45 = some (.iconst 0, 1) := by decide +kernel
theorem zfe_228_46 : zfetch 228 46 = some (.iload_n 2, 1) := by decide +kernel
theorem zfe_228_47 : zfetch 228 47 = some (.iconst 1, 1) := by decide +kernel
theorem zfe_228_48 : zfetch 228 48 = some (.invokevirtual 409, 3) := by decide +kernel
theorem zfe_228_51 : zfetch 228 51 = some (.ifCond .eq 25, 3) := by decide +kernel
theorem zfe_228_54 : zfetch 228 54 = some (.aload_n 0, 1) := by decide +kernel
theorem zfe_228_55 : zfetch 228 55 = some (.iconst 0, 1) := by decide +kernel
theorem zfe_228_56 : zfetch 228 56 = some (.aload_n 0, 1) := by decide +kernel
theorem zfe_228_57 : zfetch 228 57 = some (.getfield 60, 3) := by decide +kernel
theorem zfe_228_60 : zfetch 228 60 = some (.aload_n 0, 1) := by decide +kernel
theorem zfe_228_61 : zfetch 228 61 = some (.getfield 60, 3) := by decide +kernel
theorem zfe_228_64 : zfetch 228 64 = some (.aload_n 0, 1) := by decide +kernel
theorem zfe_228_65 : zfetch 228 65 = some (.getfield 335, 3) := by decide +kernel
theorem zfe_228_68 : zfetch 228 68 = some (.iaload, 1) := by decide +kernel
theorem zfe_228_69 : zfetch 228 69 = some (.iaload, 1) := by decide +kernel
theorem zfe_228_70 : zfetch 228 70 = some (.invokevirtual 312, 3) := by decide +kernel
theorem zfe_228_73 : zfetch 228 73 = some (.goto 4, 3) := by decide +kernel
theorem zfe_228_76 : zfetch 228 76 = some (.iconst (-1), 1) := by decide +kernel
theorem zfe_228_77 : zfetch 228 77 = some (.istore_n 3, 1) := by decide +kernel
theorem zfe_228_78 : zfetch 228 78 = some (.iload_n 3, 1) := by decide +kernel
theorem zfe_228_79 : zfetch 228 79 = some (.ifCond .ge 10, 3) := by decide +kernel
theorem zfe_228_82 : zfetch 228 82 = some (.aload_n 0, 1) := by decide +kernel
theorem zfe_228_83 : zfetch 228 83 = some (.iconst 1, 1) := by decide +kernel
theorem zfe_228_84 : zfetch 228 84 = some (.iconst 0, 1) := by decide +kernel
theorem zfe_228_85 : zfetch 228 85 = some (.invokevirtual 427, 3) := by decide +kernel
theorem zfe_228_88 : zfetch 228 88 = some (.ireturn, 1) := by decide +kernel
theorem zfe_228_89 : zfetch 228 89 = some (.aload_n 0, 1) := by decide +kernel
theorem zfe_228_90 : zfetch 228 90 = some (.aload_n 0, 1) := by decide +kernel
theorem zfe_228_91 : zfetch 228 91 = some (.getfield 77, 3) := by decide +kernel
theorem zfe_228_94 : zfetch 228 94 = some (.aload_n 0, 1) := by decide +kernel
theorem zfe_228_95 : zfetch 228 95 = some (.iload_n 1, 1) := by decide +kernel
theorem zfe_228_96 : zfetch 228 96 = some (.invokevirtual 439, 3) := by decide +kernel
theorem zfe_228_99 : zfetch 228 99 = some (.saload, 1) := by decide +kernel
theorem zfe_228_100 : zfetch 228 100 = some (.iload_n 3, 1) := by decide +kernel
theorem zfe_228_101 : zfetch 228 101 = some (.invokevirtual 394, 3) := by decide +kernel
theorem zfe_228_104 : zfetch 228 104 = some (.istore 4, 2) := by decide +kernel
theorem zfe_228_106 : zfetch 228 106 = some (.aload_n 0, 1) := by decide +kernel
theorem zfe_228_107 : zfetch 228 107 = some (.iload 4, 2) := by decide +kernel
theorem zfe_228_109 : zfetch 228 109 = some (.ifCond .ge 14, 3) := by decide +kernel
theorem zfe_228_112 : zfetch 228 112 = some (.aload_n 0, 1) := by decide +kernel
theorem zfe_228_113 : zfetch 228 113 = some (.bipush 6, 2) := by decide +kernel
theorem zfe_228_115 : zfetch 228 115 = some (.iconst 0, 1) := by decide +kernel
theorem zfe_228_116 : zfetch 228 116 = some (.iconst 0, 1) := by decide +kernel
theorem zfe_228_117 : zfetch 228 117 = some (.invokevirtual 189, 3) := by decide +kernel
theorem zfe_228_120 : zfetch 228 120 = some (.goto 12, 3) := by decide +kernel
theorem zfe_228_123 : zfetch 228 123 = some (.aload_n 0, 1) := by decide +kernel
theorem zfe_228_124 : zfetch 228 124 = some (.bipush 7, 2) := by decide +kernel
theorem zfe_228_126 : zfetch 228 126 = some (.iload 4, 2) := by decide +kernel
theorem zfe_228_128 : zfetch 228 128 = some (.iconst 0, 1) := by decide +kernel
theorem zfe_228_129 : zfetch 228 129 = some (.invokevirtual 189, 3) := by decide +kernel
theorem zfe_228_132 : zfetch 228 132 = some (.sipush 300, 3) := by decide +kernel
theorem zfe_228_135 : zfetch 228 135 = some (.iconst 0, 1) := by decide +kernel
theorem zfe_228_136 : zfetch 228 136 = some (.invokevirtual 384, 3) := by decide +kernel
theorem zfe_228_139 : zfetch 228 139 = some (.pop, 1) := by decide +kernel
theorem zfe_228_140 : zfetch 228 140 = some (.aload_n 0, 1) := by decide +kernel
theorem zfe_228_141 : zfetch 228 141 = some (.iconst 0, 1) := by decide +kernel
theorem zfe_228_142 : zfetch 228 142 = some (.aload_n 0, 1) := by decide +kernel
theorem zfe_228_143 : zfetch 228 143 = some (.getfield 231, 3) := by decide +kernel
theorem zfe_228_146 : zfetch 228 146 = some (.invokevirtual 427, 3) := by decide +kernel
theorem zfe_228_149 : zfetch 228 149 = some (.ireturn, 1) := by decide +kernel
theorem zlk_228_60 : zlink 228 60 = some (0, 12, 23) := by decide +kernel
theorem zlk_228_77 : zlink 228 77 = some (0, 12, 31) := by decide +kernel
theorem zlk_228_138 : zlink 228 138 = some (0, 12, 63) := by decide +kernel
theorem zlk_228_189 : zlink 228 189 = some (7, 187, 3) := by decide +kernel
theorem zlk_228_231 : zlink 228 231 = some (0, 12, 4) := by decide +kernel
theorem zlk_228_312 : zlink 228 312 = some (7, 182, 2) := by decide +kernel
theorem zlk_228_335 : zlink 228 335 = some (0, 12, 56) := by decide +kernel
theorem zlk_228_384 : zlink 228 384 = some (7, 208, 3) := by decide +kernel
theorem zlk_228_394 : zlink 228 394 = some (7, 215, 2) := by decide +kernel
theorem zlk_228_409 : zlink 228 409 = some (7, 157, 3) := by decide +kernel
theorem zlk_228_419 : zlink 228 419 = some (0, 12, 3) := by decide +kernel
theorem zlk_228_427 : zlink 228 427 = some (7, 156, 2) := by decide +kernel
theorem zlk_228_433 : zlink 228 433 = some (7, 198, 1) := by decide +kernel
theorem zlk_228_436 : zlink 228 436 = some (7, 199, 1) := by decide +kernel
theorem zlk_228_439 : zlink 228 439 = some (7, 200, 1) := by decide +kernel
-- 229: PactLedgerModel.octet(I)I
theorem znl_229 : (z_meth[229]?).map (fun m => m.2.2.1) = some 2 := by decide +kernel
theorem zrt_229 : (z_meth[229]?).map (fun m => m.2.2.2.1) = some (some .int) := by decide +kernel
theorem zfe_229_0 : zfetch 229 0 = some (.aload_n 0, 1) := by decide +kernel
theorem zfe_229_1 : zfetch 229 1 = some (.iconst 0, 1) := by decide +kernel
theorem zfe_229_2 : zfetch 229 2 = some (.iload_n 1, 1) := by decide +kernel
theorem zfe_229_3 : zfetch 229 3 = some (.ifCond .lt 20, 3) := by decide +kernel
theorem zfe_229_6 : zfetch 229 6 = some (.iload_n 1, 1) := by decide +kernel
theorem zfe_229_7 : zfetch 229 7 = some (.aload_n 0, 1) := by decide +kernel
theorem zfe_229_8 : zfetch 229 8 = some (.getfield 231, 3) := by decide +kernel
theorem zfe_229_11 : zfetch 229 11 = some (.if_icmp .ge 12, 3) := by decide +kernel
theorem zfe_229_14 : zfetch 229 14 = some (.aload_n 0, 1) := by decide +kernel
theorem zfe_229_15 : zfetch 229 15 = some (.getfield 13, 3) := by decide +kernel
theorem zfe_229_18 : zfetch 229 18 = some (.iload_n 1, 1) := by decide +kernel
theorem zfe_229_19 : zfetch 229 19 = some (.iaload, 1) := by decide +kernel
theorem zfe_229_20 : zfetch 229 20 = some (.goto 4, 3) := by decide +kernel
theorem zfe_229_23 : zfetch 229 23 = some (.iconst (-1), 1) := by decide +kernel
theorem zfe_229_24 : zfetch 229 24 = some (.invokevirtual 427, 3) := by decide +kernel
theorem zfe_229_27 : zfetch 229 27 = some (.ireturn, 1) := by decide +kernel
theorem zlk_229_13 : zlink 229 13 = some (0, 12, 2) := by decide +kernel
theorem zlk_229_231 : zlink 229 231 = some (0, 12, 4) := by decide +kernel
theorem zlk_229_427 : zlink 229 427 = some (7, 156, 2) := by decide +kernel
-- 230: PactLedgerModel.about(II)I
theorem znl_230 : (z_meth[230]?).map (fun m => m.2.2.1) = some 3 := by decide +kernel
theorem zrt_230 : (z_meth[230]?).map (fun m => m.2.2.2.1) = some (some .int) := by decide +kernel
theorem zfe_230_0 : zfetch 230 0 = some (.aload_n 0, 1) := by decide +kernel
theorem zfe_230_1 : zfetch 230 1 = some (.iconst 0, 1) := by decide +kernel
theorem zfe_230_2 : zfetch 230 2 = some (.aload_n 0, 1) := by decide +kernel
theorem zfe_230_3 : zfetch 230 3 = some (.iload_n 1, 1) := by decide +kernel
theorem zfe_230_4 : zfetch 230 4 = some (.invokevirtual 433, 3) := by decide +kernel
theorem zfe_230_7 : zfetch 230 7 = some (.ifCond .eq 26, 3) := by decide +kernel
theorem zfe_230_10 : zfetch 230 10 = some (.iload_n 2, 1) := by decide +kernel
theorem zfe_230_11 : zfetch 230 11 = some (.ifCond .lt 22, 3) := by decide +kernel
theorem zfe_230_14 : zfetch 230 14 = some (.iload_n 2, 1) := by decide +kernel
theorem zfe_230_15 : zfetch 230 15 = some (.iconst 5, 1) := by decide +kernel
theorem zfe_230_16 : zfetch 230 16 = some (.if_icmp .gt 17, 3) := by decide +kernel
theorem zfe_230_19 : zfetch 230 19 = some (.aload_n 0, 1) := by decide +kernel
theorem zfe_230_20 : zfetch 230 20 = some (.getfield 138, 3) := by decide +kernel
theorem zfe_230_23 : zfetch 230 23 = some (.bipush 6, 2) := by decide +kernel
theorem zfe_230_25 : zfetch 230 25 = some (.iload_n 1, 1) := by decide +kernel
theorem zfe_230_26 : zfetch 230 26 = some (.imul, 1) := by decide +kernel
theorem zfe_230_27 : zfetch 230 27 = some (.iload_n 2, 1) := by decide +kernel
theorem zfe_230_28 : zfetch 230 28 = some (.iadd, 1) := by decide +kernel
theorem zfe_230_29 : zfetch 230 29 = some (.iaload, 1) := by decide +kernel
theorem zfe_230_30 : zfetch 230 30 = some (.goto 4, 3) := by decide +kernel
theorem zfe_230_33 : zfetch 230 33 = some (.iconst (-1), 1) := by decide +kernel
theorem zfe_230_34 : zfetch 230 34 = some (.invokevirtual 427, 3) := by decide +kernel
theorem zfe_230_37 : zfetch 230 37 = some (.ireturn, 1) := by decide +kernel
theorem zlk_230_138 : zlink 230 138 = some (0, 12, 63) := by decide +kernel
theorem zlk_230_427 : zlink 230 427 = some (7, 156, 2) := by decide +kernel
theorem zlk_230_433 : zlink 230 433 = some (7, 198, 1) := by decide +kernel
-- 231: PactLedgerModel.count(I)I
theorem znl_231 : (z_meth[231]?).map (fun m => m.2.2.1) = some 2 := by decide +kernel
theorem zrt_231 : (z_meth[231]?).map (fun m => m.2.2.2.1) = some (some .int) := by decide +kernel
theorem zfe_231_0 : zfetch 231 0 = some (.aload_n 0, 1) := by decide +kernel
theorem zfe_231_1 : zfetch 231 1 = some (.iconst 0, 1) := by decide +kernel
theorem zfe_231_2 : zfetch 231 2 = some (.iload_n 1, 1) := by decide +kernel
theorem zfe_231_3 : zfetch 231 3 = some (.ifCond .ne 10, 3) := by decide +kernel
theorem zfe_231_6 : zfetch 231 6 = some (.aload_n 0, 1) := by decide +kernel
theorem zfe_231_7 : zfetch 231 7 = some (.getfield 424, 3) := by decide +kernel
theorem zfe_231_10 : zfetch 231 10 = some (.goto 28, 3) := by decide +kernel
theorem zfe_231_13 : zfetch 231 13 = some (.iload_n 1, 1) := by decide +kernel
theorem zfe_231_14 : zfetch 231 14 = some (.iconst 1, 1) := by decide +kernel
theorem zfe_231_15 : zfetch 231 15 = some (.if_icmp .ne 10, 3) := by decide +kernel
theorem zfe_231_18 : zfetch 231 18 = some (.aload_n 0, 1) := by decide +kernel
theorem zfe_231_19 : zfetch 231 19 = some (.getfield 419, 3) := by decide +kernel
theorem zfe_231_22 : zfetch 231 22 = some (.goto 16, 3) := by decide +kernel
theorem zfe_231_25 : zfetch 231 25 = some (.iload_n 1, 1) := by decide +kernel
theorem zfe_231_26 : zfetch 231 26 = some (.iconst 2, 1) := by decide +kernel
theorem zfe_231_27 : zfetch 231 27 = some (.if_icmp .ne 10, 3) := by decide +kernel
theorem zfe_231_30 : zfetch 231 30 = some (.aload_n 0, 1) := by decide +kernel
theorem zfe_231_31 : zfetch 231 31 = some (.getfield 231, 3) := by decide +kernel
theorem zfe_231_34 : zfetch 231 34 = some (.goto 4, 3) := by decide +kernel
theorem zfe_231_37 : zfetch 231 37 = some (.iconst (-1), 1) := by decide +kernel
theorem zfe_231_38 : zfetch 231 38 = some (.invokevirtual 427, 3) := by decide +kernel
theorem zfe_231_41 : zfetch 231 41 = some (.ireturn, 1) := by decide +kernel
theorem zlk_231_231 : zlink 231 231 = some (0, 12, 4) := by decide +kernel
theorem zlk_231_419 : zlink 231 419 = some (0, 12, 3) := by decide +kernel
theorem zlk_231_424 : zlink 231 424 = some (0, 12, 53) := by decide +kernel
theorem zlk_231_427 : zlink 231 427 = some (7, 156, 2) := by decide +kernel
theorem znl_9 : (z_meth[9]?).map (fun m => m.2.2.1) = some 1 := by decide +kernel
theorem znl_11 : (z_meth[11]?).map (fun m => m.2.2.1) = some 1 := by decide +kernel
theorem znl_12 : (z_meth[12]?).map (fun m => m.2.2.1) = some 1 := by decide +kernel
theorem znl_13 : (z_meth[13]?).map (fun m => m.2.2.1) = some 3 := by decide +kernel
theorem znl_28 : (z_meth[28]?).map (fun m => m.2.2.1) = some 10 := by decide +kernel
theorem znl_36 : (z_meth[36]?).map (fun m => m.2.2.1) = some 6 := by decide +kernel
theorem znl_37 : (z_meth[37]?).map (fun m => m.2.2.1) = some 3 := by decide +kernel
theorem znl_38 : (z_meth[38]?).map (fun m => m.2.2.1) = some 6 := by decide +kernel
theorem znl_40 : (z_meth[40]?).map (fun m => m.2.2.1) = some 3 := by decide +kernel
theorem znl_42 : (z_meth[42]?).map (fun m => m.2.2.1) = some 4 := by decide +kernel
theorem znl_43 : (z_meth[43]?).map (fun m => m.2.2.1) = some 3 := by decide +kernel
theorem znl_44 : (z_meth[44]?).map (fun m => m.2.2.1) = some 0 := by decide +kernel
theorem znl_45 : (z_meth[45]?).map (fun m => m.2.2.1) = some 2 := by decide +kernel
theorem znl_46 : (z_meth[46]?).map (fun m => m.2.2.1) = some 2 := by decide +kernel
theorem znl_47 : (z_meth[47]?).map (fun m => m.2.2.1) = some 6 := by decide +kernel
theorem znl_49 : (z_meth[49]?).map (fun m => m.2.2.1) = some 3 := by decide +kernel
theorem znl_51 : (z_meth[51]?).map (fun m => m.2.2.1) = some 1 := by decide +kernel
theorem znl_52 : (z_meth[52]?).map (fun m => m.2.2.1) = some 2 := by decide +kernel
theorem znl_53 : (z_meth[53]?).map (fun m => m.2.2.1) = some 1 := by decide +kernel
theorem znl_56 : (z_meth[56]?).map (fun m => m.2.2.1) = some 9 := by decide +kernel
theorem znl_57 : (z_meth[57]?).map (fun m => m.2.2.1) = some 1 := by decide +kernel
theorem znl_72 : (z_meth[72]?).map (fun m => m.2.2.1) = some 4 := by decide +kernel
theorem znl_76 : (z_meth[76]?).map (fun m => m.2.2.1) = some 3 := by decide +kernel
theorem znl_81 : (z_meth[81]?).map (fun m => m.2.2.1) = some 1 := by decide +kernel
theorem znl_92 : (z_meth[92]?).map (fun m => m.2.2.1) = some 5 := by decide +kernel
theorem znl_96 : (z_meth[96]?).map (fun m => m.2.2.1) = some 4 := by decide +kernel
theorem znl_97 : (z_meth[97]?).map (fun m => m.2.2.1) = some 4 := by decide +kernel
theorem znl_98 : (z_meth[98]?).map (fun m => m.2.2.1) = some 2 := by decide +kernel
theorem znl_99 : (z_meth[99]?).map (fun m => m.2.2.1) = some 3 := by decide +kernel
theorem znl_103 : (z_meth[103]?).map (fun m => m.2.2.1) = some 2 := by decide +kernel
theorem znl_113 : (z_meth[113]?).map (fun m => m.2.2.1) = some 2 := by decide +kernel
theorem znl_138 : (z_meth[138]?).map (fun m => m.2.2.1) = some 3 := by decide +kernel
theorem znl_148 : (z_meth[148]?).map (fun m => m.2.2.1) = some 1 := by decide +kernel
theorem znl_151 : (z_meth[151]?).map (fun m => m.2.2.1) = some 1 := by decide +kernel
theorem znl_159 : (z_meth[159]?).map (fun m => m.2.2.1) = some 7 := by decide +kernel
theorem znl_161 : (z_meth[161]?).map (fun m => m.2.2.1) = some 1 := by decide +kernel
theorem znl_167 : (z_meth[167]?).map (fun m => m.2.2.1) = some 10 := by decide +kernel
theorem znl_168 : (z_meth[168]?).map (fun m => m.2.2.1) = some 2 := by decide +kernel
theorem znl_173 : (z_meth[173]?).map (fun m => m.2.2.1) = some 2 := by decide +kernel
theorem znl_182 : (z_meth[182]?).map (fun m => m.2.2.1) = some 9 := by decide +kernel
theorem znl_187 : (z_meth[187]?).map (fun m => m.2.2.1) = some 4 := by decide +kernel
theorem znl_195 : (z_meth[195]?).map (fun m => m.2.2.1) = some 1 := by decide +kernel
theorem znl_199 : (z_meth[199]?).map (fun m => m.2.2.1) = some 2 := by decide +kernel
theorem znl_200 : (z_meth[200]?).map (fun m => m.2.2.1) = some 2 := by decide +kernel
theorem znl_201 : (z_meth[201]?).map (fun m => m.2.2.1) = some 9 := by decide +kernel
theorem znl_208 : (z_meth[208]?).map (fun m => m.2.2.1) = some 12 := by decide +kernel
theorem znl_215 : (z_meth[215]?).map (fun m => m.2.2.1) = some 5 := by decide +kernel
theorem znl_226 : (z_meth[226]?).map (fun m => m.2.2.1) = some 4 := by decide +kernel
