/-! Decode rows of the law's entry. Written by wip/gen/law.py. -/
theorem d_law_0 : decode code 0 = .ok (.new 8, 3) := by decide +kernel
theorem d_law_3 : decode code 3 = .ok (.dup, 1) := by decide +kernel
theorem d_law_4 : decode code 4 = .ok (.invokespecial 63, 3) := by decide +kernel
theorem d_law_7 : decode code 7 = .ok (.astore_n 1, 1) := by decide +kernel
theorem d_law_8 : decode code 8 = .ok (.new 64, 3) := by decide +kernel
theorem d_law_11 : decode code 11 = .ok (.dup, 1) := by decide +kernel
theorem d_law_12 : decode code 12 = .ok (.invokespecial 66, 3) := by decide +kernel
theorem d_law_15 : decode code 15 = .ok (.astore_n 2, 1) := by decide +kernel
theorem d_law_16 : decode code 16 = .ok (.iconst 1, 1) := by decide +kernel
theorem d_law_17 : decode code 17 = .ok (.newarray .long, 2) := by decide +kernel
theorem d_law_19 : decode code 19 = .ok (.astore_n 3, 1) := by decide +kernel
theorem d_law_20 : decode code 20 = .ok (.iconst 0, 1) := by decide +kernel
theorem d_law_21 : decode code 21 = .ok (.istore 4, 2) := by decide +kernel
theorem d_law_23 : decode code 23 = .ok (.iload 4, 2) := by decide +kernel
theorem d_law_25 : decode code 25 = .ok (.aload_n 0, 1) := by decide +kernel
theorem d_law_26 : decode code 26 = .ok (.arraylength, 1) := by decide +kernel
theorem d_law_27 : decode code 27 = .ok (.bipush 6, 2) := by decide +kernel
theorem d_law_29 : decode code 29 = .ok (.isub, 1) := by decide +kernel
theorem d_law_30 : decode code 30 = .ok (.if_icmp .gt 1235, 3) := by decide +kernel
theorem d_law_33 : decode code 33 = .ok (.aload_n 0, 1) := by decide +kernel
theorem d_law_34 : decode code 34 = .ok (.iload 4, 2) := by decide +kernel
theorem d_law_36 : decode code 36 = .ok (.iaload, 1) := by decide +kernel
theorem d_law_37 : decode code 37 = .ok (.bipush 15, 2) := by decide +kernel
theorem d_law_39 : decode code 39 = .ok (.iand, 1) := by decide +kernel
theorem d_law_40 : decode code 40 = .ok (.tableswitch 1219 0 14 #[76, 204, 323, 430, 554, 646, 709, 753, 778, 822, 922, 990, 1058, 1126, 1194], 76) := by decide +kernel
theorem d_law_116 : decode code 116 = .ok (.aload_n 1, 1) := by decide +kernel
theorem d_law_117 : decode code 117 = .ok (.aload_n 0, 1) := by decide +kernel
theorem d_law_118 : decode code 118 = .ok (.iload 4, 2) := by decide +kernel
theorem d_law_120 : decode code 120 = .ok (.iconst 1, 1) := by decide +kernel
theorem d_law_121 : decode code 121 = .ok (.iadd, 1) := by decide +kernel
theorem d_law_122 : decode code 122 = .ok (.iaload, 1) := by decide +kernel
theorem d_law_123 : decode code 123 = .ok (.aload_n 0, 1) := by decide +kernel
theorem d_law_124 : decode code 124 = .ok (.iload 4, 2) := by decide +kernel
theorem d_law_126 : decode code 126 = .ok (.iconst 2, 1) := by decide +kernel
theorem d_law_127 : decode code 127 = .ok (.iadd, 1) := by decide +kernel
theorem d_law_128 : decode code 128 = .ok (.iaload, 1) := by decide +kernel
theorem d_law_129 : decode code 129 = .ok (.i2l, 1) := by decide +kernel
theorem d_law_130 : decode code 130 = .ok (.bipush 32, 2) := by decide +kernel
theorem d_law_132 : decode code 132 = .ok (.lshl, 1) := by decide +kernel
theorem d_law_133 : decode code 133 = .ok (.aload_n 0, 1) := by decide +kernel
theorem d_law_134 : decode code 134 = .ok (.iload 4, 2) := by decide +kernel
theorem d_law_136 : decode code 136 = .ok (.iconst 3, 1) := by decide +kernel
theorem d_law_137 : decode code 137 = .ok (.iadd, 1) := by decide +kernel
theorem d_law_138 : decode code 138 = .ok (.iaload, 1) := by decide +kernel
theorem d_law_139 : decode code 139 = .ok (.i2l, 1) := by decide +kernel
theorem d_law_140 : decode code 140 = .ok (.ldc2_w 67, 3) := by decide +kernel
theorem d_law_143 : decode code 143 = .ok (.land, 1) := by decide +kernel
theorem d_law_144 : decode code 144 = .ok (.lor, 1) := by decide +kernel
theorem d_law_145 : decode code 145 = .ok (.aload_n 0, 1) := by decide +kernel
theorem d_law_146 : decode code 146 = .ok (.iload 4, 2) := by decide +kernel
theorem d_law_148 : decode code 148 = .ok (.iconst 4, 1) := by decide +kernel
theorem d_law_149 : decode code 149 = .ok (.iadd, 1) := by decide +kernel
theorem d_law_150 : decode code 150 = .ok (.iaload, 1) := by decide +kernel
theorem d_law_151 : decode code 151 = .ok (.ifCond .eq 7, 3) := by decide +kernel
theorem d_law_154 : decode code 154 = .ok (.iconst 1, 1) := by decide +kernel
theorem d_law_155 : decode code 155 = .ok (.goto 4, 3) := by decide +kernel
theorem d_law_158 : decode code 158 = .ok (.iconst 0, 1) := by decide +kernel
theorem d_law_159 : decode code 159 = .ok (.aload_n 3, 1) := by decide +kernel
theorem d_law_160 : decode code 160 = .ok (.invokestatic 69, 3) := by decide +kernel
theorem d_law_163 : decode code 163 = .ok (.istore 5, 2) := by decide +kernel
theorem d_law_165 : decode code 165 = .ok (.aload_n 2, 1) := by decide +kernel
theorem d_law_166 : decode code 166 = .ok (.aload_n 0, 1) := by decide +kernel
theorem d_law_167 : decode code 167 = .ok (.iload 4, 2) := by decide +kernel
theorem d_law_169 : decode code 169 = .ok (.iconst 1, 1) := by decide +kernel
theorem d_law_170 : decode code 170 = .ok (.iadd, 1) := by decide +kernel
theorem d_law_171 : decode code 171 = .ok (.iaload, 1) := by decide +kernel
theorem d_law_172 : decode code 172 = .ok (.aload_n 0, 1) := by decide +kernel
theorem d_law_173 : decode code 173 = .ok (.iload 4, 2) := by decide +kernel
theorem d_law_175 : decode code 175 = .ok (.iconst 2, 1) := by decide +kernel
theorem d_law_176 : decode code 176 = .ok (.iadd, 1) := by decide +kernel
theorem d_law_177 : decode code 177 = .ok (.iaload, 1) := by decide +kernel
theorem d_law_178 : decode code 178 = .ok (.i2l, 1) := by decide +kernel
theorem d_law_179 : decode code 179 = .ok (.bipush 32, 2) := by decide +kernel
theorem d_law_181 : decode code 181 = .ok (.lshl, 1) := by decide +kernel
theorem d_law_182 : decode code 182 = .ok (.aload_n 0, 1) := by decide +kernel
theorem d_law_183 : decode code 183 = .ok (.iload 4, 2) := by decide +kernel
theorem d_law_185 : decode code 185 = .ok (.iconst 3, 1) := by decide +kernel
theorem d_law_186 : decode code 186 = .ok (.iadd, 1) := by decide +kernel
theorem d_law_187 : decode code 187 = .ok (.iaload, 1) := by decide +kernel
theorem d_law_188 : decode code 188 = .ok (.i2l, 1) := by decide +kernel
theorem d_law_189 : decode code 189 = .ok (.ldc2_w 67, 3) := by decide +kernel
theorem d_law_192 : decode code 192 = .ok (.land, 1) := by decide +kernel
theorem d_law_193 : decode code 193 = .ok (.lor, 1) := by decide +kernel
theorem d_law_194 : decode code 194 = .ok (.aload_n 0, 1) := by decide +kernel
theorem d_law_195 : decode code 195 = .ok (.iload 4, 2) := by decide +kernel
theorem d_law_197 : decode code 197 = .ok (.iconst 4, 1) := by decide +kernel
theorem d_law_198 : decode code 198 = .ok (.iadd, 1) := by decide +kernel
theorem d_law_199 : decode code 199 = .ok (.iaload, 1) := by decide +kernel
theorem d_law_200 : decode code 200 = .ok (.ifCond .eq 7, 3) := by decide +kernel
theorem d_law_203 : decode code 203 = .ok (.iconst 1, 1) := by decide +kernel
theorem d_law_204 : decode code 204 = .ok (.goto 4, 3) := by decide +kernel
theorem d_law_207 : decode code 207 = .ok (.iconst 0, 1) := by decide +kernel
theorem d_law_208 : decode code 208 = .ok (.invokevirtual 74, 3) := by decide +kernel
theorem d_law_211 : decode code 211 = .ok (.istore 6, 2) := by decide +kernel
theorem d_law_213 : decode code 213 = .ok (.aload_n 2, 1) := by decide +kernel
theorem d_law_214 : decode code 214 = .ok (.invokevirtual 75, 3) := by decide +kernel
theorem d_law_217 : decode code 217 = .ok (.iload 5, 2) := by decide +kernel
theorem d_law_219 : decode code 219 = .ok (.if_icmp .eq 5, 3) := by decide +kernel
theorem d_law_222 : decode code 222 = .ok (.iconst 0, 1) := by decide +kernel
theorem d_law_223 : decode code 223 = .ok (.ireturn, 1) := by decide +kernel
theorem d_law_224 : decode code 224 = .ok (.iload 5, 2) := by decide +kernel
theorem d_law_226 : decode code 226 = .ok (.ifCond .ne 15, 3) := by decide +kernel
theorem d_law_229 : decode code 229 = .ok (.aload_n 3, 1) := by decide +kernel
theorem d_law_230 : decode code 230 = .ok (.iconst 0, 1) := by decide +kernel
theorem d_law_231 : decode code 231 = .ok (.laload, 1) := by decide +kernel
theorem d_law_232 : decode code 232 = .ok (.iload 6, 2) := by decide +kernel
theorem d_law_234 : decode code 234 = .ok (.i2l, 1) := by decide +kernel
theorem d_law_235 : decode code 235 = .ok (.lcmp, 1) := by decide +kernel
theorem d_law_236 : decode code 236 = .ok (.ifCond .eq 5, 3) := by decide +kernel
theorem d_law_239 : decode code 239 = .ok (.iconst 0, 1) := by decide +kernel
theorem d_law_240 : decode code 240 = .ok (.ireturn, 1) := by decide +kernel
theorem d_law_241 : decode code 241 = .ok (.goto 1018, 3) := by decide +kernel
theorem d_law_244 : decode code 244 = .ok (.aload_n 1, 1) := by decide +kernel
theorem d_law_245 : decode code 245 = .ok (.aload_n 0, 1) := by decide +kernel
theorem d_law_246 : decode code 246 = .ok (.iload 4, 2) := by decide +kernel
theorem d_law_248 : decode code 248 = .ok (.iconst 1, 1) := by decide +kernel
theorem d_law_249 : decode code 249 = .ok (.iadd, 1) := by decide +kernel
theorem d_law_250 : decode code 250 = .ok (.iaload, 1) := by decide +kernel
theorem d_law_251 : decode code 251 = .ok (.aload_n 0, 1) := by decide +kernel
theorem d_law_252 : decode code 252 = .ok (.iload 4, 2) := by decide +kernel
theorem d_law_254 : decode code 254 = .ok (.iconst 2, 1) := by decide +kernel
theorem d_law_255 : decode code 255 = .ok (.iadd, 1) := by decide +kernel
theorem d_law_256 : decode code 256 = .ok (.iaload, 1) := by decide +kernel
theorem d_law_257 : decode code 257 = .ok (.i2l, 1) := by decide +kernel
theorem d_law_258 : decode code 258 = .ok (.bipush 32, 2) := by decide +kernel
theorem d_law_260 : decode code 260 = .ok (.lshl, 1) := by decide +kernel
theorem d_law_261 : decode code 261 = .ok (.aload_n 0, 1) := by decide +kernel
theorem d_law_262 : decode code 262 = .ok (.iload 4, 2) := by decide +kernel
theorem d_law_264 : decode code 264 = .ok (.iconst 3, 1) := by decide +kernel
theorem d_law_265 : decode code 265 = .ok (.iadd, 1) := by decide +kernel
theorem d_law_266 : decode code 266 = .ok (.iaload, 1) := by decide +kernel
theorem d_law_267 : decode code 267 = .ok (.i2l, 1) := by decide +kernel
theorem d_law_268 : decode code 268 = .ok (.ldc2_w 67, 3) := by decide +kernel
theorem d_law_271 : decode code 271 = .ok (.land, 1) := by decide +kernel
theorem d_law_272 : decode code 272 = .ok (.lor, 1) := by decide +kernel
theorem d_law_273 : decode code 273 = .ok (.aload_n 0, 1) := by decide +kernel
theorem d_law_274 : decode code 274 = .ok (.iload 4, 2) := by decide +kernel
theorem d_law_276 : decode code 276 = .ok (.iconst 4, 1) := by decide +kernel
theorem d_law_277 : decode code 277 = .ok (.iadd, 1) := by decide +kernel
theorem d_law_278 : decode code 278 = .ok (.iaload, 1) := by decide +kernel
theorem d_law_279 : decode code 279 = .ok (.aload_n 3, 1) := by decide +kernel
theorem d_law_280 : decode code 280 = .ok (.invokestatic 78, 3) := by decide +kernel
theorem d_law_283 : decode code 283 = .ok (.istore 5, 2) := by decide +kernel
theorem d_law_285 : decode code 285 = .ok (.aload_n 2, 1) := by decide +kernel
theorem d_law_286 : decode code 286 = .ok (.aload_n 0, 1) := by decide +kernel
theorem d_law_287 : decode code 287 = .ok (.iload 4, 2) := by decide +kernel
theorem d_law_289 : decode code 289 = .ok (.iconst 1, 1) := by decide +kernel
theorem d_law_290 : decode code 290 = .ok (.iadd, 1) := by decide +kernel
theorem d_law_291 : decode code 291 = .ok (.iaload, 1) := by decide +kernel
theorem d_law_292 : decode code 292 = .ok (.aload_n 0, 1) := by decide +kernel
theorem d_law_293 : decode code 293 = .ok (.iload 4, 2) := by decide +kernel
theorem d_law_295 : decode code 295 = .ok (.iconst 2, 1) := by decide +kernel
theorem d_law_296 : decode code 296 = .ok (.iadd, 1) := by decide +kernel
theorem d_law_297 : decode code 297 = .ok (.iaload, 1) := by decide +kernel
theorem d_law_298 : decode code 298 = .ok (.i2l, 1) := by decide +kernel
theorem d_law_299 : decode code 299 = .ok (.bipush 32, 2) := by decide +kernel
theorem d_law_301 : decode code 301 = .ok (.lshl, 1) := by decide +kernel
theorem d_law_302 : decode code 302 = .ok (.aload_n 0, 1) := by decide +kernel
theorem d_law_303 : decode code 303 = .ok (.iload 4, 2) := by decide +kernel
theorem d_law_305 : decode code 305 = .ok (.iconst 3, 1) := by decide +kernel
theorem d_law_306 : decode code 306 = .ok (.iadd, 1) := by decide +kernel
theorem d_law_307 : decode code 307 = .ok (.iaload, 1) := by decide +kernel
theorem d_law_308 : decode code 308 = .ok (.i2l, 1) := by decide +kernel
theorem d_law_309 : decode code 309 = .ok (.ldc2_w 67, 3) := by decide +kernel
theorem d_law_312 : decode code 312 = .ok (.land, 1) := by decide +kernel
theorem d_law_313 : decode code 313 = .ok (.lor, 1) := by decide +kernel
theorem d_law_314 : decode code 314 = .ok (.aload_n 0, 1) := by decide +kernel
theorem d_law_315 : decode code 315 = .ok (.iload 4, 2) := by decide +kernel
theorem d_law_317 : decode code 317 = .ok (.iconst 4, 1) := by decide +kernel
theorem d_law_318 : decode code 318 = .ok (.iadd, 1) := by decide +kernel
theorem d_law_319 : decode code 319 = .ok (.iaload, 1) := by decide +kernel
theorem d_law_320 : decode code 320 = .ok (.invokevirtual 81, 3) := by decide +kernel
theorem d_law_323 : decode code 323 = .ok (.istore 6, 2) := by decide +kernel
theorem d_law_325 : decode code 325 = .ok (.aload_n 2, 1) := by decide +kernel
theorem d_law_326 : decode code 326 = .ok (.invokevirtual 75, 3) := by decide +kernel
theorem d_law_329 : decode code 329 = .ok (.iload 5, 2) := by decide +kernel
theorem d_law_331 : decode code 331 = .ok (.if_icmp .eq 5, 3) := by decide +kernel
theorem d_law_334 : decode code 334 = .ok (.iconst 0, 1) := by decide +kernel
theorem d_law_335 : decode code 335 = .ok (.ireturn, 1) := by decide +kernel
theorem d_law_336 : decode code 336 = .ok (.iload 5, 2) := by decide +kernel
theorem d_law_338 : decode code 338 = .ok (.ifCond .ne 22, 3) := by decide +kernel
theorem d_law_341 : decode code 341 = .ok (.aload_n 3, 1) := by decide +kernel
theorem d_law_342 : decode code 342 = .ok (.iconst 0, 1) := by decide +kernel
theorem d_law_343 : decode code 343 = .ok (.laload, 1) := by decide +kernel
theorem d_law_344 : decode code 344 = .ok (.iload 6, 2) := by decide +kernel
theorem d_law_346 : decode code 346 = .ok (.ifCond .eq 7, 3) := by decide +kernel
theorem d_law_349 : decode code 349 = .ok (.lconst 1, 1) := by decide +kernel
theorem d_law_350 : decode code 350 = .ok (.goto 4, 3) := by decide +kernel
theorem d_law_353 : decode code 353 = .ok (.lconst 0, 1) := by decide +kernel
theorem d_law_354 : decode code 354 = .ok (.lcmp, 1) := by decide +kernel
theorem d_law_355 : decode code 355 = .ok (.ifCond .eq 5, 3) := by decide +kernel
theorem d_law_358 : decode code 358 = .ok (.iconst 0, 1) := by decide +kernel
theorem d_law_359 : decode code 359 = .ok (.ireturn, 1) := by decide +kernel
theorem d_law_360 : decode code 360 = .ok (.goto 899, 3) := by decide +kernel
theorem d_law_363 : decode code 363 = .ok (.aload_n 1, 1) := by decide +kernel
theorem d_law_364 : decode code 364 = .ok (.aload_n 0, 1) := by decide +kernel
theorem d_law_365 : decode code 365 = .ok (.iload 4, 2) := by decide +kernel
theorem d_law_367 : decode code 367 = .ok (.iconst 1, 1) := by decide +kernel
theorem d_law_368 : decode code 368 = .ok (.iadd, 1) := by decide +kernel
theorem d_law_369 : decode code 369 = .ok (.iaload, 1) := by decide +kernel
theorem d_law_370 : decode code 370 = .ok (.aload_n 0, 1) := by decide +kernel
theorem d_law_371 : decode code 371 = .ok (.iload 4, 2) := by decide +kernel
theorem d_law_373 : decode code 373 = .ok (.iconst 2, 1) := by decide +kernel
theorem d_law_374 : decode code 374 = .ok (.iadd, 1) := by decide +kernel
theorem d_law_375 : decode code 375 = .ok (.iaload, 1) := by decide +kernel
theorem d_law_376 : decode code 376 = .ok (.i2l, 1) := by decide +kernel
theorem d_law_377 : decode code 377 = .ok (.bipush 32, 2) := by decide +kernel
theorem d_law_379 : decode code 379 = .ok (.lshl, 1) := by decide +kernel
theorem d_law_380 : decode code 380 = .ok (.aload_n 0, 1) := by decide +kernel
theorem d_law_381 : decode code 381 = .ok (.iload 4, 2) := by decide +kernel
theorem d_law_383 : decode code 383 = .ok (.iconst 3, 1) := by decide +kernel
theorem d_law_384 : decode code 384 = .ok (.iadd, 1) := by decide +kernel
theorem d_law_385 : decode code 385 = .ok (.iaload, 1) := by decide +kernel
theorem d_law_386 : decode code 386 = .ok (.i2l, 1) := by decide +kernel
theorem d_law_387 : decode code 387 = .ok (.ldc2_w 67, 3) := by decide +kernel
theorem d_law_390 : decode code 390 = .ok (.land, 1) := by decide +kernel
theorem d_law_391 : decode code 391 = .ok (.lor, 1) := by decide +kernel
theorem d_law_392 : decode code 392 = .ok (.aload_n 3, 1) := by decide +kernel
theorem d_law_393 : decode code 393 = .ok (.invokestatic 82, 3) := by decide +kernel
theorem d_law_396 : decode code 396 = .ok (.istore 5, 2) := by decide +kernel
theorem d_law_398 : decode code 398 = .ok (.aload_n 2, 1) := by decide +kernel
theorem d_law_399 : decode code 399 = .ok (.aload_n 0, 1) := by decide +kernel
theorem d_law_400 : decode code 400 = .ok (.iload 4, 2) := by decide +kernel
theorem d_law_402 : decode code 402 = .ok (.iconst 1, 1) := by decide +kernel
theorem d_law_403 : decode code 403 = .ok (.iadd, 1) := by decide +kernel
theorem d_law_404 : decode code 404 = .ok (.iaload, 1) := by decide +kernel
theorem d_law_405 : decode code 405 = .ok (.aload_n 0, 1) := by decide +kernel
theorem d_law_406 : decode code 406 = .ok (.iload 4, 2) := by decide +kernel
theorem d_law_408 : decode code 408 = .ok (.iconst 2, 1) := by decide +kernel
theorem d_law_409 : decode code 409 = .ok (.iadd, 1) := by decide +kernel
theorem d_law_410 : decode code 410 = .ok (.iaload, 1) := by decide +kernel
theorem d_law_411 : decode code 411 = .ok (.i2l, 1) := by decide +kernel
theorem d_law_412 : decode code 412 = .ok (.bipush 32, 2) := by decide +kernel
theorem d_law_414 : decode code 414 = .ok (.lshl, 1) := by decide +kernel
theorem d_law_415 : decode code 415 = .ok (.aload_n 0, 1) := by decide +kernel
theorem d_law_416 : decode code 416 = .ok (.iload 4, 2) := by decide +kernel
theorem d_law_418 : decode code 418 = .ok (.iconst 3, 1) := by decide +kernel
theorem d_law_419 : decode code 419 = .ok (.iadd, 1) := by decide +kernel
theorem d_law_420 : decode code 420 = .ok (.iaload, 1) := by decide +kernel
theorem d_law_421 : decode code 421 = .ok (.i2l, 1) := by decide +kernel
theorem d_law_422 : decode code 422 = .ok (.ldc2_w 67, 3) := by decide +kernel
theorem d_law_425 : decode code 425 = .ok (.land, 1) := by decide +kernel
theorem d_law_426 : decode code 426 = .ok (.lor, 1) := by decide +kernel
theorem d_law_427 : decode code 427 = .ok (.invokevirtual 85, 3) := by decide +kernel
theorem d_law_430 : decode code 430 = .ok (.istore 6, 2) := by decide +kernel
theorem d_law_432 : decode code 432 = .ok (.aload_n 2, 1) := by decide +kernel
theorem d_law_433 : decode code 433 = .ok (.invokevirtual 75, 3) := by decide +kernel
theorem d_law_436 : decode code 436 = .ok (.iload 5, 2) := by decide +kernel
theorem d_law_438 : decode code 438 = .ok (.if_icmp .eq 5, 3) := by decide +kernel
theorem d_law_441 : decode code 441 = .ok (.iconst 0, 1) := by decide +kernel
theorem d_law_442 : decode code 442 = .ok (.ireturn, 1) := by decide +kernel
theorem d_law_443 : decode code 443 = .ok (.iload 5, 2) := by decide +kernel
theorem d_law_445 : decode code 445 = .ok (.ifCond .ne 22, 3) := by decide +kernel
theorem d_law_448 : decode code 448 = .ok (.aload_n 3, 1) := by decide +kernel
theorem d_law_449 : decode code 449 = .ok (.iconst 0, 1) := by decide +kernel
theorem d_law_450 : decode code 450 = .ok (.laload, 1) := by decide +kernel
theorem d_law_451 : decode code 451 = .ok (.iload 6, 2) := by decide +kernel
theorem d_law_453 : decode code 453 = .ok (.ifCond .eq 7, 3) := by decide +kernel
theorem d_law_456 : decode code 456 = .ok (.lconst 1, 1) := by decide +kernel
theorem d_law_457 : decode code 457 = .ok (.goto 4, 3) := by decide +kernel
theorem d_law_460 : decode code 460 = .ok (.lconst 0, 1) := by decide +kernel
theorem d_law_461 : decode code 461 = .ok (.lcmp, 1) := by decide +kernel
theorem d_law_462 : decode code 462 = .ok (.ifCond .eq 5, 3) := by decide +kernel
theorem d_law_465 : decode code 465 = .ok (.iconst 0, 1) := by decide +kernel
theorem d_law_466 : decode code 466 = .ok (.ireturn, 1) := by decide +kernel
theorem d_law_467 : decode code 467 = .ok (.goto 792, 3) := by decide +kernel
theorem d_law_470 : decode code 470 = .ok (.aload_n 1, 1) := by decide +kernel
theorem d_law_471 : decode code 471 = .ok (.aload_n 0, 1) := by decide +kernel
theorem d_law_472 : decode code 472 = .ok (.iload 4, 2) := by decide +kernel
theorem d_law_474 : decode code 474 = .ok (.iconst 1, 1) := by decide +kernel
theorem d_law_475 : decode code 475 = .ok (.iadd, 1) := by decide +kernel
theorem d_law_476 : decode code 476 = .ok (.iaload, 1) := by decide +kernel
theorem d_law_477 : decode code 477 = .ok (.aload_n 0, 1) := by decide +kernel
theorem d_law_478 : decode code 478 = .ok (.iload 4, 2) := by decide +kernel
theorem d_law_480 : decode code 480 = .ok (.iconst 2, 1) := by decide +kernel
theorem d_law_481 : decode code 481 = .ok (.iadd, 1) := by decide +kernel
theorem d_law_482 : decode code 482 = .ok (.iaload, 1) := by decide +kernel
theorem d_law_483 : decode code 483 = .ok (.aload_n 0, 1) := by decide +kernel
theorem d_law_484 : decode code 484 = .ok (.iload 4, 2) := by decide +kernel
theorem d_law_486 : decode code 486 = .ok (.iconst 3, 1) := by decide +kernel
theorem d_law_487 : decode code 487 = .ok (.iadd, 1) := by decide +kernel
theorem d_law_488 : decode code 488 = .ok (.iaload, 1) := by decide +kernel
theorem d_law_489 : decode code 489 = .ok (.i2l, 1) := by decide +kernel
theorem d_law_490 : decode code 490 = .ok (.bipush 32, 2) := by decide +kernel
theorem d_law_492 : decode code 492 = .ok (.lshl, 1) := by decide +kernel
theorem d_law_493 : decode code 493 = .ok (.aload_n 0, 1) := by decide +kernel
theorem d_law_494 : decode code 494 = .ok (.iload 4, 2) := by decide +kernel
theorem d_law_496 : decode code 496 = .ok (.iconst 4, 1) := by decide +kernel
theorem d_law_497 : decode code 497 = .ok (.iadd, 1) := by decide +kernel
theorem d_law_498 : decode code 498 = .ok (.iaload, 1) := by decide +kernel
theorem d_law_499 : decode code 499 = .ok (.i2l, 1) := by decide +kernel
theorem d_law_500 : decode code 500 = .ok (.ldc2_w 67, 3) := by decide +kernel
theorem d_law_503 : decode code 503 = .ok (.land, 1) := by decide +kernel
theorem d_law_504 : decode code 504 = .ok (.lor, 1) := by decide +kernel
theorem d_law_505 : decode code 505 = .ok (.aload_n 0, 1) := by decide +kernel
theorem d_law_506 : decode code 506 = .ok (.iload 4, 2) := by decide +kernel
theorem d_law_508 : decode code 508 = .ok (.iconst 5, 1) := by decide +kernel
theorem d_law_509 : decode code 509 = .ok (.iadd, 1) := by decide +kernel
theorem d_law_510 : decode code 510 = .ok (.iaload, 1) := by decide +kernel
theorem d_law_511 : decode code 511 = .ok (.aload_n 3, 1) := by decide +kernel
theorem d_law_512 : decode code 512 = .ok (.invokestatic 86, 3) := by decide +kernel
theorem d_law_515 : decode code 515 = .ok (.istore 5, 2) := by decide +kernel
theorem d_law_517 : decode code 517 = .ok (.aload_n 2, 1) := by decide +kernel
theorem d_law_518 : decode code 518 = .ok (.aload_n 0, 1) := by decide +kernel
theorem d_law_519 : decode code 519 = .ok (.iload 4, 2) := by decide +kernel
theorem d_law_521 : decode code 521 = .ok (.iconst 1, 1) := by decide +kernel
theorem d_law_522 : decode code 522 = .ok (.iadd, 1) := by decide +kernel
theorem d_law_523 : decode code 523 = .ok (.iaload, 1) := by decide +kernel
theorem d_law_524 : decode code 524 = .ok (.aload_n 0, 1) := by decide +kernel
theorem d_law_525 : decode code 525 = .ok (.iload 4, 2) := by decide +kernel
theorem d_law_527 : decode code 527 = .ok (.iconst 2, 1) := by decide +kernel
theorem d_law_528 : decode code 528 = .ok (.iadd, 1) := by decide +kernel
theorem d_law_529 : decode code 529 = .ok (.iaload, 1) := by decide +kernel
theorem d_law_530 : decode code 530 = .ok (.aload_n 0, 1) := by decide +kernel
theorem d_law_531 : decode code 531 = .ok (.iload 4, 2) := by decide +kernel
theorem d_law_533 : decode code 533 = .ok (.iconst 3, 1) := by decide +kernel
theorem d_law_534 : decode code 534 = .ok (.iadd, 1) := by decide +kernel
theorem d_law_535 : decode code 535 = .ok (.iaload, 1) := by decide +kernel
theorem d_law_536 : decode code 536 = .ok (.i2l, 1) := by decide +kernel
theorem d_law_537 : decode code 537 = .ok (.bipush 32, 2) := by decide +kernel
theorem d_law_539 : decode code 539 = .ok (.lshl, 1) := by decide +kernel
theorem d_law_540 : decode code 540 = .ok (.aload_n 0, 1) := by decide +kernel
theorem d_law_541 : decode code 541 = .ok (.iload 4, 2) := by decide +kernel
theorem d_law_543 : decode code 543 = .ok (.iconst 4, 1) := by decide +kernel
theorem d_law_544 : decode code 544 = .ok (.iadd, 1) := by decide +kernel
theorem d_law_545 : decode code 545 = .ok (.iaload, 1) := by decide +kernel
theorem d_law_546 : decode code 546 = .ok (.i2l, 1) := by decide +kernel
theorem d_law_547 : decode code 547 = .ok (.ldc2_w 67, 3) := by decide +kernel
theorem d_law_550 : decode code 550 = .ok (.land, 1) := by decide +kernel
theorem d_law_551 : decode code 551 = .ok (.lor, 1) := by decide +kernel
theorem d_law_552 : decode code 552 = .ok (.aload_n 0, 1) := by decide +kernel
theorem d_law_553 : decode code 553 = .ok (.iload 4, 2) := by decide +kernel
theorem d_law_555 : decode code 555 = .ok (.iconst 5, 1) := by decide +kernel
theorem d_law_556 : decode code 556 = .ok (.iadd, 1) := by decide +kernel
theorem d_law_557 : decode code 557 = .ok (.iaload, 1) := by decide +kernel
theorem d_law_558 : decode code 558 = .ok (.invokevirtual 89, 3) := by decide +kernel
theorem d_law_561 : decode code 561 = .ok (.istore 6, 2) := by decide +kernel
theorem d_law_563 : decode code 563 = .ok (.aload_n 2, 1) := by decide +kernel
theorem d_law_564 : decode code 564 = .ok (.invokevirtual 75, 3) := by decide +kernel
theorem d_law_567 : decode code 567 = .ok (.iload 5, 2) := by decide +kernel
theorem d_law_569 : decode code 569 = .ok (.if_icmp .eq 5, 3) := by decide +kernel
theorem d_law_572 : decode code 572 = .ok (.iconst 0, 1) := by decide +kernel
theorem d_law_573 : decode code 573 = .ok (.ireturn, 1) := by decide +kernel
theorem d_law_574 : decode code 574 = .ok (.iload 5, 2) := by decide +kernel
theorem d_law_576 : decode code 576 = .ok (.ifCond .ne 15, 3) := by decide +kernel
theorem d_law_579 : decode code 579 = .ok (.aload_n 3, 1) := by decide +kernel
theorem d_law_580 : decode code 580 = .ok (.iconst 0, 1) := by decide +kernel
theorem d_law_581 : decode code 581 = .ok (.laload, 1) := by decide +kernel
theorem d_law_582 : decode code 582 = .ok (.iload 6, 2) := by decide +kernel
theorem d_law_584 : decode code 584 = .ok (.i2l, 1) := by decide +kernel
theorem d_law_585 : decode code 585 = .ok (.lcmp, 1) := by decide +kernel
theorem d_law_586 : decode code 586 = .ok (.ifCond .eq 5, 3) := by decide +kernel
theorem d_law_589 : decode code 589 = .ok (.iconst 0, 1) := by decide +kernel
theorem d_law_590 : decode code 590 = .ok (.ireturn, 1) := by decide +kernel
theorem d_law_591 : decode code 591 = .ok (.goto 668, 3) := by decide +kernel
theorem d_law_594 : decode code 594 = .ok (.aload_n 1, 1) := by decide +kernel
theorem d_law_595 : decode code 595 = .ok (.aload_n 0, 1) := by decide +kernel
theorem d_law_596 : decode code 596 = .ok (.iload 4, 2) := by decide +kernel
theorem d_law_598 : decode code 598 = .ok (.iconst 1, 1) := by decide +kernel
theorem d_law_599 : decode code 599 = .ok (.iadd, 1) := by decide +kernel
theorem d_law_600 : decode code 600 = .ok (.iaload, 1) := by decide +kernel
theorem d_law_601 : decode code 601 = .ok (.aload_n 0, 1) := by decide +kernel
theorem d_law_602 : decode code 602 = .ok (.iload 4, 2) := by decide +kernel
theorem d_law_604 : decode code 604 = .ok (.iconst 2, 1) := by decide +kernel
theorem d_law_605 : decode code 605 = .ok (.iadd, 1) := by decide +kernel
theorem d_law_606 : decode code 606 = .ok (.iaload, 1) := by decide +kernel
theorem d_law_607 : decode code 607 = .ok (.aload_n 0, 1) := by decide +kernel
theorem d_law_608 : decode code 608 = .ok (.iload 4, 2) := by decide +kernel
theorem d_law_610 : decode code 610 = .ok (.iconst 3, 1) := by decide +kernel
theorem d_law_611 : decode code 611 = .ok (.iadd, 1) := by decide +kernel
theorem d_law_612 : decode code 612 = .ok (.iaload, 1) := by decide +kernel
theorem d_law_613 : decode code 613 = .ok (.aload_n 0, 1) := by decide +kernel
theorem d_law_614 : decode code 614 = .ok (.iload 4, 2) := by decide +kernel
theorem d_law_616 : decode code 616 = .ok (.iconst 4, 1) := by decide +kernel
theorem d_law_617 : decode code 617 = .ok (.iadd, 1) := by decide +kernel
theorem d_law_618 : decode code 618 = .ok (.iaload, 1) := by decide +kernel
theorem d_law_619 : decode code 619 = .ok (.aload_n 3, 1) := by decide +kernel
theorem d_law_620 : decode code 620 = .ok (.invokestatic 90, 3) := by decide +kernel
theorem d_law_623 : decode code 623 = .ok (.istore 5, 2) := by decide +kernel
theorem d_law_625 : decode code 625 = .ok (.aload_n 2, 1) := by decide +kernel
theorem d_law_626 : decode code 626 = .ok (.aload_n 0, 1) := by decide +kernel
theorem d_law_627 : decode code 627 = .ok (.iload 4, 2) := by decide +kernel
theorem d_law_629 : decode code 629 = .ok (.iconst 1, 1) := by decide +kernel
theorem d_law_630 : decode code 630 = .ok (.iadd, 1) := by decide +kernel
theorem d_law_631 : decode code 631 = .ok (.iaload, 1) := by decide +kernel
theorem d_law_632 : decode code 632 = .ok (.aload_n 0, 1) := by decide +kernel
theorem d_law_633 : decode code 633 = .ok (.iload 4, 2) := by decide +kernel
theorem d_law_635 : decode code 635 = .ok (.iconst 2, 1) := by decide +kernel
theorem d_law_636 : decode code 636 = .ok (.iadd, 1) := by decide +kernel
theorem d_law_637 : decode code 637 = .ok (.iaload, 1) := by decide +kernel
theorem d_law_638 : decode code 638 = .ok (.aload_n 0, 1) := by decide +kernel
theorem d_law_639 : decode code 639 = .ok (.iload 4, 2) := by decide +kernel
theorem d_law_641 : decode code 641 = .ok (.iconst 3, 1) := by decide +kernel
theorem d_law_642 : decode code 642 = .ok (.iadd, 1) := by decide +kernel
theorem d_law_643 : decode code 643 = .ok (.iaload, 1) := by decide +kernel
theorem d_law_644 : decode code 644 = .ok (.aload_n 0, 1) := by decide +kernel
theorem d_law_645 : decode code 645 = .ok (.iload 4, 2) := by decide +kernel
theorem d_law_647 : decode code 647 = .ok (.iconst 4, 1) := by decide +kernel
theorem d_law_648 : decode code 648 = .ok (.iadd, 1) := by decide +kernel
theorem d_law_649 : decode code 649 = .ok (.iaload, 1) := by decide +kernel
theorem d_law_650 : decode code 650 = .ok (.invokevirtual 93, 3) := by decide +kernel
theorem d_law_653 : decode code 653 = .ok (.istore 6, 2) := by decide +kernel
theorem d_law_655 : decode code 655 = .ok (.aload_n 2, 1) := by decide +kernel
theorem d_law_656 : decode code 656 = .ok (.invokevirtual 75, 3) := by decide +kernel
theorem d_law_659 : decode code 659 = .ok (.iload 5, 2) := by decide +kernel
theorem d_law_661 : decode code 661 = .ok (.if_icmp .eq 5, 3) := by decide +kernel
theorem d_law_664 : decode code 664 = .ok (.iconst 0, 1) := by decide +kernel
theorem d_law_665 : decode code 665 = .ok (.ireturn, 1) := by decide +kernel
theorem d_law_666 : decode code 666 = .ok (.iload 5, 2) := by decide +kernel
theorem d_law_668 : decode code 668 = .ok (.ifCond .ne 15, 3) := by decide +kernel
theorem d_law_671 : decode code 671 = .ok (.aload_n 3, 1) := by decide +kernel
theorem d_law_672 : decode code 672 = .ok (.iconst 0, 1) := by decide +kernel
theorem d_law_673 : decode code 673 = .ok (.laload, 1) := by decide +kernel
theorem d_law_674 : decode code 674 = .ok (.iload 6, 2) := by decide +kernel
theorem d_law_676 : decode code 676 = .ok (.i2l, 1) := by decide +kernel
theorem d_law_677 : decode code 677 = .ok (.lcmp, 1) := by decide +kernel
theorem d_law_678 : decode code 678 = .ok (.ifCond .eq 5, 3) := by decide +kernel
theorem d_law_681 : decode code 681 = .ok (.iconst 0, 1) := by decide +kernel
theorem d_law_682 : decode code 682 = .ok (.ireturn, 1) := by decide +kernel
theorem d_law_683 : decode code 683 = .ok (.goto 576, 3) := by decide +kernel
theorem d_law_686 : decode code 686 = .ok (.aload_n 1, 1) := by decide +kernel
theorem d_law_687 : decode code 687 = .ok (.aload_n 0, 1) := by decide +kernel
theorem d_law_688 : decode code 688 = .ok (.iload 4, 2) := by decide +kernel
theorem d_law_690 : decode code 690 = .ok (.iconst 1, 1) := by decide +kernel
theorem d_law_691 : decode code 691 = .ok (.iadd, 1) := by decide +kernel
theorem d_law_692 : decode code 692 = .ok (.iaload, 1) := by decide +kernel
theorem d_law_693 : decode code 693 = .ok (.aload_n 3, 1) := by decide +kernel
theorem d_law_694 : decode code 694 = .ok (.invokestatic 94, 3) := by decide +kernel
theorem d_law_697 : decode code 697 = .ok (.istore 5, 2) := by decide +kernel
theorem d_law_699 : decode code 699 = .ok (.aload_n 2, 1) := by decide +kernel
theorem d_law_700 : decode code 700 = .ok (.aload_n 0, 1) := by decide +kernel
theorem d_law_701 : decode code 701 = .ok (.iload 4, 2) := by decide +kernel
theorem d_law_703 : decode code 703 = .ok (.iconst 1, 1) := by decide +kernel
theorem d_law_704 : decode code 704 = .ok (.iadd, 1) := by decide +kernel
theorem d_law_705 : decode code 705 = .ok (.iaload, 1) := by decide +kernel
theorem d_law_706 : decode code 706 = .ok (.invokevirtual 97, 3) := by decide +kernel
theorem d_law_709 : decode code 709 = .ok (.istore 6, 2) := by decide +kernel
theorem d_law_711 : decode code 711 = .ok (.aload_n 2, 1) := by decide +kernel
theorem d_law_712 : decode code 712 = .ok (.invokevirtual 75, 3) := by decide +kernel
theorem d_law_715 : decode code 715 = .ok (.iload 5, 2) := by decide +kernel
theorem d_law_717 : decode code 717 = .ok (.if_icmp .eq 5, 3) := by decide +kernel
theorem d_law_720 : decode code 720 = .ok (.iconst 0, 1) := by decide +kernel
theorem d_law_721 : decode code 721 = .ok (.ireturn, 1) := by decide +kernel
theorem d_law_722 : decode code 722 = .ok (.iload 5, 2) := by decide +kernel
theorem d_law_724 : decode code 724 = .ok (.ifCond .ne 22, 3) := by decide +kernel
theorem d_law_727 : decode code 727 = .ok (.aload_n 3, 1) := by decide +kernel
theorem d_law_728 : decode code 728 = .ok (.iconst 0, 1) := by decide +kernel
theorem d_law_729 : decode code 729 = .ok (.laload, 1) := by decide +kernel
theorem d_law_730 : decode code 730 = .ok (.iload 6, 2) := by decide +kernel
theorem d_law_732 : decode code 732 = .ok (.ifCond .eq 7, 3) := by decide +kernel
theorem d_law_735 : decode code 735 = .ok (.lconst 1, 1) := by decide +kernel
theorem d_law_736 : decode code 736 = .ok (.goto 4, 3) := by decide +kernel
theorem d_law_739 : decode code 739 = .ok (.lconst 0, 1) := by decide +kernel
theorem d_law_740 : decode code 740 = .ok (.lcmp, 1) := by decide +kernel
theorem d_law_741 : decode code 741 = .ok (.ifCond .eq 5, 3) := by decide +kernel
theorem d_law_744 : decode code 744 = .ok (.iconst 0, 1) := by decide +kernel
theorem d_law_745 : decode code 745 = .ok (.ireturn, 1) := by decide +kernel
theorem d_law_746 : decode code 746 = .ok (.goto 513, 3) := by decide +kernel
theorem d_law_749 : decode code 749 = .ok (.aload_n 1, 1) := by decide +kernel
theorem d_law_750 : decode code 750 = .ok (.aload_n 3, 1) := by decide +kernel
theorem d_law_751 : decode code 751 = .ok (.invokestatic 98, 3) := by decide +kernel
theorem d_law_754 : decode code 754 = .ok (.istore 5, 2) := by decide +kernel
theorem d_law_756 : decode code 756 = .ok (.aload_n 2, 1) := by decide +kernel
theorem d_law_757 : decode code 757 = .ok (.invokevirtual 101, 3) := by decide +kernel
theorem d_law_760 : decode code 760 = .ok (.istore 6, 2) := by decide +kernel
theorem d_law_762 : decode code 762 = .ok (.aload_n 2, 1) := by decide +kernel
theorem d_law_763 : decode code 763 = .ok (.invokevirtual 75, 3) := by decide +kernel
theorem d_law_766 : decode code 766 = .ok (.iload 5, 2) := by decide +kernel
theorem d_law_768 : decode code 768 = .ok (.if_icmp .eq 5, 3) := by decide +kernel
theorem d_law_771 : decode code 771 = .ok (.iconst 0, 1) := by decide +kernel
theorem d_law_772 : decode code 772 = .ok (.ireturn, 1) := by decide +kernel
theorem d_law_773 : decode code 773 = .ok (.iload 5, 2) := by decide +kernel
theorem d_law_775 : decode code 775 = .ok (.ifCond .ne 15, 3) := by decide +kernel
theorem d_law_778 : decode code 778 = .ok (.aload_n 3, 1) := by decide +kernel
theorem d_law_779 : decode code 779 = .ok (.iconst 0, 1) := by decide +kernel
theorem d_law_780 : decode code 780 = .ok (.laload, 1) := by decide +kernel
theorem d_law_781 : decode code 781 = .ok (.iload 6, 2) := by decide +kernel
theorem d_law_783 : decode code 783 = .ok (.i2l, 1) := by decide +kernel
theorem d_law_784 : decode code 784 = .ok (.lcmp, 1) := by decide +kernel
theorem d_law_785 : decode code 785 = .ok (.ifCond .eq 5, 3) := by decide +kernel
theorem d_law_788 : decode code 788 = .ok (.iconst 0, 1) := by decide +kernel
theorem d_law_789 : decode code 789 = .ok (.ireturn, 1) := by decide +kernel
theorem d_law_790 : decode code 790 = .ok (.goto 469, 3) := by decide +kernel
theorem d_law_793 : decode code 793 = .ok (.aload_n 1, 1) := by decide +kernel
theorem d_law_794 : decode code 794 = .ok (.aload_n 0, 1) := by decide +kernel
theorem d_law_795 : decode code 795 = .ok (.iload 4, 2) := by decide +kernel
theorem d_law_797 : decode code 797 = .ok (.iconst 1, 1) := by decide +kernel
theorem d_law_798 : decode code 798 = .ok (.iadd, 1) := by decide +kernel
theorem d_law_799 : decode code 799 = .ok (.iaload, 1) := by decide +kernel
theorem d_law_800 : decode code 800 = .ok (.invokevirtual 102, 3) := by decide +kernel
theorem d_law_803 : decode code 803 = .ok (.aload_n 2, 1) := by decide +kernel
theorem d_law_804 : decode code 804 = .ok (.aload_n 0, 1) := by decide +kernel
theorem d_law_805 : decode code 805 = .ok (.iload 4, 2) := by decide +kernel
theorem d_law_807 : decode code 807 = .ok (.iconst 1, 1) := by decide +kernel
theorem d_law_808 : decode code 808 = .ok (.iadd, 1) := by decide +kernel
theorem d_law_809 : decode code 809 = .ok (.iaload, 1) := by decide +kernel
theorem d_law_810 : decode code 810 = .ok (.invokevirtual 105, 3) := by decide +kernel
theorem d_law_813 : decode code 813 = .ok (.if_icmp .eq 446, 3) := by decide +kernel
theorem d_law_816 : decode code 816 = .ok (.iconst 0, 1) := by decide +kernel
theorem d_law_817 : decode code 817 = .ok (.ireturn, 1) := by decide +kernel
theorem d_law_818 : decode code 818 = .ok (.aload_n 1, 1) := by decide +kernel
theorem d_law_819 : decode code 819 = .ok (.aload_n 3, 1) := by decide +kernel
theorem d_law_820 : decode code 820 = .ok (.invokestatic 106, 3) := by decide +kernel
theorem d_law_823 : decode code 823 = .ok (.istore 5, 2) := by decide +kernel
theorem d_law_825 : decode code 825 = .ok (.aload_n 2, 1) := by decide +kernel
theorem d_law_826 : decode code 826 = .ok (.invokevirtual 108, 3) := by decide +kernel
theorem d_law_829 : decode code 829 = .ok (.istore 6, 2) := by decide +kernel
theorem d_law_831 : decode code 831 = .ok (.aload_n 2, 1) := by decide +kernel
theorem d_law_832 : decode code 832 = .ok (.invokevirtual 75, 3) := by decide +kernel
theorem d_law_835 : decode code 835 = .ok (.iload 5, 2) := by decide +kernel
theorem d_law_837 : decode code 837 = .ok (.if_icmp .eq 5, 3) := by decide +kernel
theorem d_law_840 : decode code 840 = .ok (.iconst 0, 1) := by decide +kernel
theorem d_law_841 : decode code 841 = .ok (.ireturn, 1) := by decide +kernel
theorem d_law_842 : decode code 842 = .ok (.iload 5, 2) := by decide +kernel
theorem d_law_844 : decode code 844 = .ok (.ifCond .ne 15, 3) := by decide +kernel
theorem d_law_847 : decode code 847 = .ok (.aload_n 3, 1) := by decide +kernel
theorem d_law_848 : decode code 848 = .ok (.iconst 0, 1) := by decide +kernel
theorem d_law_849 : decode code 849 = .ok (.laload, 1) := by decide +kernel
theorem d_law_850 : decode code 850 = .ok (.iload 6, 2) := by decide +kernel
theorem d_law_852 : decode code 852 = .ok (.i2l, 1) := by decide +kernel
theorem d_law_853 : decode code 853 = .ok (.lcmp, 1) := by decide +kernel
theorem d_law_854 : decode code 854 = .ok (.ifCond .eq 5, 3) := by decide +kernel
theorem d_law_857 : decode code 857 = .ok (.iconst 0, 1) := by decide +kernel
theorem d_law_858 : decode code 858 = .ok (.ireturn, 1) := by decide +kernel
theorem d_law_859 : decode code 859 = .ok (.goto 400, 3) := by decide +kernel
theorem d_law_862 : decode code 862 = .ok (.aload_n 1, 1) := by decide +kernel
theorem d_law_863 : decode code 863 = .ok (.aload_n 0, 1) := by decide +kernel
theorem d_law_864 : decode code 864 = .ok (.iload 4, 2) := by decide +kernel
theorem d_law_866 : decode code 866 = .ok (.iconst 1, 1) := by decide +kernel
theorem d_law_867 : decode code 867 = .ok (.iadd, 1) := by decide +kernel
theorem d_law_868 : decode code 868 = .ok (.iaload, 1) := by decide +kernel
theorem d_law_869 : decode code 869 = .ok (.aload_n 0, 1) := by decide +kernel
theorem d_law_870 : decode code 870 = .ok (.iload 4, 2) := by decide +kernel
theorem d_law_872 : decode code 872 = .ok (.iconst 2, 1) := by decide +kernel
theorem d_law_873 : decode code 873 = .ok (.iadd, 1) := by decide +kernel
theorem d_law_874 : decode code 874 = .ok (.iaload, 1) := by decide +kernel
theorem d_law_875 : decode code 875 = .ok (.i2l, 1) := by decide +kernel
theorem d_law_876 : decode code 876 = .ok (.bipush 32, 2) := by decide +kernel
theorem d_law_878 : decode code 878 = .ok (.lshl, 1) := by decide +kernel
theorem d_law_879 : decode code 879 = .ok (.aload_n 0, 1) := by decide +kernel
theorem d_law_880 : decode code 880 = .ok (.iload 4, 2) := by decide +kernel
theorem d_law_882 : decode code 882 = .ok (.iconst 3, 1) := by decide +kernel
theorem d_law_883 : decode code 883 = .ok (.iadd, 1) := by decide +kernel
theorem d_law_884 : decode code 884 = .ok (.iaload, 1) := by decide +kernel
theorem d_law_885 : decode code 885 = .ok (.i2l, 1) := by decide +kernel
theorem d_law_886 : decode code 886 = .ok (.ldc2_w 67, 3) := by decide +kernel
theorem d_law_889 : decode code 889 = .ok (.land, 1) := by decide +kernel
theorem d_law_890 : decode code 890 = .ok (.lor, 1) := by decide +kernel
theorem d_law_891 : decode code 891 = .ok (.aload_n 3, 1) := by decide +kernel
theorem d_law_892 : decode code 892 = .ok (.invokestatic 109, 3) := by decide +kernel
theorem d_law_895 : decode code 895 = .ok (.istore 5, 2) := by decide +kernel
theorem d_law_897 : decode code 897 = .ok (.aload_n 2, 1) := by decide +kernel
theorem d_law_898 : decode code 898 = .ok (.aload_n 0, 1) := by decide +kernel
theorem d_law_899 : decode code 899 = .ok (.iload 4, 2) := by decide +kernel
theorem d_law_901 : decode code 901 = .ok (.iconst 1, 1) := by decide +kernel
theorem d_law_902 : decode code 902 = .ok (.iadd, 1) := by decide +kernel
theorem d_law_903 : decode code 903 = .ok (.iaload, 1) := by decide +kernel
theorem d_law_904 : decode code 904 = .ok (.aload_n 0, 1) := by decide +kernel
theorem d_law_905 : decode code 905 = .ok (.iload 4, 2) := by decide +kernel
theorem d_law_907 : decode code 907 = .ok (.iconst 2, 1) := by decide +kernel
theorem d_law_908 : decode code 908 = .ok (.iadd, 1) := by decide +kernel
theorem d_law_909 : decode code 909 = .ok (.iaload, 1) := by decide +kernel
theorem d_law_910 : decode code 910 = .ok (.i2l, 1) := by decide +kernel
theorem d_law_911 : decode code 911 = .ok (.bipush 32, 2) := by decide +kernel
theorem d_law_913 : decode code 913 = .ok (.lshl, 1) := by decide +kernel
theorem d_law_914 : decode code 914 = .ok (.aload_n 0, 1) := by decide +kernel
theorem d_law_915 : decode code 915 = .ok (.iload 4, 2) := by decide +kernel
theorem d_law_917 : decode code 917 = .ok (.iconst 3, 1) := by decide +kernel
theorem d_law_918 : decode code 918 = .ok (.iadd, 1) := by decide +kernel
theorem d_law_919 : decode code 919 = .ok (.iaload, 1) := by decide +kernel
theorem d_law_920 : decode code 920 = .ok (.i2l, 1) := by decide +kernel
theorem d_law_921 : decode code 921 = .ok (.ldc2_w 67, 3) := by decide +kernel
theorem d_law_924 : decode code 924 = .ok (.land, 1) := by decide +kernel
theorem d_law_925 : decode code 925 = .ok (.lor, 1) := by decide +kernel
theorem d_law_926 : decode code 926 = .ok (.invokevirtual 111, 3) := by decide +kernel
theorem d_law_929 : decode code 929 = .ok (.istore 6, 2) := by decide +kernel
theorem d_law_931 : decode code 931 = .ok (.aload_n 2, 1) := by decide +kernel
theorem d_law_932 : decode code 932 = .ok (.invokevirtual 75, 3) := by decide +kernel
theorem d_law_935 : decode code 935 = .ok (.iload 5, 2) := by decide +kernel
theorem d_law_937 : decode code 937 = .ok (.if_icmp .eq 5, 3) := by decide +kernel
theorem d_law_940 : decode code 940 = .ok (.iconst 0, 1) := by decide +kernel
theorem d_law_941 : decode code 941 = .ok (.ireturn, 1) := by decide +kernel
theorem d_law_942 : decode code 942 = .ok (.iload 5, 2) := by decide +kernel
theorem d_law_944 : decode code 944 = .ok (.ifCond .ne 15, 3) := by decide +kernel
theorem d_law_947 : decode code 947 = .ok (.aload_n 3, 1) := by decide +kernel
theorem d_law_948 : decode code 948 = .ok (.iconst 0, 1) := by decide +kernel
theorem d_law_949 : decode code 949 = .ok (.laload, 1) := by decide +kernel
theorem d_law_950 : decode code 950 = .ok (.iload 6, 2) := by decide +kernel
theorem d_law_952 : decode code 952 = .ok (.i2l, 1) := by decide +kernel
theorem d_law_953 : decode code 953 = .ok (.lcmp, 1) := by decide +kernel
theorem d_law_954 : decode code 954 = .ok (.ifCond .eq 5, 3) := by decide +kernel
theorem d_law_957 : decode code 957 = .ok (.iconst 0, 1) := by decide +kernel
theorem d_law_958 : decode code 958 = .ok (.ireturn, 1) := by decide +kernel
theorem d_law_959 : decode code 959 = .ok (.goto 300, 3) := by decide +kernel
theorem d_law_962 : decode code 962 = .ok (.aload_n 1, 1) := by decide +kernel
theorem d_law_963 : decode code 963 = .ok (.aload_n 0, 1) := by decide +kernel
theorem d_law_964 : decode code 964 = .ok (.iload 4, 2) := by decide +kernel
theorem d_law_966 : decode code 966 = .ok (.iconst 1, 1) := by decide +kernel
theorem d_law_967 : decode code 967 = .ok (.iadd, 1) := by decide +kernel
theorem d_law_968 : decode code 968 = .ok (.iaload, 1) := by decide +kernel
theorem d_law_969 : decode code 969 = .ok (.aload_n 0, 1) := by decide +kernel
theorem d_law_970 : decode code 970 = .ok (.iload 4, 2) := by decide +kernel
theorem d_law_972 : decode code 972 = .ok (.iconst 2, 1) := by decide +kernel
theorem d_law_973 : decode code 973 = .ok (.iadd, 1) := by decide +kernel
theorem d_law_974 : decode code 974 = .ok (.iaload, 1) := by decide +kernel
theorem d_law_975 : decode code 975 = .ok (.aload_n 3, 1) := by decide +kernel
theorem d_law_976 : decode code 976 = .ok (.invokestatic 112, 3) := by decide +kernel
theorem d_law_979 : decode code 979 = .ok (.istore 5, 2) := by decide +kernel
theorem d_law_981 : decode code 981 = .ok (.aload_n 2, 1) := by decide +kernel
theorem d_law_982 : decode code 982 = .ok (.aload_n 0, 1) := by decide +kernel
theorem d_law_983 : decode code 983 = .ok (.iload 4, 2) := by decide +kernel
theorem d_law_985 : decode code 985 = .ok (.iconst 1, 1) := by decide +kernel
theorem d_law_986 : decode code 986 = .ok (.iadd, 1) := by decide +kernel
theorem d_law_987 : decode code 987 = .ok (.iaload, 1) := by decide +kernel
theorem d_law_988 : decode code 988 = .ok (.aload_n 0, 1) := by decide +kernel
theorem d_law_989 : decode code 989 = .ok (.iload 4, 2) := by decide +kernel
theorem d_law_991 : decode code 991 = .ok (.iconst 2, 1) := by decide +kernel
theorem d_law_992 : decode code 992 = .ok (.iadd, 1) := by decide +kernel
theorem d_law_993 : decode code 993 = .ok (.iaload, 1) := by decide +kernel
theorem d_law_994 : decode code 994 = .ok (.invokevirtual 115, 3) := by decide +kernel
theorem d_law_997 : decode code 997 = .ok (.istore 6, 2) := by decide +kernel
theorem d_law_999 : decode code 999 = .ok (.aload_n 2, 1) := by decide +kernel
theorem d_law_1000 : decode code 1000 = .ok (.invokevirtual 75, 3) := by decide +kernel
theorem d_law_1003 : decode code 1003 = .ok (.iload 5, 2) := by decide +kernel
theorem d_law_1005 : decode code 1005 = .ok (.if_icmp .eq 5, 3) := by decide +kernel
theorem d_law_1008 : decode code 1008 = .ok (.iconst 0, 1) := by decide +kernel
theorem d_law_1009 : decode code 1009 = .ok (.ireturn, 1) := by decide +kernel
theorem d_law_1010 : decode code 1010 = .ok (.iload 5, 2) := by decide +kernel
theorem d_law_1012 : decode code 1012 = .ok (.ifCond .ne 15, 3) := by decide +kernel
theorem d_law_1015 : decode code 1015 = .ok (.aload_n 3, 1) := by decide +kernel
theorem d_law_1016 : decode code 1016 = .ok (.iconst 0, 1) := by decide +kernel
theorem d_law_1017 : decode code 1017 = .ok (.laload, 1) := by decide +kernel
theorem d_law_1018 : decode code 1018 = .ok (.iload 6, 2) := by decide +kernel
theorem d_law_1020 : decode code 1020 = .ok (.i2l, 1) := by decide +kernel
theorem d_law_1021 : decode code 1021 = .ok (.lcmp, 1) := by decide +kernel
theorem d_law_1022 : decode code 1022 = .ok (.ifCond .eq 5, 3) := by decide +kernel
theorem d_law_1025 : decode code 1025 = .ok (.iconst 0, 1) := by decide +kernel
theorem d_law_1026 : decode code 1026 = .ok (.ireturn, 1) := by decide +kernel
theorem d_law_1027 : decode code 1027 = .ok (.goto 232, 3) := by decide +kernel
theorem d_law_1030 : decode code 1030 = .ok (.aload_n 1, 1) := by decide +kernel
theorem d_law_1031 : decode code 1031 = .ok (.aload_n 0, 1) := by decide +kernel
theorem d_law_1032 : decode code 1032 = .ok (.iload 4, 2) := by decide +kernel
theorem d_law_1034 : decode code 1034 = .ok (.iconst 1, 1) := by decide +kernel
theorem d_law_1035 : decode code 1035 = .ok (.iadd, 1) := by decide +kernel
theorem d_law_1036 : decode code 1036 = .ok (.iaload, 1) := by decide +kernel
theorem d_law_1037 : decode code 1037 = .ok (.aload_n 0, 1) := by decide +kernel
theorem d_law_1038 : decode code 1038 = .ok (.iload 4, 2) := by decide +kernel
theorem d_law_1040 : decode code 1040 = .ok (.iconst 2, 1) := by decide +kernel
theorem d_law_1041 : decode code 1041 = .ok (.iadd, 1) := by decide +kernel
theorem d_law_1042 : decode code 1042 = .ok (.iaload, 1) := by decide +kernel
theorem d_law_1043 : decode code 1043 = .ok (.aload_n 3, 1) := by decide +kernel
theorem d_law_1044 : decode code 1044 = .ok (.invokestatic 116, 3) := by decide +kernel
theorem d_law_1047 : decode code 1047 = .ok (.istore 5, 2) := by decide +kernel
theorem d_law_1049 : decode code 1049 = .ok (.aload_n 2, 1) := by decide +kernel
theorem d_law_1050 : decode code 1050 = .ok (.aload_n 0, 1) := by decide +kernel
theorem d_law_1051 : decode code 1051 = .ok (.iload 4, 2) := by decide +kernel
theorem d_law_1053 : decode code 1053 = .ok (.iconst 1, 1) := by decide +kernel
theorem d_law_1054 : decode code 1054 = .ok (.iadd, 1) := by decide +kernel
theorem d_law_1055 : decode code 1055 = .ok (.iaload, 1) := by decide +kernel
theorem d_law_1056 : decode code 1056 = .ok (.aload_n 0, 1) := by decide +kernel
theorem d_law_1057 : decode code 1057 = .ok (.iload 4, 2) := by decide +kernel
theorem d_law_1059 : decode code 1059 = .ok (.iconst 2, 1) := by decide +kernel
theorem d_law_1060 : decode code 1060 = .ok (.iadd, 1) := by decide +kernel
theorem d_law_1061 : decode code 1061 = .ok (.iaload, 1) := by decide +kernel
theorem d_law_1062 : decode code 1062 = .ok (.invokevirtual 118, 3) := by decide +kernel
theorem d_law_1065 : decode code 1065 = .ok (.istore 6, 2) := by decide +kernel
theorem d_law_1067 : decode code 1067 = .ok (.aload_n 2, 1) := by decide +kernel
theorem d_law_1068 : decode code 1068 = .ok (.invokevirtual 75, 3) := by decide +kernel
theorem d_law_1071 : decode code 1071 = .ok (.iload 5, 2) := by decide +kernel
theorem d_law_1073 : decode code 1073 = .ok (.if_icmp .eq 5, 3) := by decide +kernel
theorem d_law_1076 : decode code 1076 = .ok (.iconst 0, 1) := by decide +kernel
theorem d_law_1077 : decode code 1077 = .ok (.ireturn, 1) := by decide +kernel
theorem d_law_1078 : decode code 1078 = .ok (.iload 5, 2) := by decide +kernel
theorem d_law_1080 : decode code 1080 = .ok (.ifCond .ne 15, 3) := by decide +kernel
theorem d_law_1083 : decode code 1083 = .ok (.aload_n 3, 1) := by decide +kernel
theorem d_law_1084 : decode code 1084 = .ok (.iconst 0, 1) := by decide +kernel
theorem d_law_1085 : decode code 1085 = .ok (.laload, 1) := by decide +kernel
theorem d_law_1086 : decode code 1086 = .ok (.iload 6, 2) := by decide +kernel
theorem d_law_1088 : decode code 1088 = .ok (.i2l, 1) := by decide +kernel
theorem d_law_1089 : decode code 1089 = .ok (.lcmp, 1) := by decide +kernel
theorem d_law_1090 : decode code 1090 = .ok (.ifCond .eq 5, 3) := by decide +kernel
theorem d_law_1093 : decode code 1093 = .ok (.iconst 0, 1) := by decide +kernel
theorem d_law_1094 : decode code 1094 = .ok (.ireturn, 1) := by decide +kernel
theorem d_law_1095 : decode code 1095 = .ok (.goto 164, 3) := by decide +kernel
theorem d_law_1098 : decode code 1098 = .ok (.aload_n 1, 1) := by decide +kernel
theorem d_law_1099 : decode code 1099 = .ok (.aload_n 0, 1) := by decide +kernel
theorem d_law_1100 : decode code 1100 = .ok (.iload 4, 2) := by decide +kernel
theorem d_law_1102 : decode code 1102 = .ok (.iconst 1, 1) := by decide +kernel
theorem d_law_1103 : decode code 1103 = .ok (.iadd, 1) := by decide +kernel
theorem d_law_1104 : decode code 1104 = .ok (.iaload, 1) := by decide +kernel
theorem d_law_1105 : decode code 1105 = .ok (.aload_n 0, 1) := by decide +kernel
theorem d_law_1106 : decode code 1106 = .ok (.iload 4, 2) := by decide +kernel
theorem d_law_1108 : decode code 1108 = .ok (.iconst 2, 1) := by decide +kernel
theorem d_law_1109 : decode code 1109 = .ok (.iadd, 1) := by decide +kernel
theorem d_law_1110 : decode code 1110 = .ok (.iaload, 1) := by decide +kernel
theorem d_law_1111 : decode code 1111 = .ok (.aload_n 3, 1) := by decide +kernel
theorem d_law_1112 : decode code 1112 = .ok (.invokestatic 119, 3) := by decide +kernel
theorem d_law_1115 : decode code 1115 = .ok (.istore 5, 2) := by decide +kernel
theorem d_law_1117 : decode code 1117 = .ok (.aload_n 2, 1) := by decide +kernel
theorem d_law_1118 : decode code 1118 = .ok (.aload_n 0, 1) := by decide +kernel
theorem d_law_1119 : decode code 1119 = .ok (.iload 4, 2) := by decide +kernel
theorem d_law_1121 : decode code 1121 = .ok (.iconst 1, 1) := by decide +kernel
theorem d_law_1122 : decode code 1122 = .ok (.iadd, 1) := by decide +kernel
theorem d_law_1123 : decode code 1123 = .ok (.iaload, 1) := by decide +kernel
theorem d_law_1124 : decode code 1124 = .ok (.aload_n 0, 1) := by decide +kernel
theorem d_law_1125 : decode code 1125 = .ok (.iload 4, 2) := by decide +kernel
theorem d_law_1127 : decode code 1127 = .ok (.iconst 2, 1) := by decide +kernel
theorem d_law_1128 : decode code 1128 = .ok (.iadd, 1) := by decide +kernel
theorem d_law_1129 : decode code 1129 = .ok (.iaload, 1) := by decide +kernel
theorem d_law_1130 : decode code 1130 = .ok (.invokevirtual 121, 3) := by decide +kernel
theorem d_law_1133 : decode code 1133 = .ok (.istore 6, 2) := by decide +kernel
theorem d_law_1135 : decode code 1135 = .ok (.aload_n 2, 1) := by decide +kernel
theorem d_law_1136 : decode code 1136 = .ok (.invokevirtual 75, 3) := by decide +kernel
theorem d_law_1139 : decode code 1139 = .ok (.iload 5, 2) := by decide +kernel
theorem d_law_1141 : decode code 1141 = .ok (.if_icmp .eq 5, 3) := by decide +kernel
theorem d_law_1144 : decode code 1144 = .ok (.iconst 0, 1) := by decide +kernel
theorem d_law_1145 : decode code 1145 = .ok (.ireturn, 1) := by decide +kernel
theorem d_law_1146 : decode code 1146 = .ok (.iload 5, 2) := by decide +kernel
theorem d_law_1148 : decode code 1148 = .ok (.ifCond .ne 15, 3) := by decide +kernel
theorem d_law_1151 : decode code 1151 = .ok (.aload_n 3, 1) := by decide +kernel
theorem d_law_1152 : decode code 1152 = .ok (.iconst 0, 1) := by decide +kernel
theorem d_law_1153 : decode code 1153 = .ok (.laload, 1) := by decide +kernel
theorem d_law_1154 : decode code 1154 = .ok (.iload 6, 2) := by decide +kernel
theorem d_law_1156 : decode code 1156 = .ok (.i2l, 1) := by decide +kernel
theorem d_law_1157 : decode code 1157 = .ok (.lcmp, 1) := by decide +kernel
theorem d_law_1158 : decode code 1158 = .ok (.ifCond .eq 5, 3) := by decide +kernel
theorem d_law_1161 : decode code 1161 = .ok (.iconst 0, 1) := by decide +kernel
theorem d_law_1162 : decode code 1162 = .ok (.ireturn, 1) := by decide +kernel
theorem d_law_1163 : decode code 1163 = .ok (.goto 96, 3) := by decide +kernel
theorem d_law_1166 : decode code 1166 = .ok (.aload_n 1, 1) := by decide +kernel
theorem d_law_1167 : decode code 1167 = .ok (.aload_n 0, 1) := by decide +kernel
theorem d_law_1168 : decode code 1168 = .ok (.iload 4, 2) := by decide +kernel
theorem d_law_1170 : decode code 1170 = .ok (.iconst 1, 1) := by decide +kernel
theorem d_law_1171 : decode code 1171 = .ok (.iadd, 1) := by decide +kernel
theorem d_law_1172 : decode code 1172 = .ok (.iaload, 1) := by decide +kernel
theorem d_law_1173 : decode code 1173 = .ok (.aload_n 0, 1) := by decide +kernel
theorem d_law_1174 : decode code 1174 = .ok (.iload 4, 2) := by decide +kernel
theorem d_law_1176 : decode code 1176 = .ok (.iconst 2, 1) := by decide +kernel
theorem d_law_1177 : decode code 1177 = .ok (.iadd, 1) := by decide +kernel
theorem d_law_1178 : decode code 1178 = .ok (.iaload, 1) := by decide +kernel
theorem d_law_1179 : decode code 1179 = .ok (.aload_n 3, 1) := by decide +kernel
theorem d_law_1180 : decode code 1180 = .ok (.invokestatic 122, 3) := by decide +kernel
theorem d_law_1183 : decode code 1183 = .ok (.istore 5, 2) := by decide +kernel
theorem d_law_1185 : decode code 1185 = .ok (.aload_n 2, 1) := by decide +kernel
theorem d_law_1186 : decode code 1186 = .ok (.aload_n 0, 1) := by decide +kernel
theorem d_law_1187 : decode code 1187 = .ok (.iload 4, 2) := by decide +kernel
theorem d_law_1189 : decode code 1189 = .ok (.iconst 1, 1) := by decide +kernel
theorem d_law_1190 : decode code 1190 = .ok (.iadd, 1) := by decide +kernel
theorem d_law_1191 : decode code 1191 = .ok (.iaload, 1) := by decide +kernel
theorem d_law_1192 : decode code 1192 = .ok (.aload_n 0, 1) := by decide +kernel
theorem d_law_1193 : decode code 1193 = .ok (.iload 4, 2) := by decide +kernel
theorem d_law_1195 : decode code 1195 = .ok (.iconst 2, 1) := by decide +kernel
theorem d_law_1196 : decode code 1196 = .ok (.iadd, 1) := by decide +kernel
theorem d_law_1197 : decode code 1197 = .ok (.iaload, 1) := by decide +kernel
theorem d_law_1198 : decode code 1198 = .ok (.invokevirtual 124, 3) := by decide +kernel
theorem d_law_1201 : decode code 1201 = .ok (.istore 6, 2) := by decide +kernel
theorem d_law_1203 : decode code 1203 = .ok (.aload_n 2, 1) := by decide +kernel
theorem d_law_1204 : decode code 1204 = .ok (.invokevirtual 75, 3) := by decide +kernel
theorem d_law_1207 : decode code 1207 = .ok (.iload 5, 2) := by decide +kernel
theorem d_law_1209 : decode code 1209 = .ok (.if_icmp .eq 5, 3) := by decide +kernel
theorem d_law_1212 : decode code 1212 = .ok (.iconst 0, 1) := by decide +kernel
theorem d_law_1213 : decode code 1213 = .ok (.ireturn, 1) := by decide +kernel
theorem d_law_1214 : decode code 1214 = .ok (.iload 5, 2) := by decide +kernel
theorem d_law_1216 : decode code 1216 = .ok (.ifCond .ne 15, 3) := by decide +kernel
theorem d_law_1219 : decode code 1219 = .ok (.aload_n 3, 1) := by decide +kernel
theorem d_law_1220 : decode code 1220 = .ok (.iconst 0, 1) := by decide +kernel
theorem d_law_1221 : decode code 1221 = .ok (.laload, 1) := by decide +kernel
theorem d_law_1222 : decode code 1222 = .ok (.iload 6, 2) := by decide +kernel
theorem d_law_1224 : decode code 1224 = .ok (.i2l, 1) := by decide +kernel
theorem d_law_1225 : decode code 1225 = .ok (.lcmp, 1) := by decide +kernel
theorem d_law_1226 : decode code 1226 = .ok (.ifCond .eq 5, 3) := by decide +kernel
theorem d_law_1229 : decode code 1229 = .ok (.iconst 0, 1) := by decide +kernel
theorem d_law_1230 : decode code 1230 = .ok (.ireturn, 1) := by decide +kernel
theorem d_law_1231 : decode code 1231 = .ok (.goto 28, 3) := by decide +kernel
theorem d_law_1234 : decode code 1234 = .ok (.aload_n 1, 1) := by decide +kernel
theorem d_law_1235 : decode code 1235 = .ok (.aload_n 0, 1) := by decide +kernel
theorem d_law_1236 : decode code 1236 = .ok (.iload 4, 2) := by decide +kernel
theorem d_law_1238 : decode code 1238 = .ok (.iconst 1, 1) := by decide +kernel
theorem d_law_1239 : decode code 1239 = .ok (.iadd, 1) := by decide +kernel
theorem d_law_1240 : decode code 1240 = .ok (.iaload, 1) := by decide +kernel
theorem d_law_1241 : decode code 1241 = .ok (.invokevirtual 125, 3) := by decide +kernel
theorem d_law_1244 : decode code 1244 = .ok (.aload_n 2, 1) := by decide +kernel
theorem d_law_1245 : decode code 1245 = .ok (.aload_n 0, 1) := by decide +kernel
theorem d_law_1246 : decode code 1246 = .ok (.iload 4, 2) := by decide +kernel
theorem d_law_1248 : decode code 1248 = .ok (.iconst 1, 1) := by decide +kernel
theorem d_law_1249 : decode code 1249 = .ok (.iadd, 1) := by decide +kernel
theorem d_law_1250 : decode code 1250 = .ok (.iaload, 1) := by decide +kernel
theorem d_law_1251 : decode code 1251 = .ok (.invokevirtual 129, 3) := by decide +kernel
theorem d_law_1254 : decode code 1254 = .ok (.if_icmp .eq 5, 3) := by decide +kernel
theorem d_law_1257 : decode code 1257 = .ok (.iconst 0, 1) := by decide +kernel
theorem d_law_1258 : decode code 1258 = .ok (.ireturn, 1) := by decide +kernel
theorem d_law_1259 : decode code 1259 = .ok (.iinc 4 6, 3) := by decide +kernel
theorem d_law_1262 : decode code 1262 = .ok (.goto (-1239), 3) := by decide +kernel
theorem d_law_1265 : decode code 1265 = .ok (.iconst 1, 1) := by decide +kernel
theorem d_law_1266 : decode code 1266 = .ok (.ireturn, 1) := by decide +kernel
