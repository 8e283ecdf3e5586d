theorem d_Law_law_0 : decode code 0 = .ok (.new 8, 3) := by decide +kernel
theorem d_Law_law_3 : decode code 3 = .ok (.dup, 1) := by decide +kernel
theorem d_Law_law_4 : decode code 4 = .ok (.invokespecial 61, 3) := by decide +kernel
theorem d_Law_law_7 : decode code 7 = .ok (.astore_n 1, 1) := by decide +kernel
theorem d_Law_law_8 : decode code 8 = .ok (.new 62, 3) := by decide +kernel
theorem d_Law_law_11 : decode code 11 = .ok (.dup, 1) := by decide +kernel
theorem d_Law_law_12 : decode code 12 = .ok (.invokespecial 64, 3) := by decide +kernel
theorem d_Law_law_15 : decode code 15 = .ok (.astore_n 2, 1) := by decide +kernel
theorem d_Law_law_16 : decode code 16 = .ok (.iconst 1, 1) := by decide +kernel
theorem d_Law_law_17 : decode code 17 = .ok (.newarray .long, 2) := by decide +kernel
theorem d_Law_law_19 : decode code 19 = .ok (.astore_n 3, 1) := by decide +kernel
theorem d_Law_law_20 : decode code 20 = .ok (.iconst 0, 1) := by decide +kernel
theorem d_Law_law_21 : decode code 21 = .ok (.istore 4, 2) := by decide +kernel
theorem d_Law_law_23 : decode code 23 = .ok (.iload 4, 2) := by decide +kernel
theorem d_Law_law_25 : decode code 25 = .ok (.aload_n 0, 1) := by decide +kernel
theorem d_Law_law_26 : decode code 26 = .ok (.arraylength, 1) := by decide +kernel
theorem d_Law_law_27 : decode code 27 = .ok (.bipush 6, 2) := by decide +kernel
theorem d_Law_law_29 : decode code 29 = .ok (.isub, 1) := by decide +kernel
theorem d_Law_law_30 : decode code 30 = .ok (.if_icmp .gt 1192, 3) := by decide +kernel
theorem d_Law_law_33 : decode code 33 = .ok (.aload_n 0, 1) := by decide +kernel
theorem d_Law_law_34 : decode code 34 = .ok (.iload 4, 2) := by decide +kernel
theorem d_Law_law_36 : decode code 36 = .ok (.iaload, 1) := by decide +kernel
theorem d_Law_law_37 : decode code 37 = .ok (.bipush 31, 2) := by decide +kernel
theorem d_Law_law_39 : decode code 39 = .ok (.iand, 1) := by decide +kernel
theorem d_Law_law_40 : decode code 40 = .ok (.tableswitch 1176 0 21 #[104, 177, 202, 246, 259, 327, 395, 451, 464, 539, 607, 675, 771, 839, 907, 963, 976, 989, 1002, 1058, 1126, 1151], 104) := by decide +kernel
theorem d_Law_law_144 : decode code 144 = .ok (.aload_n 1, 1) := by decide +kernel
theorem d_Law_law_145 : decode code 145 = .ok (.aload_n 0, 1) := by decide +kernel
theorem d_Law_law_146 : decode code 146 = .ok (.iload 4, 2) := by decide +kernel
theorem d_Law_law_148 : decode code 148 = .ok (.iconst 1, 1) := by decide +kernel
theorem d_Law_law_149 : decode code 149 = .ok (.iadd, 1) := by decide +kernel
theorem d_Law_law_150 : decode code 150 = .ok (.iaload, 1) := by decide +kernel
theorem d_Law_law_151 : decode code 151 = .ok (.aload_n 0, 1) := by decide +kernel
theorem d_Law_law_152 : decode code 152 = .ok (.iload 4, 2) := by decide +kernel
theorem d_Law_law_154 : decode code 154 = .ok (.iconst 2, 1) := by decide +kernel
theorem d_Law_law_155 : decode code 155 = .ok (.iadd, 1) := by decide +kernel
theorem d_Law_law_156 : decode code 156 = .ok (.iaload, 1) := by decide +kernel
theorem d_Law_law_157 : decode code 157 = .ok (.aload_n 0, 1) := by decide +kernel
theorem d_Law_law_158 : decode code 158 = .ok (.iload 4, 2) := by decide +kernel
theorem d_Law_law_160 : decode code 160 = .ok (.iconst 3, 1) := by decide +kernel
theorem d_Law_law_161 : decode code 161 = .ok (.iadd, 1) := by decide +kernel
theorem d_Law_law_162 : decode code 162 = .ok (.iaload, 1) := by decide +kernel
theorem d_Law_law_163 : decode code 163 = .ok (.aload_n 0, 1) := by decide +kernel
theorem d_Law_law_164 : decode code 164 = .ok (.iload 4, 2) := by decide +kernel
theorem d_Law_law_166 : decode code 166 = .ok (.iconst 4, 1) := by decide +kernel
theorem d_Law_law_167 : decode code 167 = .ok (.iadd, 1) := by decide +kernel
theorem d_Law_law_168 : decode code 168 = .ok (.iaload, 1) := by decide +kernel
theorem d_Law_law_169 : decode code 169 = .ok (.aload_n 0, 1) := by decide +kernel
theorem d_Law_law_170 : decode code 170 = .ok (.iload 4, 2) := by decide +kernel
theorem d_Law_law_172 : decode code 172 = .ok (.iconst 5, 1) := by decide +kernel
theorem d_Law_law_173 : decode code 173 = .ok (.iadd, 1) := by decide +kernel
theorem d_Law_law_174 : decode code 174 = .ok (.iaload, 1) := by decide +kernel
theorem d_Law_law_175 : decode code 175 = .ok (.invokevirtual 65, 3) := by decide +kernel
theorem d_Law_law_178 : decode code 178 = .ok (.aload_n 2, 1) := by decide +kernel
theorem d_Law_law_179 : decode code 179 = .ok (.aload_n 0, 1) := by decide +kernel
theorem d_Law_law_180 : decode code 180 = .ok (.iload 4, 2) := by decide +kernel
theorem d_Law_law_182 : decode code 182 = .ok (.iconst 1, 1) := by decide +kernel
theorem d_Law_law_183 : decode code 183 = .ok (.iadd, 1) := by decide +kernel
theorem d_Law_law_184 : decode code 184 = .ok (.iaload, 1) := by decide +kernel
theorem d_Law_law_185 : decode code 185 = .ok (.aload_n 0, 1) := by decide +kernel
theorem d_Law_law_186 : decode code 186 = .ok (.iload 4, 2) := by decide +kernel
theorem d_Law_law_188 : decode code 188 = .ok (.iconst 2, 1) := by decide +kernel
theorem d_Law_law_189 : decode code 189 = .ok (.iadd, 1) := by decide +kernel
theorem d_Law_law_190 : decode code 190 = .ok (.iaload, 1) := by decide +kernel
theorem d_Law_law_191 : decode code 191 = .ok (.aload_n 0, 1) := by decide +kernel
theorem d_Law_law_192 : decode code 192 = .ok (.iload 4, 2) := by decide +kernel
theorem d_Law_law_194 : decode code 194 = .ok (.iconst 3, 1) := by decide +kernel
theorem d_Law_law_195 : decode code 195 = .ok (.iadd, 1) := by decide +kernel
theorem d_Law_law_196 : decode code 196 = .ok (.iaload, 1) := by decide +kernel
theorem d_Law_law_197 : decode code 197 = .ok (.aload_n 0, 1) := by decide +kernel
theorem d_Law_law_198 : decode code 198 = .ok (.iload 4, 2) := by decide +kernel
theorem d_Law_law_200 : decode code 200 = .ok (.iconst 4, 1) := by decide +kernel
theorem d_Law_law_201 : decode code 201 = .ok (.iadd, 1) := by decide +kernel
theorem d_Law_law_202 : decode code 202 = .ok (.iaload, 1) := by decide +kernel
theorem d_Law_law_203 : decode code 203 = .ok (.aload_n 0, 1) := by decide +kernel
theorem d_Law_law_204 : decode code 204 = .ok (.iload 4, 2) := by decide +kernel
theorem d_Law_law_206 : decode code 206 = .ok (.iconst 5, 1) := by decide +kernel
theorem d_Law_law_207 : decode code 207 = .ok (.iadd, 1) := by decide +kernel
theorem d_Law_law_208 : decode code 208 = .ok (.iaload, 1) := by decide +kernel
theorem d_Law_law_209 : decode code 209 = .ok (.invokevirtual 69, 3) := by decide +kernel
theorem d_Law_law_212 : decode code 212 = .ok (.if_icmp .eq 1004, 3) := by decide +kernel
theorem d_Law_law_215 : decode code 215 = .ok (.iconst 0, 1) := by decide +kernel
theorem d_Law_law_216 : decode code 216 = .ok (.ireturn, 1) := by decide +kernel
theorem d_Law_law_217 : decode code 217 = .ok (.aload_n 1, 1) := by decide +kernel
theorem d_Law_law_218 : decode code 218 = .ok (.aload_n 0, 1) := by decide +kernel
theorem d_Law_law_219 : decode code 219 = .ok (.iload 4, 2) := by decide +kernel
theorem d_Law_law_221 : decode code 221 = .ok (.iconst 1, 1) := by decide +kernel
theorem d_Law_law_222 : decode code 222 = .ok (.iadd, 1) := by decide +kernel
theorem d_Law_law_223 : decode code 223 = .ok (.iaload, 1) := by decide +kernel
theorem d_Law_law_224 : decode code 224 = .ok (.invokevirtual 70, 3) := by decide +kernel
theorem d_Law_law_227 : decode code 227 = .ok (.aload_n 2, 1) := by decide +kernel
theorem d_Law_law_228 : decode code 228 = .ok (.aload_n 0, 1) := by decide +kernel
theorem d_Law_law_229 : decode code 229 = .ok (.iload 4, 2) := by decide +kernel
theorem d_Law_law_231 : decode code 231 = .ok (.iconst 1, 1) := by decide +kernel
theorem d_Law_law_232 : decode code 232 = .ok (.iadd, 1) := by decide +kernel
theorem d_Law_law_233 : decode code 233 = .ok (.iaload, 1) := by decide +kernel
theorem d_Law_law_234 : decode code 234 = .ok (.invokevirtual 74, 3) := by decide +kernel
theorem d_Law_law_237 : decode code 237 = .ok (.if_icmp .eq 979, 3) := by decide +kernel
theorem d_Law_law_240 : decode code 240 = .ok (.iconst 0, 1) := by decide +kernel
theorem d_Law_law_241 : decode code 241 = .ok (.ireturn, 1) := by decide +kernel
theorem d_Law_law_242 : decode code 242 = .ok (.aload_n 1, 1) := by decide +kernel
theorem d_Law_law_243 : decode code 243 = .ok (.aload_n 3, 1) := by decide +kernel
theorem d_Law_law_244 : decode code 244 = .ok (.invokestatic 75, 3) := by decide +kernel
theorem d_Law_law_247 : decode code 247 = .ok (.istore 5, 2) := by decide +kernel
theorem d_Law_law_249 : decode code 249 = .ok (.aload_n 2, 1) := by decide +kernel
theorem d_Law_law_250 : decode code 250 = .ok (.invokevirtual 80, 3) := by decide +kernel
theorem d_Law_law_253 : decode code 253 = .ok (.istore 6, 2) := by decide +kernel
theorem d_Law_law_255 : decode code 255 = .ok (.aload_n 2, 1) := by decide +kernel
theorem d_Law_law_256 : decode code 256 = .ok (.invokevirtual 81, 3) := by decide +kernel
theorem d_Law_law_259 : decode code 259 = .ok (.iload 5, 2) := by decide +kernel
theorem d_Law_law_261 : decode code 261 = .ok (.if_icmp .eq 5, 3) := by decide +kernel
theorem d_Law_law_264 : decode code 264 = .ok (.iconst 0, 1) := by decide +kernel
theorem d_Law_law_265 : decode code 265 = .ok (.ireturn, 1) := by decide +kernel
theorem d_Law_law_266 : decode code 266 = .ok (.iload 5, 2) := by decide +kernel
theorem d_Law_law_268 : decode code 268 = .ok (.ifCond .ne 15, 3) := by decide +kernel
theorem d_Law_law_271 : decode code 271 = .ok (.aload_n 3, 1) := by decide +kernel
theorem d_Law_law_272 : decode code 272 = .ok (.iconst 0, 1) := by decide +kernel
theorem d_Law_law_273 : decode code 273 = .ok (.laload, 1) := by decide +kernel
theorem d_Law_law_274 : decode code 274 = .ok (.iload 6, 2) := by decide +kernel
theorem d_Law_law_276 : decode code 276 = .ok (.i2l, 1) := by decide +kernel
theorem d_Law_law_277 : decode code 277 = .ok (.lcmp, 1) := by decide +kernel
theorem d_Law_law_278 : decode code 278 = .ok (.ifCond .eq 5, 3) := by decide +kernel
theorem d_Law_law_281 : decode code 281 = .ok (.iconst 0, 1) := by decide +kernel
theorem d_Law_law_282 : decode code 282 = .ok (.ireturn, 1) := by decide +kernel
theorem d_Law_law_283 : decode code 283 = .ok (.goto 933, 3) := by decide +kernel
theorem d_Law_law_286 : decode code 286 = .ok (.aload_n 1, 1) := by decide +kernel
theorem d_Law_law_287 : decode code 287 = .ok (.invokevirtual 84, 3) := by decide +kernel
theorem d_Law_law_290 : decode code 290 = .ok (.aload_n 2, 1) := by decide +kernel
theorem d_Law_law_291 : decode code 291 = .ok (.invokevirtual 87, 3) := by decide +kernel
theorem d_Law_law_294 : decode code 294 = .ok (.if_icmp .eq 922, 3) := by decide +kernel
theorem d_Law_law_297 : decode code 297 = .ok (.iconst 0, 1) := by decide +kernel
theorem d_Law_law_298 : decode code 298 = .ok (.ireturn, 1) := by decide +kernel
theorem d_Law_law_299 : decode code 299 = .ok (.aload_n 1, 1) := by decide +kernel
theorem d_Law_law_300 : decode code 300 = .ok (.aload_n 0, 1) := by decide +kernel
theorem d_Law_law_301 : decode code 301 = .ok (.iload 4, 2) := by decide +kernel
theorem d_Law_law_303 : decode code 303 = .ok (.iconst 1, 1) := by decide +kernel
theorem d_Law_law_304 : decode code 304 = .ok (.iadd, 1) := by decide +kernel
theorem d_Law_law_305 : decode code 305 = .ok (.iaload, 1) := by decide +kernel
theorem d_Law_law_306 : decode code 306 = .ok (.aload_n 0, 1) := by decide +kernel
theorem d_Law_law_307 : decode code 307 = .ok (.iload 4, 2) := by decide +kernel
theorem d_Law_law_309 : decode code 309 = .ok (.iconst 2, 1) := by decide +kernel
theorem d_Law_law_310 : decode code 310 = .ok (.iadd, 1) := by decide +kernel
theorem d_Law_law_311 : decode code 311 = .ok (.iaload, 1) := by decide +kernel
theorem d_Law_law_312 : decode code 312 = .ok (.aload_n 3, 1) := by decide +kernel
theorem d_Law_law_313 : decode code 313 = .ok (.invokestatic 88, 3) := by decide +kernel
theorem d_Law_law_316 : decode code 316 = .ok (.istore 5, 2) := by decide +kernel
theorem d_Law_law_318 : decode code 318 = .ok (.aload_n 2, 1) := by decide +kernel
theorem d_Law_law_319 : decode code 319 = .ok (.aload_n 0, 1) := by decide +kernel
theorem d_Law_law_320 : decode code 320 = .ok (.iload 4, 2) := by decide +kernel
theorem d_Law_law_322 : decode code 322 = .ok (.iconst 1, 1) := by decide +kernel
theorem d_Law_law_323 : decode code 323 = .ok (.iadd, 1) := by decide +kernel
theorem d_Law_law_324 : decode code 324 = .ok (.iaload, 1) := by decide +kernel
theorem d_Law_law_325 : decode code 325 = .ok (.aload_n 0, 1) := by decide +kernel
theorem d_Law_law_326 : decode code 326 = .ok (.iload 4, 2) := by decide +kernel
theorem d_Law_law_328 : decode code 328 = .ok (.iconst 2, 1) := by decide +kernel
theorem d_Law_law_329 : decode code 329 = .ok (.iadd, 1) := by decide +kernel
theorem d_Law_law_330 : decode code 330 = .ok (.iaload, 1) := by decide +kernel
theorem d_Law_law_331 : decode code 331 = .ok (.invokevirtual 91, 3) := by decide +kernel
theorem d_Law_law_334 : decode code 334 = .ok (.istore 6, 2) := by decide +kernel
theorem d_Law_law_336 : decode code 336 = .ok (.aload_n 2, 1) := by decide +kernel
theorem d_Law_law_337 : decode code 337 = .ok (.invokevirtual 81, 3) := by decide +kernel
theorem d_Law_law_340 : decode code 340 = .ok (.iload 5, 2) := by decide +kernel
theorem d_Law_law_342 : decode code 342 = .ok (.if_icmp .eq 5, 3) := by decide +kernel
theorem d_Law_law_345 : decode code 345 = .ok (.iconst 0, 1) := by decide +kernel
theorem d_Law_law_346 : decode code 346 = .ok (.ireturn, 1) := by decide +kernel
theorem d_Law_law_347 : decode code 347 = .ok (.iload 5, 2) := by decide +kernel
theorem d_Law_law_349 : decode code 349 = .ok (.ifCond .ne 15, 3) := by decide +kernel
theorem d_Law_law_352 : decode code 352 = .ok (.aload_n 3, 1) := by decide +kernel
theorem d_Law_law_353 : decode code 353 = .ok (.iconst 0, 1) := by decide +kernel
theorem d_Law_law_354 : decode code 354 = .ok (.laload, 1) := by decide +kernel
theorem d_Law_law_355 : decode code 355 = .ok (.iload 6, 2) := by decide +kernel
theorem d_Law_law_357 : decode code 357 = .ok (.i2l, 1) := by decide +kernel
theorem d_Law_law_358 : decode code 358 = .ok (.lcmp, 1) := by decide +kernel
theorem d_Law_law_359 : decode code 359 = .ok (.ifCond .eq 5, 3) := by decide +kernel
theorem d_Law_law_362 : decode code 362 = .ok (.iconst 0, 1) := by decide +kernel
theorem d_Law_law_363 : decode code 363 = .ok (.ireturn, 1) := by decide +kernel
theorem d_Law_law_364 : decode code 364 = .ok (.goto 852, 3) := by decide +kernel
theorem d_Law_law_367 : decode code 367 = .ok (.aload_n 1, 1) := by decide +kernel
theorem d_Law_law_368 : decode code 368 = .ok (.aload_n 0, 1) := by decide +kernel
theorem d_Law_law_369 : decode code 369 = .ok (.iload 4, 2) := by decide +kernel
theorem d_Law_law_371 : decode code 371 = .ok (.iconst 1, 1) := by decide +kernel
theorem d_Law_law_372 : decode code 372 = .ok (.iadd, 1) := by decide +kernel
theorem d_Law_law_373 : decode code 373 = .ok (.iaload, 1) := by decide +kernel
theorem d_Law_law_374 : decode code 374 = .ok (.aload_n 0, 1) := by decide +kernel
theorem d_Law_law_375 : decode code 375 = .ok (.iload 4, 2) := by decide +kernel
theorem d_Law_law_377 : decode code 377 = .ok (.iconst 2, 1) := by decide +kernel
theorem d_Law_law_378 : decode code 378 = .ok (.iadd, 1) := by decide +kernel
theorem d_Law_law_379 : decode code 379 = .ok (.iaload, 1) := by decide +kernel
theorem d_Law_law_380 : decode code 380 = .ok (.aload_n 3, 1) := by decide +kernel
theorem d_Law_law_381 : decode code 381 = .ok (.invokestatic 92, 3) := by decide +kernel
theorem d_Law_law_384 : decode code 384 = .ok (.istore 5, 2) := by decide +kernel
theorem d_Law_law_386 : decode code 386 = .ok (.aload_n 2, 1) := by decide +kernel
theorem d_Law_law_387 : decode code 387 = .ok (.aload_n 0, 1) := by decide +kernel
theorem d_Law_law_388 : decode code 388 = .ok (.iload 4, 2) := by decide +kernel
theorem d_Law_law_390 : decode code 390 = .ok (.iconst 1, 1) := by decide +kernel
theorem d_Law_law_391 : decode code 391 = .ok (.iadd, 1) := by decide +kernel
theorem d_Law_law_392 : decode code 392 = .ok (.iaload, 1) := by decide +kernel
theorem d_Law_law_393 : decode code 393 = .ok (.aload_n 0, 1) := by decide +kernel
theorem d_Law_law_394 : decode code 394 = .ok (.iload 4, 2) := by decide +kernel
theorem d_Law_law_396 : decode code 396 = .ok (.iconst 2, 1) := by decide +kernel
theorem d_Law_law_397 : decode code 397 = .ok (.iadd, 1) := by decide +kernel
theorem d_Law_law_398 : decode code 398 = .ok (.iaload, 1) := by decide +kernel
theorem d_Law_law_399 : decode code 399 = .ok (.invokevirtual 94, 3) := by decide +kernel
theorem d_Law_law_402 : decode code 402 = .ok (.istore 6, 2) := by decide +kernel
theorem d_Law_law_404 : decode code 404 = .ok (.aload_n 2, 1) := by decide +kernel
theorem d_Law_law_405 : decode code 405 = .ok (.invokevirtual 81, 3) := by decide +kernel
theorem d_Law_law_408 : decode code 408 = .ok (.iload 5, 2) := by decide +kernel
theorem d_Law_law_410 : decode code 410 = .ok (.if_icmp .eq 5, 3) := by decide +kernel
theorem d_Law_law_413 : decode code 413 = .ok (.iconst 0, 1) := by decide +kernel
theorem d_Law_law_414 : decode code 414 = .ok (.ireturn, 1) := by decide +kernel
theorem d_Law_law_415 : decode code 415 = .ok (.iload 5, 2) := by decide +kernel
theorem d_Law_law_417 : decode code 417 = .ok (.ifCond .ne 15, 3) := by decide +kernel
theorem d_Law_law_420 : decode code 420 = .ok (.aload_n 3, 1) := by decide +kernel
theorem d_Law_law_421 : decode code 421 = .ok (.iconst 0, 1) := by decide +kernel
theorem d_Law_law_422 : decode code 422 = .ok (.laload, 1) := by decide +kernel
theorem d_Law_law_423 : decode code 423 = .ok (.iload 6, 2) := by decide +kernel
theorem d_Law_law_425 : decode code 425 = .ok (.i2l, 1) := by decide +kernel
theorem d_Law_law_426 : decode code 426 = .ok (.lcmp, 1) := by decide +kernel
theorem d_Law_law_427 : decode code 427 = .ok (.ifCond .eq 5, 3) := by decide +kernel
theorem d_Law_law_430 : decode code 430 = .ok (.iconst 0, 1) := by decide +kernel
theorem d_Law_law_431 : decode code 431 = .ok (.ireturn, 1) := by decide +kernel
theorem d_Law_law_432 : decode code 432 = .ok (.goto 784, 3) := by decide +kernel
theorem d_Law_law_435 : decode code 435 = .ok (.aload_n 1, 1) := by decide +kernel
theorem d_Law_law_436 : decode code 436 = .ok (.aload_n 0, 1) := by decide +kernel
theorem d_Law_law_437 : decode code 437 = .ok (.iload 4, 2) := by decide +kernel
theorem d_Law_law_439 : decode code 439 = .ok (.iconst 1, 1) := by decide +kernel
theorem d_Law_law_440 : decode code 440 = .ok (.iadd, 1) := by decide +kernel
theorem d_Law_law_441 : decode code 441 = .ok (.iaload, 1) := by decide +kernel
theorem d_Law_law_442 : decode code 442 = .ok (.aload_n 3, 1) := by decide +kernel
theorem d_Law_law_443 : decode code 443 = .ok (.invokestatic 95, 3) := by decide +kernel
theorem d_Law_law_446 : decode code 446 = .ok (.istore 5, 2) := by decide +kernel
theorem d_Law_law_448 : decode code 448 = .ok (.aload_n 2, 1) := by decide +kernel
theorem d_Law_law_449 : decode code 449 = .ok (.aload_n 0, 1) := by decide +kernel
theorem d_Law_law_450 : decode code 450 = .ok (.iload 4, 2) := by decide +kernel
theorem d_Law_law_452 : decode code 452 = .ok (.iconst 1, 1) := by decide +kernel
theorem d_Law_law_453 : decode code 453 = .ok (.iadd, 1) := by decide +kernel
theorem d_Law_law_454 : decode code 454 = .ok (.iaload, 1) := by decide +kernel
theorem d_Law_law_455 : decode code 455 = .ok (.invokevirtual 98, 3) := by decide +kernel
theorem d_Law_law_458 : decode code 458 = .ok (.istore 6, 2) := by decide +kernel
theorem d_Law_law_460 : decode code 460 = .ok (.aload_n 2, 1) := by decide +kernel
theorem d_Law_law_461 : decode code 461 = .ok (.invokevirtual 81, 3) := by decide +kernel
theorem d_Law_law_464 : decode code 464 = .ok (.iload 5, 2) := by decide +kernel
theorem d_Law_law_466 : decode code 466 = .ok (.if_icmp .eq 5, 3) := by decide +kernel
theorem d_Law_law_469 : decode code 469 = .ok (.iconst 0, 1) := by decide +kernel
theorem d_Law_law_470 : decode code 470 = .ok (.ireturn, 1) := by decide +kernel
theorem d_Law_law_471 : decode code 471 = .ok (.iload 5, 2) := by decide +kernel
theorem d_Law_law_473 : decode code 473 = .ok (.ifCond .ne 15, 3) := by decide +kernel
theorem d_Law_law_476 : decode code 476 = .ok (.aload_n 3, 1) := by decide +kernel
theorem d_Law_law_477 : decode code 477 = .ok (.iconst 0, 1) := by decide +kernel
theorem d_Law_law_478 : decode code 478 = .ok (.laload, 1) := by decide +kernel
theorem d_Law_law_479 : decode code 479 = .ok (.iload 6, 2) := by decide +kernel
theorem d_Law_law_481 : decode code 481 = .ok (.i2l, 1) := by decide +kernel
theorem d_Law_law_482 : decode code 482 = .ok (.lcmp, 1) := by decide +kernel
theorem d_Law_law_483 : decode code 483 = .ok (.ifCond .eq 5, 3) := by decide +kernel
theorem d_Law_law_486 : decode code 486 = .ok (.iconst 0, 1) := by decide +kernel
theorem d_Law_law_487 : decode code 487 = .ok (.ireturn, 1) := by decide +kernel
theorem d_Law_law_488 : decode code 488 = .ok (.goto 728, 3) := by decide +kernel
theorem d_Law_law_491 : decode code 491 = .ok (.aload_n 1, 1) := by decide +kernel
theorem d_Law_law_492 : decode code 492 = .ok (.invokevirtual 99, 3) := by decide +kernel
theorem d_Law_law_495 : decode code 495 = .ok (.aload_n 2, 1) := by decide +kernel
theorem d_Law_law_496 : decode code 496 = .ok (.invokevirtual 102, 3) := by decide +kernel
theorem d_Law_law_499 : decode code 499 = .ok (.if_icmp .eq 717, 3) := by decide +kernel
theorem d_Law_law_502 : decode code 502 = .ok (.iconst 0, 1) := by decide +kernel
theorem d_Law_law_503 : decode code 503 = .ok (.ireturn, 1) := by decide +kernel
theorem d_Law_law_504 : decode code 504 = .ok (.aload_n 1, 1) := by decide +kernel
theorem d_Law_law_505 : decode code 505 = .ok (.aload_n 0, 1) := by decide +kernel
theorem d_Law_law_506 : decode code 506 = .ok (.iload 4, 2) := by decide +kernel
theorem d_Law_law_508 : decode code 508 = .ok (.iconst 1, 1) := by decide +kernel
theorem d_Law_law_509 : decode code 509 = .ok (.iadd, 1) := by decide +kernel
theorem d_Law_law_510 : decode code 510 = .ok (.iaload, 1) := by decide +kernel
theorem d_Law_law_511 : decode code 511 = .ok (.aload_n 0, 1) := by decide +kernel
theorem d_Law_law_512 : decode code 512 = .ok (.iload 4, 2) := by decide +kernel
theorem d_Law_law_514 : decode code 514 = .ok (.iconst 2, 1) := by decide +kernel
theorem d_Law_law_515 : decode code 515 = .ok (.iadd, 1) := by decide +kernel
theorem d_Law_law_516 : decode code 516 = .ok (.iaload, 1) := by decide +kernel
theorem d_Law_law_517 : decode code 517 = .ok (.aload_n 3, 1) := by decide +kernel
theorem d_Law_law_518 : decode code 518 = .ok (.invokestatic 103, 3) := by decide +kernel
theorem d_Law_law_521 : decode code 521 = .ok (.istore 5, 2) := by decide +kernel
theorem d_Law_law_523 : decode code 523 = .ok (.aload_n 2, 1) := by decide +kernel
theorem d_Law_law_524 : decode code 524 = .ok (.aload_n 0, 1) := by decide +kernel
theorem d_Law_law_525 : decode code 525 = .ok (.iload 4, 2) := by decide +kernel
theorem d_Law_law_527 : decode code 527 = .ok (.iconst 1, 1) := by decide +kernel
theorem d_Law_law_528 : decode code 528 = .ok (.iadd, 1) := by decide +kernel
theorem d_Law_law_529 : decode code 529 = .ok (.iaload, 1) := by decide +kernel
theorem d_Law_law_530 : decode code 530 = .ok (.aload_n 0, 1) := by decide +kernel
theorem d_Law_law_531 : decode code 531 = .ok (.iload 4, 2) := by decide +kernel
theorem d_Law_law_533 : decode code 533 = .ok (.iconst 2, 1) := by decide +kernel
theorem d_Law_law_534 : decode code 534 = .ok (.iadd, 1) := by decide +kernel
theorem d_Law_law_535 : decode code 535 = .ok (.iaload, 1) := by decide +kernel
theorem d_Law_law_536 : decode code 536 = .ok (.invokevirtual 105, 3) := by decide +kernel
theorem d_Law_law_539 : decode code 539 = .ok (.istore 6, 2) := by decide +kernel
theorem d_Law_law_541 : decode code 541 = .ok (.aload_n 2, 1) := by decide +kernel
theorem d_Law_law_542 : decode code 542 = .ok (.invokevirtual 81, 3) := by decide +kernel
theorem d_Law_law_545 : decode code 545 = .ok (.iload 5, 2) := by decide +kernel
theorem d_Law_law_547 : decode code 547 = .ok (.if_icmp .eq 5, 3) := by decide +kernel
theorem d_Law_law_550 : decode code 550 = .ok (.iconst 0, 1) := by decide +kernel
theorem d_Law_law_551 : decode code 551 = .ok (.ireturn, 1) := by decide +kernel
theorem d_Law_law_552 : decode code 552 = .ok (.iload 5, 2) := by decide +kernel
theorem d_Law_law_554 : decode code 554 = .ok (.ifCond .ne 22, 3) := by decide +kernel
theorem d_Law_law_557 : decode code 557 = .ok (.aload_n 3, 1) := by decide +kernel
theorem d_Law_law_558 : decode code 558 = .ok (.iconst 0, 1) := by decide +kernel
theorem d_Law_law_559 : decode code 559 = .ok (.laload, 1) := by decide +kernel
theorem d_Law_law_560 : decode code 560 = .ok (.iload 6, 2) := by decide +kernel
theorem d_Law_law_562 : decode code 562 = .ok (.ifCond .eq 7, 3) := by decide +kernel
theorem d_Law_law_565 : decode code 565 = .ok (.lconst 1, 1) := by decide +kernel
theorem d_Law_law_566 : decode code 566 = .ok (.goto 4, 3) := by decide +kernel
theorem d_Law_law_569 : decode code 569 = .ok (.lconst 0, 1) := by decide +kernel
theorem d_Law_law_570 : decode code 570 = .ok (.lcmp, 1) := by decide +kernel
theorem d_Law_law_571 : decode code 571 = .ok (.ifCond .eq 5, 3) := by decide +kernel
theorem d_Law_law_574 : decode code 574 = .ok (.iconst 0, 1) := by decide +kernel
theorem d_Law_law_575 : decode code 575 = .ok (.ireturn, 1) := by decide +kernel
theorem d_Law_law_576 : decode code 576 = .ok (.goto 640, 3) := by decide +kernel
theorem d_Law_law_579 : decode code 579 = .ok (.aload_n 1, 1) := by decide +kernel
theorem d_Law_law_580 : decode code 580 = .ok (.aload_n 0, 1) := by decide +kernel
theorem d_Law_law_581 : decode code 581 = .ok (.iload 4, 2) := by decide +kernel
theorem d_Law_law_583 : decode code 583 = .ok (.iconst 1, 1) := by decide +kernel
theorem d_Law_law_584 : decode code 584 = .ok (.iadd, 1) := by decide +kernel
theorem d_Law_law_585 : decode code 585 = .ok (.iaload, 1) := by decide +kernel
theorem d_Law_law_586 : decode code 586 = .ok (.aload_n 0, 1) := by decide +kernel
theorem d_Law_law_587 : decode code 587 = .ok (.iload 4, 2) := by decide +kernel
theorem d_Law_law_589 : decode code 589 = .ok (.iconst 2, 1) := by decide +kernel
theorem d_Law_law_590 : decode code 590 = .ok (.iadd, 1) := by decide +kernel
theorem d_Law_law_591 : decode code 591 = .ok (.iaload, 1) := by decide +kernel
theorem d_Law_law_592 : decode code 592 = .ok (.aload_n 3, 1) := by decide +kernel
theorem d_Law_law_593 : decode code 593 = .ok (.invokestatic 106, 3) := by decide +kernel
theorem d_Law_law_596 : decode code 596 = .ok (.istore 5, 2) := by decide +kernel
theorem d_Law_law_598 : decode code 598 = .ok (.aload_n 2, 1) := by decide +kernel
theorem d_Law_law_599 : decode code 599 = .ok (.aload_n 0, 1) := by decide +kernel
theorem d_Law_law_600 : decode code 600 = .ok (.iload 4, 2) := by decide +kernel
theorem d_Law_law_602 : decode code 602 = .ok (.iconst 1, 1) := by decide +kernel
theorem d_Law_law_603 : decode code 603 = .ok (.iadd, 1) := by decide +kernel
theorem d_Law_law_604 : decode code 604 = .ok (.iaload, 1) := by decide +kernel
theorem d_Law_law_605 : decode code 605 = .ok (.aload_n 0, 1) := by decide +kernel
theorem d_Law_law_606 : decode code 606 = .ok (.iload 4, 2) := by decide +kernel
theorem d_Law_law_608 : decode code 608 = .ok (.iconst 2, 1) := by decide +kernel
theorem d_Law_law_609 : decode code 609 = .ok (.iadd, 1) := by decide +kernel
theorem d_Law_law_610 : decode code 610 = .ok (.iaload, 1) := by decide +kernel
theorem d_Law_law_611 : decode code 611 = .ok (.invokevirtual 108, 3) := by decide +kernel
theorem d_Law_law_614 : decode code 614 = .ok (.istore 6, 2) := by decide +kernel
theorem d_Law_law_616 : decode code 616 = .ok (.aload_n 2, 1) := by decide +kernel
theorem d_Law_law_617 : decode code 617 = .ok (.invokevirtual 81, 3) := by decide +kernel
theorem d_Law_law_620 : decode code 620 = .ok (.iload 5, 2) := by decide +kernel
theorem d_Law_law_622 : decode code 622 = .ok (.if_icmp .eq 5, 3) := by decide +kernel
theorem d_Law_law_625 : decode code 625 = .ok (.iconst 0, 1) := by decide +kernel
theorem d_Law_law_626 : decode code 626 = .ok (.ireturn, 1) := by decide +kernel
theorem d_Law_law_627 : decode code 627 = .ok (.iload 5, 2) := by decide +kernel
theorem d_Law_law_629 : decode code 629 = .ok (.ifCond .ne 15, 3) := by decide +kernel
theorem d_Law_law_632 : decode code 632 = .ok (.aload_n 3, 1) := by decide +kernel
theorem d_Law_law_633 : decode code 633 = .ok (.iconst 0, 1) := by decide +kernel
theorem d_Law_law_634 : decode code 634 = .ok (.laload, 1) := by decide +kernel
theorem d_Law_law_635 : decode code 635 = .ok (.iload 6, 2) := by decide +kernel
theorem d_Law_law_637 : decode code 637 = .ok (.i2l, 1) := by decide +kernel
theorem d_Law_law_638 : decode code 638 = .ok (.lcmp, 1) := by decide +kernel
theorem d_Law_law_639 : decode code 639 = .ok (.ifCond .eq 5, 3) := by decide +kernel
theorem d_Law_law_642 : decode code 642 = .ok (.iconst 0, 1) := by decide +kernel
theorem d_Law_law_643 : decode code 643 = .ok (.ireturn, 1) := by decide +kernel
theorem d_Law_law_644 : decode code 644 = .ok (.goto 572, 3) := by decide +kernel
theorem d_Law_law_647 : decode code 647 = .ok (.aload_n 1, 1) := by decide +kernel
theorem d_Law_law_648 : decode code 648 = .ok (.aload_n 0, 1) := by decide +kernel
theorem d_Law_law_649 : decode code 649 = .ok (.iload 4, 2) := by decide +kernel
theorem d_Law_law_651 : decode code 651 = .ok (.iconst 1, 1) := by decide +kernel
theorem d_Law_law_652 : decode code 652 = .ok (.iadd, 1) := by decide +kernel
theorem d_Law_law_653 : decode code 653 = .ok (.iaload, 1) := by decide +kernel
theorem d_Law_law_654 : decode code 654 = .ok (.aload_n 0, 1) := by decide +kernel
theorem d_Law_law_655 : decode code 655 = .ok (.iload 4, 2) := by decide +kernel
theorem d_Law_law_657 : decode code 657 = .ok (.iconst 2, 1) := by decide +kernel
theorem d_Law_law_658 : decode code 658 = .ok (.iadd, 1) := by decide +kernel
