theorem d_Mod_writes_0 : decode prog_12_method_77_code 0 = .ok (.aload_n 0, 1) := by decide +kernel
theorem d_Mod_writes_1 : decode prog_12_method_77_code 1 = .ok (.getfield 88, 3) := by decide +kernel
theorem d_Mod_writes_4 : decode prog_12_method_77_code 4 = .ok (.iload_n 1, 1) := by decide +kernel
theorem d_Mod_writes_5 : decode prog_12_method_77_code 5 = .ok (.iaload, 1) := by decide +kernel
theorem d_Mod_writes_6 : decode prog_12_method_77_code 6 = .ok (.tableswitch 359 0 7 #[46, 59, 87, 77, 123, 155, 254, 344], 46) := by decide +kernel
theorem d_Mod_writes_52 : decode prog_12_method_77_code 52 = .ok (.aload_n 0, 1) := by decide +kernel
theorem d_Mod_writes_53 : decode prog_12_method_77_code 53 = .ok (.aload_n 0, 1) := by decide +kernel
theorem d_Mod_writes_54 : decode prog_12_method_77_code 54 = .ok (.getfield 103, 3) := by decide +kernel
theorem d_Mod_writes_57 : decode prog_12_method_77_code 57 = .ok (.iload_n 1, 1) := by decide +kernel
theorem d_Mod_writes_58 : decode prog_12_method_77_code 58 = .ok (.iaload, 1) := by decide +kernel
theorem d_Mod_writes_59 : decode prog_12_method_77_code 59 = .ok (.invokevirtual 497, 3) := by decide +kernel
theorem d_Mod_writes_62 : decode prog_12_method_77_code 62 = .ok (.goto 325, 3) := by decide +kernel
theorem d_Mod_writes_65 : decode prog_12_method_77_code 65 = .ok (.aload_n 0, 1) := by decide +kernel
theorem d_Mod_writes_66 : decode prog_12_method_77_code 66 = .ok (.aload_n 0, 1) := by decide +kernel
theorem d_Mod_writes_67 : decode prog_12_method_77_code 67 = .ok (.getfield 116, 3) := by decide +kernel
theorem d_Mod_writes_70 : decode prog_12_method_77_code 70 = .ok (.aload_n 0, 1) := by decide +kernel
theorem d_Mod_writes_71 : decode prog_12_method_77_code 71 = .ok (.getfield 94, 3) := by decide +kernel
theorem d_Mod_writes_74 : decode prog_12_method_77_code 74 = .ok (.iload_n 1, 1) := by decide +kernel
theorem d_Mod_writes_75 : decode prog_12_method_77_code 75 = .ok (.iaload, 1) := by decide +kernel
theorem d_Mod_writes_76 : decode prog_12_method_77_code 76 = .ok (.iaload, 1) := by decide +kernel
theorem d_Mod_writes_77 : decode prog_12_method_77_code 77 = .ok (.invokevirtual 491, 3) := by decide +kernel
theorem d_Mod_writes_80 : decode prog_12_method_77_code 80 = .ok (.goto 307, 3) := by decide +kernel
theorem d_Mod_writes_83 : decode prog_12_method_77_code 83 = .ok (.aload_n 0, 1) := by decide +kernel
theorem d_Mod_writes_84 : decode prog_12_method_77_code 84 = .ok (.getstatic 75, 3) := by decide +kernel
theorem d_Mod_writes_87 : decode prog_12_method_77_code 87 = .ok (.invokevirtual 491, 3) := by decide +kernel
theorem d_Mod_writes_90 : decode prog_12_method_77_code 90 = .ok (.goto 297, 3) := by decide +kernel
theorem d_Mod_writes_93 : decode prog_12_method_77_code 93 = .ok (.iload_n 2, 1) := by decide +kernel
theorem d_Mod_writes_94 : decode prog_12_method_77_code 94 = .ok (.iconst 1, 1) := by decide +kernel
theorem d_Mod_writes_95 : decode prog_12_method_77_code 95 = .ok (.if_icmp .le 16, 3) := by decide +kernel
theorem d_Mod_writes_98 : decode prog_12_method_77_code 98 = .ok (.aload_n 0, 1) := by decide +kernel
theorem d_Mod_writes_99 : decode prog_12_method_77_code 99 = .ok (.aload_n 0, 1) := by decide +kernel
theorem d_Mod_writes_100 : decode prog_12_method_77_code 100 = .ok (.getfield 94, 3) := by decide +kernel
theorem d_Mod_writes_103 : decode prog_12_method_77_code 103 = .ok (.iload_n 1, 1) := by decide +kernel
theorem d_Mod_writes_104 : decode prog_12_method_77_code 104 = .ok (.iaload, 1) := by decide +kernel
theorem d_Mod_writes_105 : decode prog_12_method_77_code 105 = .ok (.invokevirtual 500, 3) := by decide +kernel
theorem d_Mod_writes_108 : decode prog_12_method_77_code 108 = .ok (.goto 279, 3) := by decide +kernel
theorem d_Mod_writes_111 : decode prog_12_method_77_code 111 = .ok (.aload_n 0, 1) := by decide +kernel
theorem d_Mod_writes_112 : decode prog_12_method_77_code 112 = .ok (.aload_n 0, 1) := by decide +kernel
theorem d_Mod_writes_113 : decode prog_12_method_77_code 113 = .ok (.getfield 212, 3) := by decide +kernel
theorem d_Mod_writes_116 : decode prog_12_method_77_code 116 = .ok (.aload_n 0, 1) := by decide +kernel
theorem d_Mod_writes_117 : decode prog_12_method_77_code 117 = .ok (.getfield 94, 3) := by decide +kernel
theorem d_Mod_writes_120 : decode prog_12_method_77_code 120 = .ok (.iload_n 1, 1) := by decide +kernel
theorem d_Mod_writes_121 : decode prog_12_method_77_code 121 = .ok (.iaload, 1) := by decide +kernel
theorem d_Mod_writes_122 : decode prog_12_method_77_code 122 = .ok (.iaload, 1) := by decide +kernel
theorem d_Mod_writes_123 : decode prog_12_method_77_code 123 = .ok (.invokevirtual 491, 3) := by decide +kernel
theorem d_Mod_writes_126 : decode prog_12_method_77_code 126 = .ok (.goto 261, 3) := by decide +kernel
theorem d_Mod_writes_129 : decode prog_12_method_77_code 129 = .ok (.iload_n 2, 1) := by decide +kernel
theorem d_Mod_writes_130 : decode prog_12_method_77_code 130 = .ok (.iconst 1, 1) := by decide +kernel
theorem d_Mod_writes_131 : decode prog_12_method_77_code 131 = .ok (.if_icmp .le 16, 3) := by decide +kernel
theorem d_Mod_writes_134 : decode prog_12_method_77_code 134 = .ok (.aload_n 0, 1) := by decide +kernel
theorem d_Mod_writes_135 : decode prog_12_method_77_code 135 = .ok (.aload_n 0, 1) := by decide +kernel
theorem d_Mod_writes_136 : decode prog_12_method_77_code 136 = .ok (.getfield 94, 3) := by decide +kernel
theorem d_Mod_writes_139 : decode prog_12_method_77_code 139 = .ok (.iload_n 1, 1) := by decide +kernel
theorem d_Mod_writes_140 : decode prog_12_method_77_code 140 = .ok (.iaload, 1) := by decide +kernel
theorem d_Mod_writes_141 : decode prog_12_method_77_code 141 = .ok (.invokevirtual 500, 3) := by decide +kernel
theorem d_Mod_writes_144 : decode prog_12_method_77_code 144 = .ok (.goto 243, 3) := by decide +kernel
theorem d_Mod_writes_147 : decode prog_12_method_77_code 147 = .ok (.aload_n 0, 1) := by decide +kernel
theorem d_Mod_writes_148 : decode prog_12_method_77_code 148 = .ok (.aload_n 0, 1) := by decide +kernel
theorem d_Mod_writes_149 : decode prog_12_method_77_code 149 = .ok (.getfield 94, 3) := by decide +kernel
theorem d_Mod_writes_152 : decode prog_12_method_77_code 152 = .ok (.iload_n 1, 1) := by decide +kernel
theorem d_Mod_writes_153 : decode prog_12_method_77_code 153 = .ok (.iaload, 1) := by decide +kernel
theorem d_Mod_writes_154 : decode prog_12_method_77_code 154 = .ok (.iload_n 2, 1) := by decide +kernel
theorem d_Mod_writes_155 : decode prog_12_method_77_code 155 = .ok (.invokevirtual 503, 3) := by decide +kernel
theorem d_Mod_writes_158 : decode prog_12_method_77_code 158 = .ok (.goto 229, 3) := by decide +kernel
theorem d_Mod_writes_161 : decode prog_12_method_77_code 161 = .ok (.aload_n 0, 1) := by decide +kernel
theorem d_Mod_writes_162 : decode prog_12_method_77_code 162 = .ok (.bipush 40, 2) := by decide +kernel
theorem d_Mod_writes_164 : decode prog_12_method_77_code 164 = .ok (.invokevirtual 494, 3) := by decide +kernel
theorem d_Mod_writes_167 : decode prog_12_method_77_code 167 = .ok (.aload_n 0, 1) := by decide +kernel
theorem d_Mod_writes_168 : decode prog_12_method_77_code 168 = .ok (.getstatic 60, 3) := by decide +kernel
theorem d_Mod_writes_171 : decode prog_12_method_77_code 171 = .ok (.invokevirtual 491, 3) := by decide +kernel
theorem d_Mod_writes_174 : decode prog_12_method_77_code 174 = .ok (.aload_n 0, 1) := by decide +kernel
theorem d_Mod_writes_175 : decode prog_12_method_77_code 175 = .ok (.bipush 32, 2) := by decide +kernel
theorem d_Mod_writes_177 : decode prog_12_method_77_code 177 = .ok (.invokevirtual 494, 3) := by decide +kernel
theorem d_Mod_writes_180 : decode prog_12_method_77_code 180 = .ok (.aload_n 0, 1) := by decide +kernel
theorem d_Mod_writes_181 : decode prog_12_method_77_code 181 = .ok (.aload_n 0, 1) := by decide +kernel
theorem d_Mod_writes_182 : decode prog_12_method_77_code 182 = .ok (.getfield 94, 3) := by decide +kernel
theorem d_Mod_writes_185 : decode prog_12_method_77_code 185 = .ok (.iload_n 1, 1) := by decide +kernel
theorem d_Mod_writes_186 : decode prog_12_method_77_code 186 = .ok (.iaload, 1) := by decide +kernel
theorem d_Mod_writes_187 : decode prog_12_method_77_code 187 = .ok (.iload_n 2, 1) := by decide +kernel
theorem d_Mod_writes_188 : decode prog_12_method_77_code 188 = .ok (.invokevirtual 506, 3) := by decide +kernel
theorem d_Mod_writes_191 : decode prog_12_method_77_code 191 = .ok (.aload_n 0, 1) := by decide +kernel
theorem d_Mod_writes_192 : decode prog_12_method_77_code 192 = .ok (.bipush 32, 2) := by decide +kernel
theorem d_Mod_writes_194 : decode prog_12_method_77_code 194 = .ok (.invokevirtual 494, 3) := by decide +kernel
theorem d_Mod_writes_197 : decode prog_12_method_77_code 197 = .ok (.aload_n 0, 1) := by decide +kernel
theorem d_Mod_writes_198 : decode prog_12_method_77_code 198 = .ok (.getstatic 63, 3) := by decide +kernel
theorem d_Mod_writes_201 : decode prog_12_method_77_code 201 = .ok (.invokevirtual 491, 3) := by decide +kernel
theorem d_Mod_writes_204 : decode prog_12_method_77_code 204 = .ok (.aload_n 0, 1) := by decide +kernel
theorem d_Mod_writes_205 : decode prog_12_method_77_code 205 = .ok (.bipush 32, 2) := by decide +kernel
theorem d_Mod_writes_207 : decode prog_12_method_77_code 207 = .ok (.invokevirtual 494, 3) := by decide +kernel
theorem d_Mod_writes_210 : decode prog_12_method_77_code 210 = .ok (.aload_n 0, 1) := by decide +kernel
theorem d_Mod_writes_211 : decode prog_12_method_77_code 211 = .ok (.aload_n 0, 1) := by decide +kernel
theorem d_Mod_writes_212 : decode prog_12_method_77_code 212 = .ok (.getfield 97, 3) := by decide +kernel
theorem d_Mod_writes_215 : decode prog_12_method_77_code 215 = .ok (.iload_n 1, 1) := by decide +kernel
theorem d_Mod_writes_216 : decode prog_12_method_77_code 216 = .ok (.iaload, 1) := by decide +kernel
theorem d_Mod_writes_217 : decode prog_12_method_77_code 217 = .ok (.iload_n 2, 1) := by decide +kernel
theorem d_Mod_writes_218 : decode prog_12_method_77_code 218 = .ok (.invokevirtual 506, 3) := by decide +kernel
theorem d_Mod_writes_221 : decode prog_12_method_77_code 221 = .ok (.aload_n 0, 1) := by decide +kernel
theorem d_Mod_writes_222 : decode prog_12_method_77_code 222 = .ok (.bipush 32, 2) := by decide +kernel
theorem d_Mod_writes_224 : decode prog_12_method_77_code 224 = .ok (.invokevirtual 494, 3) := by decide +kernel
theorem d_Mod_writes_227 : decode prog_12_method_77_code 227 = .ok (.aload_n 0, 1) := by decide +kernel
theorem d_Mod_writes_228 : decode prog_12_method_77_code 228 = .ok (.getstatic 66, 3) := by decide +kernel
theorem d_Mod_writes_231 : decode prog_12_method_77_code 231 = .ok (.invokevirtual 491, 3) := by decide +kernel
theorem d_Mod_writes_234 : decode prog_12_method_77_code 234 = .ok (.aload_n 0, 1) := by decide +kernel
theorem d_Mod_writes_235 : decode prog_12_method_77_code 235 = .ok (.bipush 32, 2) := by decide +kernel
theorem d_Mod_writes_237 : decode prog_12_method_77_code 237 = .ok (.invokevirtual 494, 3) := by decide +kernel
theorem d_Mod_writes_240 : decode prog_12_method_77_code 240 = .ok (.aload_n 0, 1) := by decide +kernel
theorem d_Mod_writes_241 : decode prog_12_method_77_code 241 = .ok (.aload_n 0, 1) := by decide +kernel
theorem d_Mod_writes_242 : decode prog_12_method_77_code 242 = .ok (.getfield 100, 3) := by decide +kernel
theorem d_Mod_writes_245 : decode prog_12_method_77_code 245 = .ok (.iload_n 1, 1) := by decide +kernel
theorem d_Mod_writes_246 : decode prog_12_method_77_code 246 = .ok (.iaload, 1) := by decide +kernel
theorem d_Mod_writes_247 : decode prog_12_method_77_code 247 = .ok (.iload_n 2, 1) := by decide +kernel
theorem d_Mod_writes_248 : decode prog_12_method_77_code 248 = .ok (.invokevirtual 506, 3) := by decide +kernel
theorem d_Mod_writes_251 : decode prog_12_method_77_code 251 = .ok (.aload_n 0, 1) := by decide +kernel
theorem d_Mod_writes_252 : decode prog_12_method_77_code 252 = .ok (.bipush 41, 2) := by decide +kernel
theorem d_Mod_writes_254 : decode prog_12_method_77_code 254 = .ok (.invokevirtual 494, 3) := by decide +kernel
theorem d_Mod_writes_257 : decode prog_12_method_77_code 257 = .ok (.goto 130, 3) := by decide +kernel
theorem d_Mod_writes_260 : decode prog_12_method_77_code 260 = .ok (.aload_n 0, 1) := by decide +kernel
theorem d_Mod_writes_261 : decode prog_12_method_77_code 261 = .ok (.bipush 40, 2) := by decide +kernel
theorem d_Mod_writes_263 : decode prog_12_method_77_code 263 = .ok (.invokevirtual 494, 3) := by decide +kernel
theorem d_Mod_writes_266 : decode prog_12_method_77_code 266 = .ok (.aload_n 0, 1) := by decide +kernel
theorem d_Mod_writes_267 : decode prog_12_method_77_code 267 = .ok (.getstatic 72, 3) := by decide +kernel
theorem d_Mod_writes_270 : decode prog_12_method_77_code 270 = .ok (.invokevirtual 491, 3) := by decide +kernel
theorem d_Mod_writes_273 : decode prog_12_method_77_code 273 = .ok (.aload_n 0, 1) := by decide +kernel
theorem d_Mod_writes_274 : decode prog_12_method_77_code 274 = .ok (.bipush 32, 2) := by decide +kernel
theorem d_Mod_writes_276 : decode prog_12_method_77_code 276 = .ok (.invokevirtual 494, 3) := by decide +kernel
theorem d_Mod_writes_279 : decode prog_12_method_77_code 279 = .ok (.aload_n 0, 1) := by decide +kernel
theorem d_Mod_writes_280 : decode prog_12_method_77_code 280 = .ok (.aload_n 0, 1) := by decide +kernel
theorem d_Mod_writes_281 : decode prog_12_method_77_code 281 = .ok (.getfield 116, 3) := by decide +kernel
theorem d_Mod_writes_284 : decode prog_12_method_77_code 284 = .ok (.aload_n 0, 1) := by decide +kernel
theorem d_Mod_writes_285 : decode prog_12_method_77_code 285 = .ok (.getfield 100, 3) := by decide +kernel
theorem d_Mod_writes_288 : decode prog_12_method_77_code 288 = .ok (.iload_n 1, 1) := by decide +kernel
theorem d_Mod_writes_289 : decode prog_12_method_77_code 289 = .ok (.iaload, 1) := by decide +kernel
theorem d_Mod_writes_290 : decode prog_12_method_77_code 290 = .ok (.iaload, 1) := by decide +kernel
theorem d_Mod_writes_291 : decode prog_12_method_77_code 291 = .ok (.invokevirtual 491, 3) := by decide +kernel
theorem d_Mod_writes_294 : decode prog_12_method_77_code 294 = .ok (.aload_n 0, 1) := by decide +kernel
theorem d_Mod_writes_295 : decode prog_12_method_77_code 295 = .ok (.bipush 61, 2) := by decide +kernel
theorem d_Mod_writes_297 : decode prog_12_method_77_code 297 = .ok (.invokevirtual 494, 3) := by decide +kernel
theorem d_Mod_writes_300 : decode prog_12_method_77_code 300 = .ok (.aload_n 0, 1) := by decide +kernel
theorem d_Mod_writes_301 : decode prog_12_method_77_code 301 = .ok (.aload_n 0, 1) := by decide +kernel
theorem d_Mod_writes_302 : decode prog_12_method_77_code 302 = .ok (.getfield 94, 3) := by decide +kernel
theorem d_Mod_writes_305 : decode prog_12_method_77_code 305 = .ok (.iload_n 1, 1) := by decide +kernel
theorem d_Mod_writes_306 : decode prog_12_method_77_code 306 = .ok (.iaload, 1) := by decide +kernel
theorem d_Mod_writes_307 : decode prog_12_method_77_code 307 = .ok (.iload_n 2, 1) := by decide +kernel
theorem d_Mod_writes_308 : decode prog_12_method_77_code 308 = .ok (.invokevirtual 506, 3) := by decide +kernel
theorem d_Mod_writes_311 : decode prog_12_method_77_code 311 = .ok (.aload_n 0, 1) := by decide +kernel
theorem d_Mod_writes_312 : decode prog_12_method_77_code 312 = .ok (.bipush 32, 2) := by decide +kernel
theorem d_Mod_writes_314 : decode prog_12_method_77_code 314 = .ok (.invokevirtual 494, 3) := by decide +kernel
theorem d_Mod_writes_317 : decode prog_12_method_77_code 317 = .ok (.aload_n 0, 1) := by decide +kernel
theorem d_Mod_writes_318 : decode prog_12_method_77_code 318 = .ok (.getstatic 69, 3) := by decide +kernel
theorem d_Mod_writes_321 : decode prog_12_method_77_code 321 = .ok (.invokevirtual 491, 3) := by decide +kernel
theorem d_Mod_writes_324 : decode prog_12_method_77_code 324 = .ok (.aload_n 0, 1) := by decide +kernel
theorem d_Mod_writes_325 : decode prog_12_method_77_code 325 = .ok (.bipush 32, 2) := by decide +kernel
theorem d_Mod_writes_327 : decode prog_12_method_77_code 327 = .ok (.invokevirtual 494, 3) := by decide +kernel
theorem d_Mod_writes_330 : decode prog_12_method_77_code 330 = .ok (.aload_n 0, 1) := by decide +kernel
theorem d_Mod_writes_331 : decode prog_12_method_77_code 331 = .ok (.aload_n 0, 1) := by decide +kernel
theorem d_Mod_writes_332 : decode prog_12_method_77_code 332 = .ok (.getfield 97, 3) := by decide +kernel
theorem d_Mod_writes_335 : decode prog_12_method_77_code 335 = .ok (.iload_n 1, 1) := by decide +kernel
theorem d_Mod_writes_336 : decode prog_12_method_77_code 336 = .ok (.iaload, 1) := by decide +kernel
theorem d_Mod_writes_337 : decode prog_12_method_77_code 337 = .ok (.iload_n 2, 1) := by decide +kernel
theorem d_Mod_writes_338 : decode prog_12_method_77_code 338 = .ok (.invokevirtual 506, 3) := by decide +kernel
theorem d_Mod_writes_341 : decode prog_12_method_77_code 341 = .ok (.aload_n 0, 1) := by decide +kernel
theorem d_Mod_writes_342 : decode prog_12_method_77_code 342 = .ok (.bipush 41, 2) := by decide +kernel
theorem d_Mod_writes_344 : decode prog_12_method_77_code 344 = .ok (.invokevirtual 494, 3) := by decide +kernel
theorem d_Mod_writes_347 : decode prog_12_method_77_code 347 = .ok (.goto 40, 3) := by decide +kernel
theorem d_Mod_writes_350 : decode prog_12_method_77_code 350 = .ok (.aload_n 0, 1) := by decide +kernel
theorem d_Mod_writes_351 : decode prog_12_method_77_code 351 = .ok (.iload_n 1, 1) := by decide +kernel
theorem d_Mod_writes_352 : decode prog_12_method_77_code 352 = .ok (.aload_n 0, 1) := by decide +kernel
theorem d_Mod_writes_353 : decode prog_12_method_77_code 353 = .ok (.getfield 103, 3) := by decide +kernel
theorem d_Mod_writes_356 : decode prog_12_method_77_code 356 = .ok (.iload_n 1, 1) := by decide +kernel
theorem d_Mod_writes_357 : decode prog_12_method_77_code 357 = .ok (.iaload, 1) := by decide +kernel
theorem d_Mod_writes_358 : decode prog_12_method_77_code 358 = .ok (.iload_n 2, 1) := by decide +kernel
theorem d_Mod_writes_359 : decode prog_12_method_77_code 359 = .ok (.invokevirtual 509, 3) := by decide +kernel
theorem d_Mod_writes_362 : decode prog_12_method_77_code 362 = .ok (.goto 25, 3) := by decide +kernel
theorem d_Mod_writes_365 : decode prog_12_method_77_code 365 = .ok (.iload_n 2, 1) := by decide +kernel
theorem d_Mod_writes_366 : decode prog_12_method_77_code 366 = .ok (.iconst 1, 1) := by decide +kernel
theorem d_Mod_writes_367 : decode prog_12_method_77_code 367 = .ok (.if_icmp .le 12, 3) := by decide +kernel
theorem d_Mod_writes_370 : decode prog_12_method_77_code 370 = .ok (.aload_n 0, 1) := by decide +kernel
theorem d_Mod_writes_371 : decode prog_12_method_77_code 371 = .ok (.iload_n 1, 1) := by decide +kernel
theorem d_Mod_writes_372 : decode prog_12_method_77_code 372 = .ok (.iload_n 2, 1) := by decide +kernel
theorem d_Mod_writes_373 : decode prog_12_method_77_code 373 = .ok (.invokevirtual 513, 3) := by decide +kernel
theorem d_Mod_writes_376 : decode prog_12_method_77_code 376 = .ok (.goto 11, 3) := by decide +kernel
theorem d_Mod_writes_379 : decode prog_12_method_77_code 379 = .ok (.aload_n 0, 1) := by decide +kernel
theorem d_Mod_writes_380 : decode prog_12_method_77_code 380 = .ok (.iload_n 1, 1) := by decide +kernel
theorem d_Mod_writes_381 : decode prog_12_method_77_code 381 = .ok (.bipush 32, 2) := by decide +kernel
theorem d_Mod_writes_383 : decode prog_12_method_77_code 383 = .ok (.iload_n 2, 1) := by decide +kernel
theorem d_Mod_writes_384 : decode prog_12_method_77_code 384 = .ok (.invokevirtual 509, 3) := by decide +kernel
theorem d_Mod_writes_387 : decode prog_12_method_77_code 387 = .ok (.return_, 1) := by decide +kernel
def fm_Mod_writes_b (rc_writesLambda : Int → Int → fa_W → Option fa_W) (rc_writes : Int → Int → fa_W → Option fa_W) (rc_writesTwo : Int → Int → Int → fa_W → Option fa_W) (rc_writesApply : Int → Int → fa_W → Option fa_W) (a1 : Int) (a2 : Int) (w : fa_W) : Option fa_W :=
  (fa_ix a1 101).bind fun j1 =>
  if fa_wr (w 184 j1) = 0 then
  ((fa_ix a1 101).bind fun j3 =>
  (fm_Mod_saysNumber 900 (w 188 j3) w).bind fun w5 =>
  some w5)
  else
  if fa_wr (w 184 j1) = 1 then
  ((fa_ix a1 101).bind fun j7 =>
  (fa_ix (w 185 j7) 124).bind fun j8 =>
  (fm_Mod_saysWord 900 (w 192 j8) w).bind fun w10 =>
  some w10)
  else
  if fa_wr (w 184 j1) = 2 then
  (if fa_wr a2 ≤ 1 then
  ((fa_ix a1 101).bind fun j13 =>
  (fa_ix (w 185 j13) 6).bind fun j14 =>
  (fm_Mod_saysWord 900 (w 190 j14) w).bind fun w16 =>
  some w16)
  else
  ((fa_ix a1 101).bind fun j17 =>
  (fm_Mod_writesData (w 185 j17) w).bind fun w19 =>
  some w19))
  else
  if fa_wr (w 184 j1) = 3 then
  ((fm_Mod_saysWord 900 82408 w).bind fun w22 =>
  some w22)
  else
  if fa_wr (w 184 j1) = 4 then
  (if fa_wr a2 ≤ 1 then
  ((fa_ix a1 101).bind fun j25 =>
  (rc_writesLambda (w 185 j25) a2 w).bind fun w27 =>
  some w27)
  else
  ((fa_ix a1 101).bind fun j28 =>
  (fm_Mod_writesData (w 185 j28) w).bind fun w30 =>
  some w30))
  else
  if fa_wr (w 184 j1) = 5 then
  ((fm_Mod_says 40 w).bind fun w33 =>
  (fm_Mod_saysWord 900 249 w33).bind fun w35 =>
  (fm_Mod_says 32 w35).bind fun w37 =>
  (fa_ix a1 101).bind fun j38 =>
  (rc_writes (w37 185 j38) a2 w37).bind fun w40 =>
  (fm_Mod_says 32 w40).bind fun w42 =>
  (fm_Mod_saysWord 900 399641 w42).bind fun w44 =>
  (fm_Mod_says 32 w44).bind fun w46 =>
  (fa_ix a1 101).bind fun j47 =>
  (rc_writes (w46 186 j47) a2 w46).bind fun w49 =>
  (fm_Mod_says 32 w49).bind fun w51 =>
  (fm_Mod_saysWord 900 107681 w51).bind fun w53 =>
  (fm_Mod_says 32 w53).bind fun w55 =>
  (fa_ix a1 101).bind fun j56 =>
  (rc_writes (w55 187 j56) a2 w55).bind fun w58 =>
  (fm_Mod_says 41 w58).bind fun w60 =>
  some w60)
  else
  if fa_wr (w 184 j1) = 6 then
  ((fm_Mod_says 40 w).bind fun w63 =>
  (fm_Mod_saysWord 900 8903 w63).bind fun w65 =>
  (fm_Mod_says 32 w65).bind fun w67 =>
  (fa_ix a1 101).bind fun j68 =>
  (fa_ix (w67 187 j68) 124).bind fun j69 =>
  (fm_Mod_saysWord 900 (w67 192 j69) w67).bind fun w71 =>
  (fm_Mod_says 61 w71).bind fun w73 =>
  (fa_ix a1 101).bind fun j74 =>
  (rc_writes (w73 185 j74) a2 w73).bind fun w76 =>
  (fm_Mod_says 32 w76).bind fun w78 =>
  (fm_Mod_saysWord 900 257 w78).bind fun w80 =>
  (fm_Mod_says 32 w80).bind fun w82 =>
  (fa_ix a1 101).bind fun j83 =>
  (rc_writes (w82 186 j83) a2 w82).bind fun w85 =>
  (fm_Mod_says 41 w85).bind fun w87 =>
  some w87)
  else
  if fa_wr (w 184 j1) = 7 then
  ((fa_ix a1 101).bind fun j89 =>
  (rc_writesTwo a1 (w 188 j89) a2 w).bind fun w91 =>
  some w91)
  else
  (if fa_wr a2 ≤ 1 then
  ((rc_writesTwo a1 32 a2 w).bind fun w94 =>
  some w94)
  else
  ((rc_writesApply a1 a2 w).bind fun w96 =>
  some w96))
set_option maxHeartbeats 4000000 in
set_option maxRecDepth 100000 in
theorem c_Mod_writes_b {l : Launch} {D : va_G} {b : Nat} {aC : Nat → ClassId} {H0 : Heap} {N T : Nat} (hN : fa_NM ≤ N) (hT : fa_TM ≤ T) (dd : Nat) (rc_writesLambda : Int → Int → fa_W → Option fa_W) (Rrc_writesLambda : ∀ (a1 : Int) (a2 : Int) (w : fa_W) (r : fa_W), rc_writesLambda a1 a2 w = some r → fa_MC l D b aC H0 N T y_Mod_writesLambda prog_12_method_80_code 3 ((Option.none : Option Jvm.ClassFile.FieldType)) (903 + dd) [.ref (b + 181), .int (fa_I a1), .int (fa_I a2)] w (none) r) (rc_writes : Int → Int → fa_W → Option fa_W) (Rrc_writes : ∀ (a1 : Int) (a2 : Int) (w : fa_W) (r : fa_W), rc_writes a1 a2 w = some r → fa_MC l D b aC H0 N T y_Mod_writes prog_12_method_77_code 3 ((Option.none : Option Jvm.ClassFile.FieldType)) (903 + dd) [.ref (b + 181), .int (fa_I a1), .int (fa_I a2)] w (none) r) (rc_writesTwo : Int → Int → Int → fa_W → Option fa_W) (Rrc_writesTwo : ∀ (a1 : Int) (a2 : Int) (a3 : Int) (w : fa_W) (r : fa_W), rc_writesTwo a1 a2 a3 w = some r → fa_MC l D b aC H0 N T y_Mod_writesTwo prog_12_method_78_code 4 ((Option.none : Option Jvm.ClassFile.FieldType)) (903 + dd) [.ref (b + 181), .int (fa_I a1), .int (fa_I a2), .int (fa_I a3)] w (none) r) (rc_writesApply : Int → Int → fa_W → Option fa_W) (Rrc_writesApply : ∀ (a1 : Int) (a2 : Int) (w : fa_W) (r : fa_W), rc_writesApply a1 a2 w = some r → fa_MC l D b aC H0 N T y_Mod_writesApply prog_12_method_82_code 6 ((Option.none : Option Jvm.ClassFile.FieldType)) (903 + dd) [.ref (b + 181), .int (fa_I a1), .int (fa_I a2)] w (none) r) (a1 : Int) (a2 : Int)  (w : fa_W) (r : fa_W) (hM : fm_Mod_writes_b rc_writesLambda rc_writes rc_writesTwo rc_writesApply a1 a2 w = some r) : fa_MC l D b aC H0 N T y_Mod_writes prog_12_method_77_code 3 ((Option.none : Option Jvm.ClassFile.FieldType)) (903 + dd + 1) [.ref (b + 181), .int (fa_I a1), .int (fa_I a2)] w (none) r := by
  refine fa_enter (lv := [(0, .ref (b + 181)), (1, .int (fa_I a1)), (2, .int (fa_I a2))]) (by decide +kernel) (Nat.le_of_ble_eq_true rfl) rfl (fun hh hle hnm X => ?_)
  unfold fm_Mod_writes_b at hM
  refine g_aload_n X 0 rfl d_Mod_writes_0 ?_
  refine g_get X ck_10 fo_181 (fn_181 hN) 4 (by decide) wd_1746 rfl (fr_181_4 rfl hT) d_Mod_writes_1 ?_
  refine g_iload_n X 1 rfl d_Mod_writes_4 ?_
  obtain ⟨j1, ej1, hM⟩ := fa_ob hM
  refine g_iald X fs_184 (fn_184 hN) ej1 d_Mod_writes_5 ?_
  by_cases hc2 : fa_wr (w 184 j1) = 0
  · have hM := fa_if_t hM hc2
    refine g_tableIn X 0 52 d_Mod_writes_6 hc2 (by decide) (by decide) rfl (by decide) ?_
    refine g_aload_n X 0 rfl d_Mod_writes_52 ?_
    refine g_aload_n X 0 rfl d_Mod_writes_53 ?_
    refine g_get X ck_10 fo_181 (fn_181 hN) 8 (by decide) wd_1750 rfl (fr_181_8 rfl hT) d_Mod_writes_54 ?_
    refine g_iload_n X 1 rfl d_Mod_writes_57 ?_
    obtain ⟨j3, ej3, hM⟩ := fa_ob hM
    refine g_iald X fs_188 (fn_188 hN) ej3 d_Mod_writes_58 ?_
    obtain ⟨w5, e4, hM⟩ := fa_ob hM
    refine g_callV_v X ck_10 fo_181 (fn_181 hN) rfl mi_Mod_saysNumber (c_Mod_saysNumber hN hT 900 (w 188 j3) w _ e4) wd_2065 rfl (by omega) (st := []) (Nat.le_of_ble_eq_true rfl) rfl d_Mod_writes_59 ?_
    refine g_goto X 387 d_Mod_writes_62 (by decide) ?_
    cases hM
    exact g_vret X d_Mod_writes_387
  have hM := fa_if_f hM hc2
  by_cases hc6 : fa_wr (w 184 j1) = 1
  · have hM := fa_if_t hM hc6
    refine g_tableIn X 1 65 d_Mod_writes_6 hc6 (by decide) (by decide) rfl (by decide) ?_
    refine g_aload_n X 0 rfl d_Mod_writes_65 ?_
    refine g_aload_n X 0 rfl d_Mod_writes_66 ?_
    refine g_get X ck_10 fo_181 (fn_181 hN) 12 (by decide) wd_1754 rfl (fr_181_12 rfl hT) d_Mod_writes_67 ?_
    refine g_aload_n X 0 rfl d_Mod_writes_70 ?_
    refine g_get X ck_10 fo_181 (fn_181 hN) 5 (by decide) wd_1747 rfl (fr_181_5 rfl hT) d_Mod_writes_71 ?_
    refine g_iload_n X 1 rfl d_Mod_writes_74 ?_
    obtain ⟨j7, ej7, hM⟩ := fa_ob hM
    refine g_iald X fs_185 (fn_185 hN) ej7 d_Mod_writes_75 ?_
    obtain ⟨j8, ej8, hM⟩ := fa_ob hM
    refine g_iald X fs_192 (fn_192 hN) ej8 d_Mod_writes_76 ?_
    obtain ⟨w10, e9, hM⟩ := fa_ob hM
    refine g_callV_v X ck_10 fo_181 (fn_181 hN) rfl mi_Mod_saysWord (c_Mod_saysWord hN hT 900 (w 192 j8) w _ e9) wd_2049 rfl (by omega) (st := []) (Nat.le_of_ble_eq_true rfl) rfl d_Mod_writes_77 ?_
    refine g_goto X 387 d_Mod_writes_80 (by decide) ?_
    cases hM
    exact g_vret X d_Mod_writes_387
  have hM := fa_if_f hM hc6
  by_cases hc11 : fa_wr (w 184 j1) = 2
  · have hM := fa_if_t hM hc11
    refine g_tableIn X 2 93 d_Mod_writes_6 hc11 (by decide) (by decide) rfl (by decide) ?_
    refine g_iload_n X 2 rfl d_Mod_writes_93 ?_
    refine g_iconst X d_Mod_writes_94 ?_
    refine g_icmp_le X 111 d_Mod_writes_95 (by decide) (fun hc12 => ?_) (fun hc12 => ?_)
    · have hM := fa_if_t hM hc12
      refine g_aload_n X 0 rfl d_Mod_writes_111 ?_
      refine g_aload_n X 0 rfl d_Mod_writes_112 ?_
      refine g_get X ck_10 fo_181 (fn_181 hN) 10 (by decide) wd_1752 rfl (fr_181_10 rfl hT) d_Mod_writes_113 ?_
      refine g_aload_n X 0 rfl d_Mod_writes_116 ?_
      refine g_get X ck_10 fo_181 (fn_181 hN) 5 (by decide) wd_1747 rfl (fr_181_5 rfl hT) d_Mod_writes_117 ?_
      refine g_iload_n X 1 rfl d_Mod_writes_120 ?_
      obtain ⟨j13, ej13, hM⟩ := fa_ob hM
      refine g_iald X fs_185 (fn_185 hN) ej13 d_Mod_writes_121 ?_
      obtain ⟨j14, ej14, hM⟩ := fa_ob hM
      refine g_iald X fs_190 (fn_190 hN) ej14 d_Mod_writes_122 ?_
      obtain ⟨w16, e15, hM⟩ := fa_ob hM
      refine g_callV_v X ck_10 fo_181 (fn_181 hN) rfl mi_Mod_saysWord (c_Mod_saysWord hN hT 900 (w 190 j14) w _ e15) wd_2049 rfl (by omega) (st := []) (Nat.le_of_ble_eq_true rfl) rfl d_Mod_writes_123 ?_
      refine g_goto X 387 d_Mod_writes_126 (by decide) ?_
      cases hM
      exact g_vret X d_Mod_writes_387
    · have hM := fa_if_f hM hc12
      refine g_aload_n X 0 rfl d_Mod_writes_98 ?_
      refine g_aload_n X 0 rfl d_Mod_writes_99 ?_
      refine g_get X ck_10 fo_181 (fn_181 hN) 5 (by decide) wd_1747 rfl (fr_181_5 rfl hT) d_Mod_writes_100 ?_
      refine g_iload_n X 1 rfl d_Mod_writes_103 ?_
      obtain ⟨j17, ej17, hM⟩ := fa_ob hM
      refine g_iald X fs_185 (fn_185 hN) ej17 d_Mod_writes_104 ?_
      obtain ⟨w19, e18, hM⟩ := fa_ob hM
      refine g_callV_v X ck_10 fo_181 (fn_181 hN) rfl mi_Mod_writesData (c_Mod_writesData hN hT (w 185 j17) w _ e18) wd_2069 rfl (by omega) (st := []) (Nat.le_of_ble_eq_true rfl) rfl d_Mod_writes_105 ?_
      refine g_goto X 387 d_Mod_writes_108 (by decide) ?_
      cases hM
      exact g_vret X d_Mod_writes_387
  have hM := fa_if_f hM hc11
  by_cases hc20 : fa_wr (w 184 j1) = 3
  · have hM := fa_if_t hM hc20
    refine g_tableIn X 3 83 d_Mod_writes_6 hc20 (by decide) (by decide) rfl (by decide) ?_
    refine g_aload_n X 0 rfl d_Mod_writes_83 ?_
    refine g_gets X (n := "DEADS") (v := 82408) (z := 82408) (by decide) wd_1546 rfl d_Mod_writes_84 ?_
    obtain ⟨w22, e21, hM⟩ := fa_ob hM
    refine g_callV_v X ck_10 fo_181 (fn_181 hN) rfl mi_Mod_saysWord (c_Mod_saysWord hN hT 900 82408 w _ e21) wd_2049 rfl (by omega) (st := []) (Nat.le_of_ble_eq_true rfl) rfl d_Mod_writes_87 ?_
    refine g_goto X 387 d_Mod_writes_90 (by decide) ?_
    cases hM
    exact g_vret X d_Mod_writes_387
  have hM := fa_if_f hM hc20
  by_cases hc23 : fa_wr (w 184 j1) = 4
  · have hM := fa_if_t hM hc23
    refine g_tableIn X 4 129 d_Mod_writes_6 hc23 (by decide) (by decide) rfl (by decide) ?_
    refine g_iload_n X 2 rfl d_Mod_writes_129 ?_
    refine g_iconst X d_Mod_writes_130 ?_
    refine g_icmp_le X 147 d_Mod_writes_131 (by decide) (fun hc24 => ?_) (fun hc24 => ?_)
    · have hM := fa_if_t hM hc24
      refine g_aload_n X 0 rfl d_Mod_writes_147 ?_
      refine g_aload_n X 0 rfl d_Mod_writes_148 ?_
      refine g_get X ck_10 fo_181 (fn_181 hN) 5 (by decide) wd_1747 rfl (fr_181_5 rfl hT) d_Mod_writes_149 ?_
      refine g_iload_n X 1 rfl d_Mod_writes_152 ?_
      obtain ⟨j25, ej25, hM⟩ := fa_ob hM
      refine g_iald X fs_185 (fn_185 hN) ej25 d_Mod_writes_153 ?_
      refine g_iload_n X 2 rfl d_Mod_writes_154 ?_
      obtain ⟨w27, e26, hM⟩ := fa_ob hM
      refine g_callV_v X ck_10 fo_181 (fn_181 hN) rfl mi_Mod_writesLambda (Rrc_writesLambda (w 185 j25) a2 w _ e26) wd_2073 rfl (by omega) (st := []) (Nat.le_of_ble_eq_true rfl) rfl d_Mod_writes_155 ?_
      refine g_goto X 387 d_Mod_writes_158 (by decide) ?_
      cases hM
      exact g_vret X d_Mod_writes_387
    · have hM := fa_if_f hM hc24
      refine g_aload_n X 0 rfl d_Mod_writes_134 ?_
      refine g_aload_n X 0 rfl d_Mod_writes_135 ?_
      refine g_get X ck_10 fo_181 (fn_181 hN) 5 (by decide) wd_1747 rfl (fr_181_5 rfl hT) d_Mod_writes_136 ?_
      refine g_iload_n X 1 rfl d_Mod_writes_139 ?_
      obtain ⟨j28, ej28, hM⟩ := fa_ob hM
      refine g_iald X fs_185 (fn_185 hN) ej28 d_Mod_writes_140 ?_
      obtain ⟨w30, e29, hM⟩ := fa_ob hM
      refine g_callV_v X ck_10 fo_181 (fn_181 hN) rfl mi_Mod_writesData (c_Mod_writesData hN hT (w 185 j28) w _ e29) wd_2069 rfl (by omega) (st := []) (Nat.le_of_ble_eq_true rfl) rfl d_Mod_writes_141 ?_
      refine g_goto X 387 d_Mod_writes_144 (by decide) ?_
      cases hM
      exact g_vret X d_Mod_writes_387
  have hM := fa_if_f hM hc23
  by_cases hc31 : fa_wr (w 184 j1) = 5
  · have hM := fa_if_t hM hc31
    refine g_tableIn X 5 161 d_Mod_writes_6 hc31 (by decide) (by decide) rfl (by decide) ?_
    refine g_aload_n X 0 rfl d_Mod_writes_161 ?_
    refine g_bipush X (by decide) d_Mod_writes_162 ?_
    obtain ⟨w33, e32, hM⟩ := fa_ob hM
    refine g_callV_v X ck_10 fo_181 (fn_181 hN) rfl mi_Mod_says (c_Mod_says hN hT 40 w _ e32) wd_2053 rfl (by omega) (st := []) (Nat.le_of_ble_eq_true rfl) rfl d_Mod_writes_164 ?_
    refine g_aload_n X 0 rfl d_Mod_writes_167 ?_
    refine g_gets X (n := "IFS") (v := 249) (z := 249) (by decide) wd_1536 rfl d_Mod_writes_168 ?_
    obtain ⟨w35, e34, hM⟩ := fa_ob hM
    refine g_callV_v X ck_10 fo_181 (fn_181 hN) rfl mi_Mod_saysWord (c_Mod_saysWord hN hT 900 249 w33 _ e34) wd_2049 rfl (by omega) (st := []) (Nat.le_of_ble_eq_true rfl) rfl d_Mod_writes_171 ?_
    refine g_aload_n X 0 rfl d_Mod_writes_174 ?_
    refine g_bipush X (by decide) d_Mod_writes_175 ?_
    obtain ⟨w37, e36, hM⟩ := fa_ob hM
    refine g_callV_v X ck_10 fo_181 (fn_181 hN) rfl mi_Mod_says (c_Mod_says hN hT 32 w35 _ e36) wd_2053 rfl (by omega) (st := []) (Nat.le_of_ble_eq_true rfl) rfl d_Mod_writes_177 ?_
    refine g_aload_n X 0 rfl d_Mod_writes_180 ?_
    refine g_aload_n X 0 rfl d_Mod_writes_181 ?_
    refine g_get X ck_10 fo_181 (fn_181 hN) 5 (by decide) wd_1747 rfl (fr_181_5 rfl hT) d_Mod_writes_182 ?_
    refine g_iload_n X 1 rfl d_Mod_writes_185 ?_
    obtain ⟨j38, ej38, hM⟩ := fa_ob hM
    refine g_iald X fs_185 (fn_185 hN) ej38 d_Mod_writes_186 ?_
    refine g_iload_n X 2 rfl d_Mod_writes_187 ?_
    obtain ⟨w40, e39, hM⟩ := fa_ob hM
    refine g_callV_v X ck_10 fo_181 (fn_181 hN) rfl mi_Mod_writes (Rrc_writes (w37 185 j38) a2 w37 _ e39) wd_2061 rfl (by omega) (st := []) (Nat.le_of_ble_eq_true rfl) rfl d_Mod_writes_188 ?_
    refine g_aload_n X 0 rfl d_Mod_writes_191 ?_
    refine g_bipush X (by decide) d_Mod_writes_192 ?_
    obtain ⟨w42, e41, hM⟩ := fa_ob hM
    refine g_callV_v X ck_10 fo_181 (fn_181 hN) rfl mi_Mod_says (c_Mod_says hN hT 32 w40 _ e41) wd_2053 rfl (by omega) (st := []) (Nat.le_of_ble_eq_true rfl) rfl d_Mod_writes_194 ?_
    refine g_aload_n X 0 rfl d_Mod_writes_197 ?_
    refine g_gets X (n := "THEN") (v := 399641) (z := 399641) (by decide) wd_1538 rfl d_Mod_writes_198 ?_
    obtain ⟨w44, e43, hM⟩ := fa_ob hM
    refine g_callV_v X ck_10 fo_181 (fn_181 hN) rfl mi_Mod_saysWord (c_Mod_saysWord hN hT 900 399641 w42 _ e43) wd_2049 rfl (by omega) (st := []) (Nat.le_of_ble_eq_true rfl) rfl d_Mod_writes_201 ?_
    refine g_aload_n X 0 rfl d_Mod_writes_204 ?_
    refine g_bipush X (by decide) d_Mod_writes_205 ?_
    obtain ⟨w46, e45, hM⟩ := fa_ob hM
    refine g_callV_v X ck_10 fo_181 (fn_181 hN) rfl mi_Mod_says (c_Mod_says hN hT 32 w44 _ e45) wd_2053 rfl (by omega) (st := []) (Nat.le_of_ble_eq_true rfl) rfl d_Mod_writes_207 ?_
    refine g_aload_n X 0 rfl d_Mod_writes_210 ?_
    refine g_aload_n X 0 rfl d_Mod_writes_211 ?_
    refine g_get X ck_10 fo_181 (fn_181 hN) 6 (by decide) wd_1748 rfl (fr_181_6 rfl hT) d_Mod_writes_212 ?_
    refine g_iload_n X 1 rfl d_Mod_writes_215 ?_
    obtain ⟨j47, ej47, hM⟩ := fa_ob hM
    refine g_iald X fs_186 (fn_186 hN) ej47 d_Mod_writes_216 ?_
    refine g_iload_n X 2 rfl d_Mod_writes_217 ?_
    obtain ⟨w49, e48, hM⟩ := fa_ob hM
    refine g_callV_v X ck_10 fo_181 (fn_181 hN) rfl mi_Mod_writes (Rrc_writes (w46 186 j47) a2 w46 _ e48) wd_2061 rfl (by omega) (st := []) (Nat.le_of_ble_eq_true rfl) rfl d_Mod_writes_218 ?_
    refine g_aload_n X 0 rfl d_Mod_writes_221 ?_
    refine g_bipush X (by decide) d_Mod_writes_222 ?_
    obtain ⟨w51, e50, hM⟩ := fa_ob hM
    refine g_callV_v X ck_10 fo_181 (fn_181 hN) rfl mi_Mod_says (c_Mod_says hN hT 32 w49 _ e50) wd_2053 rfl (by omega) (st := []) (Nat.le_of_ble_eq_true rfl) rfl d_Mod_writes_224 ?_
    refine g_aload_n X 0 rfl d_Mod_writes_227 ?_
    refine g_gets X (n := "ELSE") (v := 107681) (z := 107681) (by decide) wd_1540 rfl d_Mod_writes_228 ?_
    obtain ⟨w53, e52, hM⟩ := fa_ob hM
    refine g_callV_v X ck_10 fo_181 (fn_181 hN) rfl mi_Mod_saysWord (c_Mod_saysWord hN hT 900 107681 w51 _ e52) wd_2049 rfl (by omega) (st := []) (Nat.le_of_ble_eq_true rfl) rfl d_Mod_writes_231 ?_
    refine g_aload_n X 0 rfl d_Mod_writes_234 ?_
    refine g_bipush X (by decide) d_Mod_writes_235 ?_
    obtain ⟨w55, e54, hM⟩ := fa_ob hM
    refine g_callV_v X ck_10 fo_181 (fn_181 hN) rfl mi_Mod_says (c_Mod_says hN hT 32 w53 _ e54) wd_2053 rfl (by omega) (st := []) (Nat.le_of_ble_eq_true rfl) rfl d_Mod_writes_237 ?_
    refine g_aload_n X 0 rfl d_Mod_writes_240 ?_
    refine g_aload_n X 0 rfl d_Mod_writes_241 ?_
    refine g_get X ck_10 fo_181 (fn_181 hN) 7 (by decide) wd_1749 rfl (fr_181_7 rfl hT) d_Mod_writes_242 ?_
    refine g_iload_n X 1 rfl d_Mod_writes_245 ?_
    obtain ⟨j56, ej56, hM⟩ := fa_ob hM
    refine g_iald X fs_187 (fn_187 hN) ej56 d_Mod_writes_246 ?_
    refine g_iload_n X 2 rfl d_Mod_writes_247 ?_
    obtain ⟨w58, e57, hM⟩ := fa_ob hM
    refine g_callV_v X ck_10 fo_181 (fn_181 hN) rfl mi_Mod_writes (Rrc_writes (w55 187 j56) a2 w55 _ e57) wd_2061 rfl (by omega) (st := []) (Nat.le_of_ble_eq_true rfl) rfl d_Mod_writes_248 ?_
    refine g_aload_n X 0 rfl d_Mod_writes_251 ?_
    refine g_bipush X (by decide) d_Mod_writes_252 ?_
    obtain ⟨w60, e59, hM⟩ := fa_ob hM
    refine g_callV_v X ck_10 fo_181 (fn_181 hN) rfl mi_Mod_says (c_Mod_says hN hT 41 w58 _ e59) wd_2053 rfl (by omega) (st := []) (Nat.le_of_ble_eq_true rfl) rfl d_Mod_writes_254 ?_
    refine g_goto X 387 d_Mod_writes_257 (by decide) ?_
    cases hM
    exact g_vret X d_Mod_writes_387
  have hM := fa_if_f hM hc31
  by_cases hc61 : fa_wr (w 184 j1) = 6
  · have hM := fa_if_t hM hc61
    refine g_tableIn X 6 260 d_Mod_writes_6 hc61 (by decide) (by decide) rfl (by decide) ?_
    refine g_aload_n X 0 rfl d_Mod_writes_260 ?_
    refine g_bipush X (by decide) d_Mod_writes_261 ?_
    obtain ⟨w63, e62, hM⟩ := fa_ob hM
    refine g_callV_v X ck_10 fo_181 (fn_181 hN) rfl mi_Mod_says (c_Mod_says hN hT 40 w _ e62) wd_2053 rfl (by omega) (st := []) (Nat.le_of_ble_eq_true rfl) rfl d_Mod_writes_263 ?_
    refine g_aload_n X 0 rfl d_Mod_writes_266 ?_
    refine g_gets X (n := "LET_WORD") (v := 8903) (z := 8903) (by decide) wd_1544 rfl d_Mod_writes_267 ?_
    obtain ⟨w65, e64, hM⟩ := fa_ob hM
    refine g_callV_v X ck_10 fo_181 (fn_181 hN) rfl mi_Mod_saysWord (c_Mod_saysWord hN hT 900 8903 w63 _ e64) wd_2049 rfl (by omega) (st := []) (Nat.le_of_ble_eq_true rfl) rfl d_Mod_writes_270 ?_
    refine g_aload_n X 0 rfl d_Mod_writes_273 ?_
    refine g_bipush X (by decide) d_Mod_writes_274 ?_
    obtain ⟨w67, e66, hM⟩ := fa_ob hM
    refine g_callV_v X ck_10 fo_181 (fn_181 hN) rfl mi_Mod_says (c_Mod_says hN hT 32 w65 _ e66) wd_2053 rfl (by omega) (st := []) (Nat.le_of_ble_eq_true rfl) rfl d_Mod_writes_276 ?_
    refine g_aload_n X 0 rfl d_Mod_writes_279 ?_
    refine g_aload_n X 0 rfl d_Mod_writes_280 ?_
    refine g_get X ck_10 fo_181 (fn_181 hN) 12 (by decide) wd_1754 rfl (fr_181_12 rfl hT) d_Mod_writes_281 ?_
    refine g_aload_n X 0 rfl d_Mod_writes_284 ?_
    refine g_get X ck_10 fo_181 (fn_181 hN) 7 (by decide) wd_1749 rfl (fr_181_7 rfl hT) d_Mod_writes_285 ?_
    refine g_iload_n X 1 rfl d_Mod_writes_288 ?_
    obtain ⟨j68, ej68, hM⟩ := fa_ob hM
    refine g_iald X fs_187 (fn_187 hN) ej68 d_Mod_writes_289 ?_
    obtain ⟨j69, ej69, hM⟩ := fa_ob hM
    refine g_iald X fs_192 (fn_192 hN) ej69 d_Mod_writes_290 ?_
    obtain ⟨w71, e70, hM⟩ := fa_ob hM
    refine g_callV_v X ck_10 fo_181 (fn_181 hN) rfl mi_Mod_saysWord (c_Mod_saysWord hN hT 900 (w67 192 j69) w67 _ e70) wd_2049 rfl (by omega) (st := []) (Nat.le_of_ble_eq_true rfl) rfl d_Mod_writes_291 ?_
    refine g_aload_n X 0 rfl d_Mod_writes_294 ?_
    refine g_bipush X (by decide) d_Mod_writes_295 ?_
    obtain ⟨w73, e72, hM⟩ := fa_ob hM
    refine g_callV_v X ck_10 fo_181 (fn_181 hN) rfl mi_Mod_says (c_Mod_says hN hT 61 w71 _ e72) wd_2053 rfl (by omega) (st := []) (Nat.le_of_ble_eq_true rfl) rfl d_Mod_writes_297 ?_
    refine g_aload_n X 0 rfl d_Mod_writes_300 ?_
    refine g_aload_n X 0 rfl d_Mod_writes_301 ?_
    refine g_get X ck_10 fo_181 (fn_181 hN) 5 (by decide) wd_1747 rfl (fr_181_5 rfl hT) d_Mod_writes_302 ?_
    refine g_iload_n X 1 rfl d_Mod_writes_305 ?_
    obtain ⟨j74, ej74, hM⟩ := fa_ob hM
    refine g_iald X fs_185 (fn_185 hN) ej74 d_Mod_writes_306 ?_
    refine g_iload_n X 2 rfl d_Mod_writes_307 ?_
    obtain ⟨w76, e75, hM⟩ := fa_ob hM
    refine g_callV_v X ck_10 fo_181 (fn_181 hN) rfl mi_Mod_writes (Rrc_writes (w73 185 j74) a2 w73 _ e75) wd_2061 rfl (by omega) (st := []) (Nat.le_of_ble_eq_true rfl) rfl d_Mod_writes_308 ?_
    refine g_aload_n X 0 rfl d_Mod_writes_311 ?_
    refine g_bipush X (by decide) d_Mod_writes_312 ?_
    obtain ⟨w78, e77, hM⟩ := fa_ob hM
    refine g_callV_v X ck_10 fo_181 (fn_181 hN) rfl mi_Mod_says (c_Mod_says hN hT 32 w76 _ e77) wd_2053 rfl (by omega) (st := []) (Nat.le_of_ble_eq_true rfl) rfl d_Mod_writes_314 ?_
    refine g_aload_n X 0 rfl d_Mod_writes_317 ?_
    refine g_gets X (n := "LETS_IN") (v := 257) (z := 257) (by decide) wd_1542 rfl d_Mod_writes_318 ?_
    obtain ⟨w80, e79, hM⟩ := fa_ob hM
    refine g_callV_v X ck_10 fo_181 (fn_181 hN) rfl mi_Mod_saysWord (c_Mod_saysWord hN hT 900 257 w78 _ e79) wd_2049 rfl (by omega) (st := []) (Nat.le_of_ble_eq_true rfl) rfl d_Mod_writes_321 ?_
    refine g_aload_n X 0 rfl d_Mod_writes_324 ?_
    refine g_bipush X (by decide) d_Mod_writes_325 ?_
    obtain ⟨w82, e81, hM⟩ := fa_ob hM
    refine g_callV_v X ck_10 fo_181 (fn_181 hN) rfl mi_Mod_says (c_Mod_says hN hT 32 w80 _ e81) wd_2053 rfl (by omega) (st := []) (Nat.le_of_ble_eq_true rfl) rfl d_Mod_writes_327 ?_
    refine g_aload_n X 0 rfl d_Mod_writes_330 ?_
    refine g_aload_n X 0 rfl d_Mod_writes_331 ?_
    refine g_get X ck_10 fo_181 (fn_181 hN) 6 (by decide) wd_1748 rfl (fr_181_6 rfl hT) d_Mod_writes_332 ?_
    refine g_iload_n X 1 rfl d_Mod_writes_335 ?_
    obtain ⟨j83, ej83, hM⟩ := fa_ob hM
    refine g_iald X fs_186 (fn_186 hN) ej83 d_Mod_writes_336 ?_
    refine g_iload_n X 2 rfl d_Mod_writes_337 ?_
    obtain ⟨w85, e84, hM⟩ := fa_ob hM
    refine g_callV_v X ck_10 fo_181 (fn_181 hN) rfl mi_Mod_writes (Rrc_writes (w82 186 j83) a2 w82 _ e84) wd_2061 rfl (by omega) (st := []) (Nat.le_of_ble_eq_true rfl) rfl d_Mod_writes_338 ?_
    refine g_aload_n X 0 rfl d_Mod_writes_341 ?_
    refine g_bipush X (by decide) d_Mod_writes_342 ?_
    obtain ⟨w87, e86, hM⟩ := fa_ob hM
    refine g_callV_v X ck_10 fo_181 (fn_181 hN) rfl mi_Mod_says (c_Mod_says hN hT 41 w85 _ e86) wd_2053 rfl (by omega) (st := []) (Nat.le_of_ble_eq_true rfl) rfl d_Mod_writes_344 ?_
    refine g_goto X 387 d_Mod_writes_347 (by decide) ?_
    cases hM
    exact g_vret X d_Mod_writes_387
  have hM := fa_if_f hM hc61
  by_cases hc88 : fa_wr (w 184 j1) = 7
  · have hM := fa_if_t hM hc88
    refine g_tableIn X 7 350 d_Mod_writes_6 hc88 (by decide) (by decide) rfl (by decide) ?_
    refine g_aload_n X 0 rfl d_Mod_writes_350 ?_
    refine g_iload_n X 1 rfl d_Mod_writes_351 ?_
    refine g_aload_n X 0 rfl d_Mod_writes_352 ?_
    refine g_get X ck_10 fo_181 (fn_181 hN) 8 (by decide) wd_1750 rfl (fr_181_8 rfl hT) d_Mod_writes_353 ?_
    refine g_iload_n X 1 rfl d_Mod_writes_356 ?_
    obtain ⟨j89, ej89, hM⟩ := fa_ob hM
    refine g_iald X fs_188 (fn_188 hN) ej89 d_Mod_writes_357 ?_
    refine g_iload_n X 2 rfl d_Mod_writes_358 ?_
    obtain ⟨w91, e90, hM⟩ := fa_ob hM
    refine g_callV_v X ck_10 fo_181 (fn_181 hN) rfl mi_Mod_writesTwo (Rrc_writesTwo a1 (w 188 j89) a2 w _ e90) wd_2077 rfl (by omega) (st := []) (Nat.le_of_ble_eq_true rfl) rfl d_Mod_writes_359 ?_
    refine g_goto X 387 d_Mod_writes_362 (by decide) ?_
    cases hM
    exact g_vret X d_Mod_writes_387
  have hM := fa_if_f hM hc88
  refine g_tableDef X 365 d_Mod_writes_6 (by
    exact Or.inl (by omega)) (by decide) ?_
  refine g_iload_n X 2 rfl d_Mod_writes_365 ?_
  refine g_iconst X d_Mod_writes_366 ?_
  refine g_icmp_le X 379 d_Mod_writes_367 (by decide) (fun hc92 => ?_) (fun hc92 => ?_)
  · have hM := fa_if_t hM hc92
    refine g_aload_n X 0 rfl d_Mod_writes_379 ?_
    refine g_iload_n X 1 rfl d_Mod_writes_380 ?_
    refine g_bipush X (by decide) d_Mod_writes_381 ?_
    refine g_iload_n X 2 rfl d_Mod_writes_383 ?_
    obtain ⟨w94, e93, hM⟩ := fa_ob hM
    refine g_callV_v X ck_10 fo_181 (fn_181 hN) rfl mi_Mod_writesTwo (Rrc_writesTwo a1 32 a2 w _ e93) wd_2077 rfl (by omega) (st := []) (Nat.le_of_ble_eq_true rfl) rfl d_Mod_writes_384 ?_
    cases hM
    exact g_vret X d_Mod_writes_387
  · have hM := fa_if_f hM hc92
    refine g_aload_n X 0 rfl d_Mod_writes_370 ?_
    refine g_iload_n X 1 rfl d_Mod_writes_371 ?_
    refine g_iload_n X 2 rfl d_Mod_writes_372 ?_
    obtain ⟨w96, e95, hM⟩ := fa_ob hM
    refine g_callV_v X ck_10 fo_181 (fn_181 hN) rfl mi_Mod_writesApply (Rrc_writesApply a1 a2 w _ e95) wd_2081 rfl (by omega) (st := []) (Nat.le_of_ble_eq_true rfl) rfl d_Mod_writes_373 ?_
    refine g_goto X 387 d_Mod_writes_376 (by decide) ?_
    cases hM
    exact g_vret X d_Mod_writes_387
theorem d_Mod_writesTwo_0 : decode prog_12_method_78_code 0 = .ok (.aload_n 0, 1) := by decide +kernel
theorem d_Mod_writesTwo_1 : decode prog_12_method_78_code 1 = .ok (.bipush 40, 2) := by decide +kernel
theorem d_Mod_writesTwo_3 : decode prog_12_method_78_code 3 = .ok (.invokevirtual 494, 3) := by decide +kernel
theorem d_Mod_writesTwo_6 : decode prog_12_method_78_code 6 = .ok (.aload_n 0, 1) := by decide +kernel
theorem d_Mod_writesTwo_7 : decode prog_12_method_78_code 7 = .ok (.aload_n 0, 1) := by decide +kernel
theorem d_Mod_writesTwo_8 : decode prog_12_method_78_code 8 = .ok (.getfield 94, 3) := by decide +kernel
theorem d_Mod_writesTwo_11 : decode prog_12_method_78_code 11 = .ok (.iload_n 1, 1) := by decide +kernel
theorem d_Mod_writesTwo_12 : decode prog_12_method_78_code 12 = .ok (.iaload, 1) := by decide +kernel
theorem d_Mod_writesTwo_13 : decode prog_12_method_78_code 13 = .ok (.iload_n 3, 1) := by decide +kernel
theorem d_Mod_writesTwo_14 : decode prog_12_method_78_code 14 = .ok (.invokevirtual 506, 3) := by decide +kernel
theorem d_Mod_writesTwo_17 : decode prog_12_method_78_code 17 = .ok (.aload_n 0, 1) := by decide +kernel
theorem d_Mod_writesTwo_18 : decode prog_12_method_78_code 18 = .ok (.iload_n 2, 1) := by decide +kernel
theorem d_Mod_writesTwo_19 : decode prog_12_method_78_code 19 = .ok (.invokevirtual 494, 3) := by decide +kernel
theorem d_Mod_writesTwo_22 : decode prog_12_method_78_code 22 = .ok (.aload_n 0, 1) := by decide +kernel
theorem d_Mod_writesTwo_23 : decode prog_12_method_78_code 23 = .ok (.aload_n 0, 1) := by decide +kernel
theorem d_Mod_writesTwo_24 : decode prog_12_method_78_code 24 = .ok (.getfield 97, 3) := by decide +kernel
theorem d_Mod_writesTwo_27 : decode prog_12_method_78_code 27 = .ok (.iload_n 1, 1) := by decide +kernel
theorem d_Mod_writesTwo_28 : decode prog_12_method_78_code 28 = .ok (.iaload, 1) := by decide +kernel
theorem d_Mod_writesTwo_29 : decode prog_12_method_78_code 29 = .ok (.iload_n 3, 1) := by decide +kernel
theorem d_Mod_writesTwo_30 : decode prog_12_method_78_code 30 = .ok (.invokevirtual 506, 3) := by decide +kernel
theorem d_Mod_writesTwo_33 : decode prog_12_method_78_code 33 = .ok (.aload_n 0, 1) := by decide +kernel
theorem d_Mod_writesTwo_34 : decode prog_12_method_78_code 34 = .ok (.bipush 41, 2) := by decide +kernel
theorem d_Mod_writesTwo_36 : decode prog_12_method_78_code 36 = .ok (.invokevirtual 494, 3) := by decide +kernel
theorem d_Mod_writesTwo_39 : decode prog_12_method_78_code 39 = .ok (.return_, 1) := by decide +kernel
def fm_Mod_writesTwo_b (rc_writes : Int → Int → fa_W → Option fa_W) (a1 : Int) (a2 : Int) (a3 : Int) (w : fa_W) : Option fa_W :=
  (fm_Mod_says 40 w).bind fun w2 =>
  (fa_ix a1 101).bind fun j3 =>
  (rc_writes (w2 185 j3) a3 w2).bind fun w5 =>
  (fm_Mod_says a2 w5).bind fun w7 =>
  (fa_ix a1 101).bind fun j8 =>
  (rc_writes (w7 186 j8) a3 w7).bind fun w10 =>
  (fm_Mod_says 41 w10).bind fun w12 =>
  some w12
set_option maxHeartbeats 4000000 in
set_option maxRecDepth 100000 in
theorem c_Mod_writesTwo_b {l : Launch} {D : va_G} {b : Nat} {aC : Nat → ClassId} {H0 : Heap} {N T : Nat} (hN : fa_NM ≤ N) (hT : fa_TM ≤ T) (dd : Nat) (rc_writes : Int → Int → fa_W → Option fa_W) (Rrc_writes : ∀ (a1 : Int) (a2 : Int) (w : fa_W) (r : fa_W), rc_writes a1 a2 w = some r → fa_MC l D b aC H0 N T y_Mod_writes prog_12_method_77_code 3 ((Option.none : Option Jvm.ClassFile.FieldType)) (903 + dd) [.ref (b + 181), .int (fa_I a1), .int (fa_I a2)] w (none) r) (a1 : Int) (a2 : Int) (a3 : Int)  (w : fa_W) (r : fa_W) (hM : fm_Mod_writesTwo_b rc_writes a1 a2 a3 w = some r) : fa_MC l D b aC H0 N T y_Mod_writesTwo prog_12_method_78_code 4 ((Option.none : Option Jvm.ClassFile.FieldType)) (903 + dd + 1) [.ref (b + 181), .int (fa_I a1), .int (fa_I a2), .int (fa_I a3)] w (none) r := by
  refine fa_enter (lv := [(0, .ref (b + 181)), (1, .int (fa_I a1)), (2, .int (fa_I a2)), (3, .int (fa_I a3))]) (by decide +kernel) (Nat.le_of_ble_eq_true rfl) rfl (fun hh hle hnm X => ?_)
  unfold fm_Mod_writesTwo_b at hM
  refine g_aload_n X 0 rfl d_Mod_writesTwo_0 ?_
  refine g_bipush X (by decide) d_Mod_writesTwo_1 ?_
  obtain ⟨w2, e1, hM⟩ := fa_ob hM
  refine g_callV_v X ck_10 fo_181 (fn_181 hN) rfl mi_Mod_says (c_Mod_says hN hT 40 w _ e1) wd_2053 rfl (by omega) (st := []) (Nat.le_of_ble_eq_true rfl) rfl d_Mod_writesTwo_3 ?_
  refine g_aload_n X 0 rfl d_Mod_writesTwo_6 ?_
  refine g_aload_n X 0 rfl d_Mod_writesTwo_7 ?_
  refine g_get X ck_10 fo_181 (fn_181 hN) 5 (by decide) wd_1747 rfl (fr_181_5 rfl hT) d_Mod_writesTwo_8 ?_
  refine g_iload_n X 1 rfl d_Mod_writesTwo_11 ?_
  obtain ⟨j3, ej3, hM⟩ := fa_ob hM
  refine g_iald X fs_185 (fn_185 hN) ej3 d_Mod_writesTwo_12 ?_
  refine g_iload_n X 3 rfl d_Mod_writesTwo_13 ?_
  obtain ⟨w5, e4, hM⟩ := fa_ob hM
  refine g_callV_v X ck_10 fo_181 (fn_181 hN) rfl mi_Mod_writes (Rrc_writes (w2 185 j3) a3 w2 _ e4) wd_2061 rfl (by omega) (st := []) (Nat.le_of_ble_eq_true rfl) rfl d_Mod_writesTwo_14 ?_
  refine g_aload_n X 0 rfl d_Mod_writesTwo_17 ?_
  refine g_iload_n X 2 rfl d_Mod_writesTwo_18 ?_
  obtain ⟨w7, e6, hM⟩ := fa_ob hM
  refine g_callV_v X ck_10 fo_181 (fn_181 hN) rfl mi_Mod_says (c_Mod_says hN hT a2 w5 _ e6) wd_2053 rfl (by omega) (st := []) (Nat.le_of_ble_eq_true rfl) rfl d_Mod_writesTwo_19 ?_
  refine g_aload_n X 0 rfl d_Mod_writesTwo_22 ?_
  refine g_aload_n X 0 rfl d_Mod_writesTwo_23 ?_
  refine g_get X ck_10 fo_181 (fn_181 hN) 6 (by decide) wd_1748 rfl (fr_181_6 rfl hT) d_Mod_writesTwo_24 ?_
  refine g_iload_n X 1 rfl d_Mod_writesTwo_27 ?_
  obtain ⟨j8, ej8, hM⟩ := fa_ob hM
  refine g_iald X fs_186 (fn_186 hN) ej8 d_Mod_writesTwo_28 ?_
  refine g_iload_n X 3 rfl d_Mod_writesTwo_29 ?_
  obtain ⟨w10, e9, hM⟩ := fa_ob hM
  refine g_callV_v X ck_10 fo_181 (fn_181 hN) rfl mi_Mod_writes (Rrc_writes (w7 186 j8) a3 w7 _ e9) wd_2061 rfl (by omega) (st := []) (Nat.le_of_ble_eq_true rfl) rfl d_Mod_writesTwo_30 ?_
  refine g_aload_n X 0 rfl d_Mod_writesTwo_33 ?_
  refine g_bipush X (by decide) d_Mod_writesTwo_34 ?_
  obtain ⟨w12, e11, hM⟩ := fa_ob hM
  refine g_callV_v X ck_10 fo_181 (fn_181 hN) rfl mi_Mod_says (c_Mod_says hN hT 41 w10 _ e11) wd_2053 rfl (by omega) (st := []) (Nat.le_of_ble_eq_true rfl) rfl d_Mod_writesTwo_36 ?_
  cases hM
  exact g_vret X d_Mod_writesTwo_39
theorem d_Mod_writesBody_0 : decode prog_12_method_79_code 0 = .ok (.iload_n 2, 1) := by decide +kernel
theorem d_Mod_writesBody_1 : decode prog_12_method_79_code 1 = .ok (.iconst 1, 1) := by decide +kernel
theorem d_Mod_writesBody_2 : decode prog_12_method_79_code 2 = .ok (.if_icmp .ne 24, 3) := by decide +kernel
theorem d_Mod_writesBody_5 : decode prog_12_method_79_code 5 = .ok (.aload_n 0, 1) := by decide +kernel
theorem d_Mod_writesBody_6 : decode prog_12_method_79_code 6 = .ok (.getfield 323, 3) := by decide +kernel
theorem d_Mod_writesBody_9 : decode prog_12_method_79_code 9 = .ok (.iload_n 1, 1) := by decide +kernel
theorem d_Mod_writesBody_10 : decode prog_12_method_79_code 10 = .ok (.invokestatic 326, 3) := by decide +kernel
theorem d_Mod_writesBody_13 : decode prog_12_method_79_code 13 = .ok (.ifCond .ne 13, 3) := by decide +kernel
theorem d_Mod_writesBody_16 : decode prog_12_method_79_code 16 = .ok (.aload_n 0, 1) := by decide +kernel
theorem d_Mod_writesBody_17 : decode prog_12_method_79_code 17 = .ok (.getstatic 75, 3) := by decide +kernel
theorem d_Mod_writesBody_20 : decode prog_12_method_79_code 20 = .ok (.invokevirtual 491, 3) := by decide +kernel
theorem d_Mod_writesBody_23 : decode prog_12_method_79_code 23 = .ok (.goto 14, 3) := by decide +kernel
theorem d_Mod_writesBody_26 : decode prog_12_method_79_code 26 = .ok (.aload_n 0, 1) := by decide +kernel
theorem d_Mod_writesBody_27 : decode prog_12_method_79_code 27 = .ok (.aload_n 0, 1) := by decide +kernel
theorem d_Mod_writesBody_28 : decode prog_12_method_79_code 28 = .ok (.getfield 166, 3) := by decide +kernel
theorem d_Mod_writesBody_31 : decode prog_12_method_79_code 31 = .ok (.iload_n 1, 1) := by decide +kernel
theorem d_Mod_writesBody_32 : decode prog_12_method_79_code 32 = .ok (.iaload, 1) := by decide +kernel
theorem d_Mod_writesBody_33 : decode prog_12_method_79_code 33 = .ok (.iload_n 2, 1) := by decide +kernel
theorem d_Mod_writesBody_34 : decode prog_12_method_79_code 34 = .ok (.invokevirtual 506, 3) := by decide +kernel
theorem d_Mod_writesBody_37 : decode prog_12_method_79_code 37 = .ok (.return_, 1) := by decide +kernel
def fm_Mod_writesBody_j26 (a1 : Int) (a2 : Int) (rc_writes : Int → Int → fa_W → Option fa_W) (w : fa_W) : Option fa_W :=
  (fa_ix a1 24).bind fun j2 =>
  (rc_writes (w 189 j2) a2 w).bind fun w4 =>
  some w4
set_option maxHeartbeats 4000000 in
set_option maxRecDepth 100000 in
theorem c_Mod_writesBody_j26 {p : Program} {l : Launch} {e : Env} {s : State} {m : MethodId} {args : Array Value} {below : List Frame} {meth : Method} {c : Code} {hh : Nat} {D : va_G} {b : Nat} {aC : Nat → ClassId} {H0 : Heap} {N T : Nat} {dd : Nat} (X : fa_GX p s m args meth c prog_12_method_79_code 3 ((Option.none : Option Jvm.ClassFile.FieldType)) y_Mod_writesBody.cls D b aC) (hle : 903 + dd + 1 ≤ hh) (hN : fa_NM ≤ N) (hT : fa_TM ≤ T) (a1 : Int) (a2 : Int) {r : fa_W} (rc_writes : Int → Int → fa_W → Option fa_W) (Rrc_writes : ∀ (a1 : Int) (a2 : Int) (w : fa_W) (r : fa_W), rc_writes a1 a2 w = some r → fa_MC l D b aC H0 N T y_Mod_writes prog_12_method_77_code 3 ((Option.none : Option Jvm.ClassFile.FieldType)) (903 + dd) [.ref (b + 181), .int (fa_I a1), .int (fa_I a2)] w (none) r) : ∀ (w : fa_W) (_ : fm_Mod_writesBody_j26 a1 a2 rc_writes w = some r), fa_GJ p l e (fa_rm hh) s m args below meth c 0 0 (MQ below (fa_Qc D b aC H0 N T (none) r) args s 0 0 (fun q => b ≤ q)) D b aC H0 N T 3 w 26 [(0, .ref (b + 181)), (1, .int (fa_I a1)), (2, .int (fa_I a2))] [] := by
  intro w hM
  unfold fm_Mod_writesBody_j26 at hM
  refine g_aload_n X 0 rfl d_Mod_writesBody_26 ?_
  refine g_aload_n X 0 rfl d_Mod_writesBody_27 ?_
  refine g_get X ck_10 fo_181 (fn_181 hN) 9 (by decide) wd_1751 rfl (fr_181_9 rfl hT) d_Mod_writesBody_28 ?_
  refine g_iload_n X 1 rfl d_Mod_writesBody_31 ?_
  obtain ⟨j2, ej2, hM⟩ := fa_ob hM
  refine g_iald X fs_189 (fn_189 hN) ej2 d_Mod_writesBody_32 ?_
  refine g_iload_n X 2 rfl d_Mod_writesBody_33 ?_
  obtain ⟨w4, e3, hM⟩ := fa_ob hM
  refine g_callV_v X ck_10 fo_181 (fn_181 hN) rfl mi_Mod_writes (Rrc_writes (w 189 j2) a2 w _ e3) wd_2061 rfl (by omega) (st := []) (Nat.le_of_ble_eq_true rfl) rfl d_Mod_writesBody_34 ?_
  cases hM
  exact g_vret X d_Mod_writesBody_37
def fm_Mod_writesBody_b (rc_writes : Int → Int → fa_W → Option fa_W) (a1 : Int) (a2 : Int) (w : fa_W) : Option fa_W :=
  if fa_wr a2 = 1 then
  (if fm_Mod_holds (w 181 53) a1 w = true then
  fm_Mod_writesBody_j26 a1 a2 rc_writes w
  else
  ((fm_Mod_saysWord 900 82408 w).bind fun w8 =>
  some w8))
  else
  fm_Mod_writesBody_j26 a1 a2 rc_writes w
set_option maxHeartbeats 4000000 in
set_option maxRecDepth 100000 in
theorem c_Mod_writesBody_b {l : Launch} {D : va_G} {b : Nat} {aC : Nat → ClassId} {H0 : Heap} {N T : Nat} (hN : fa_NM ≤ N) (hT : fa_TM ≤ T) (dd : Nat) (rc_writes : Int → Int → fa_W → Option fa_W) (Rrc_writes : ∀ (a1 : Int) (a2 : Int) (w : fa_W) (r : fa_W), rc_writes a1 a2 w = some r → fa_MC l D b aC H0 N T y_Mod_writes prog_12_method_77_code 3 ((Option.none : Option Jvm.ClassFile.FieldType)) (903 + dd) [.ref (b + 181), .int (fa_I a1), .int (fa_I a2)] w (none) r) (a1 : Int) (a2 : Int)  (w : fa_W) (r : fa_W) (hM : fm_Mod_writesBody_b rc_writes a1 a2 w = some r) : fa_MC l D b aC H0 N T y_Mod_writesBody prog_12_method_79_code 3 ((Option.none : Option Jvm.ClassFile.FieldType)) (903 + dd + 1) [.ref (b + 181), .int (fa_I a1), .int (fa_I a2)] w (none) r := by
  refine fa_enter (lv := [(0, .ref (b + 181)), (1, .int (fa_I a1)), (2, .int (fa_I a2))]) (by decide +kernel) (Nat.le_of_ble_eq_true rfl) rfl (fun hh hle hnm X => ?_)
  unfold fm_Mod_writesBody_b at hM
  refine g_iload_n X 2 rfl d_Mod_writesBody_0 ?_
  refine g_iconst X d_Mod_writesBody_1 ?_
  refine g_icmp_ne X 26 d_Mod_writesBody_2 (by decide) (fun hc1 => ?_) (fun hc1 => ?_)
  · have hM := fa_if_f hM hc1
    exact g_lv [0, 1, 2] rfl (c_Mod_writesBody_j26 X hle hN hT a1 a2 rc_writes Rrc_writes   _ hM)
  · have hM := fa_if_t hM hc1
    refine g_aload_n X 0 rfl d_Mod_writesBody_5 ?_
    refine g_get X ck_10 fo_181 (fn_181 hN) 53 (by decide) wd_1794 rfl (fa_fvI rfl) d_Mod_writesBody_6 ?_
    refine g_iload_n X 1 rfl d_Mod_writesBody_9 ?_
    refine g_callS_i X mi_Mod_holds (c_Mod_holds hN hT (w 181 53) a1 w _ rfl) wd_1691 rfl (by omega) (st := []) (Nat.le_of_ble_eq_true rfl) rfl d_Mod_writesBody_10 ?_
    refine g_ifb_ne X 26 d_Mod_writesBody_13 (by decide) (fun hc6 => ?_) (fun hc6 => ?_)
    · have hM := fa_ifb_t hM hc6
      exact g_lv [0, 1, 2] rfl (c_Mod_writesBody_j26 X hle hN hT a1 a2 rc_writes Rrc_writes   _ hM)
    · have hM := fa_ifb_f hM hc6
      refine g_aload_n X 0 rfl d_Mod_writesBody_16 ?_
      refine g_gets X (n := "DEADS") (v := 82408) (z := 82408) (by decide) wd_1546 rfl d_Mod_writesBody_17 ?_
      obtain ⟨w8, e7, hM⟩ := fa_ob hM
      refine g_callV_v X ck_10 fo_181 (fn_181 hN) rfl mi_Mod_saysWord (c_Mod_saysWord hN hT 900 82408 w _ e7) wd_2049 rfl (by omega) (st := []) (Nat.le_of_ble_eq_true rfl) rfl d_Mod_writesBody_20 ?_
      refine g_goto X 37 d_Mod_writesBody_23 (by decide) ?_
      cases hM
      exact g_vret X d_Mod_writesBody_37
theorem d_Mod_writesLambda_0 : decode prog_12_method_80_code 0 = .ok (.aload_n 0, 1) := by decide +kernel
theorem d_Mod_writesLambda_1 : decode prog_12_method_80_code 1 = .ok (.bipush 40, 2) := by decide +kernel
theorem d_Mod_writesLambda_3 : decode prog_12_method_80_code 3 = .ok (.invokevirtual 494, 3) := by decide +kernel
theorem d_Mod_writesLambda_6 : decode prog_12_method_80_code 6 = .ok (.aload_n 0, 1) := by decide +kernel
theorem d_Mod_writesLambda_7 : decode prog_12_method_80_code 7 = .ok (.bipush 92, 2) := by decide +kernel
theorem d_Mod_writesLambda_9 : decode prog_12_method_80_code 9 = .ok (.invokevirtual 494, 3) := by decide +kernel
theorem d_Mod_writesLambda_12 : decode prog_12_method_80_code 12 = .ok (.aload_n 0, 1) := by decide +kernel
theorem d_Mod_writesLambda_13 : decode prog_12_method_80_code 13 = .ok (.aload_n 0, 1) := by decide +kernel
theorem d_Mod_writesLambda_14 : decode prog_12_method_80_code 14 = .ok (.getfield 116, 3) := by decide +kernel
theorem d_Mod_writesLambda_17 : decode prog_12_method_80_code 17 = .ok (.iload_n 1, 1) := by decide +kernel
theorem d_Mod_writesLambda_18 : decode prog_12_method_80_code 18 = .ok (.iaload, 1) := by decide +kernel
theorem d_Mod_writesLambda_19 : decode prog_12_method_80_code 19 = .ok (.invokevirtual 491, 3) := by decide +kernel
theorem d_Mod_writesLambda_22 : decode prog_12_method_80_code 22 = .ok (.aload_n 0, 1) := by decide +kernel
theorem d_Mod_writesLambda_23 : decode prog_12_method_80_code 23 = .ok (.bipush 46, 2) := by decide +kernel
theorem d_Mod_writesLambda_25 : decode prog_12_method_80_code 25 = .ok (.invokevirtual 494, 3) := by decide +kernel
theorem d_Mod_writesLambda_28 : decode prog_12_method_80_code 28 = .ok (.aload_n 0, 1) := by decide +kernel
theorem d_Mod_writesLambda_29 : decode prog_12_method_80_code 29 = .ok (.iload_n 1, 1) := by decide +kernel
theorem d_Mod_writesLambda_30 : decode prog_12_method_80_code 30 = .ok (.iload_n 2, 1) := by decide +kernel
theorem d_Mod_writesLambda_31 : decode prog_12_method_80_code 31 = .ok (.invokevirtual 516, 3) := by decide +kernel
theorem d_Mod_writesLambda_34 : decode prog_12_method_80_code 34 = .ok (.aload_n 0, 1) := by decide +kernel
theorem d_Mod_writesLambda_35 : decode prog_12_method_80_code 35 = .ok (.bipush 41, 2) := by decide +kernel
theorem d_Mod_writesLambda_37 : decode prog_12_method_80_code 37 = .ok (.invokevirtual 494, 3) := by decide +kernel
theorem d_Mod_writesLambda_40 : decode prog_12_method_80_code 40 = .ok (.return_, 1) := by decide +kernel
def fm_Mod_writesLambda_b (rc_writesBody : Int → Int → fa_W → Option fa_W) (a1 : Int) (a2 : Int) (w : fa_W) : Option fa_W :=
  (fm_Mod_says 40 w).bind fun w2 =>
  (fm_Mod_says 92 w2).bind fun w4 =>
  (fa_ix a1 124).bind fun j5 =>
  (fm_Mod_saysWord 900 (w4 192 j5) w4).bind fun w7 =>
  (fm_Mod_says 46 w7).bind fun w9 =>
  (rc_writesBody a1 a2 w9).bind fun w11 =>
  (fm_Mod_says 41 w11).bind fun w13 =>
  some w13
set_option maxHeartbeats 4000000 in
set_option maxRecDepth 100000 in
theorem c_Mod_writesLambda_b {l : Launch} {D : va_G} {b : Nat} {aC : Nat → ClassId} {H0 : Heap} {N T : Nat} (hN : fa_NM ≤ N) (hT : fa_TM ≤ T) (dd : Nat) (rc_writesBody : Int → Int → fa_W → Option fa_W) (Rrc_writesBody : ∀ (a1 : Int) (a2 : Int) (w : fa_W) (r : fa_W), rc_writesBody a1 a2 w = some r → fa_MC l D b aC H0 N T y_Mod_writesBody prog_12_method_79_code 3 ((Option.none : Option Jvm.ClassFile.FieldType)) (903 + dd) [.ref (b + 181), .int (fa_I a1), .int (fa_I a2)] w (none) r) (a1 : Int) (a2 : Int)  (w : fa_W) (r : fa_W) (hM : fm_Mod_writesLambda_b rc_writesBody a1 a2 w = some r) : fa_MC l D b aC H0 N T y_Mod_writesLambda prog_12_method_80_code 3 ((Option.none : Option Jvm.ClassFile.FieldType)) (903 + dd + 1) [.ref (b + 181), .int (fa_I a1), .int (fa_I a2)] w (none) r := by
  refine fa_enter (lv := [(0, .ref (b + 181)), (1, .int (fa_I a1)), (2, .int (fa_I a2))]) (by decide +kernel) (Nat.le_of_ble_eq_true rfl) rfl (fun hh hle hnm X => ?_)
  unfold fm_Mod_writesLambda_b at hM
  refine g_aload_n X 0 rfl d_Mod_writesLambda_0 ?_
  refine g_bipush X (by decide) d_Mod_writesLambda_1 ?_
  obtain ⟨w2, e1, hM⟩ := fa_ob hM
  refine g_callV_v X ck_10 fo_181 (fn_181 hN) rfl mi_Mod_says (c_Mod_says hN hT 40 w _ e1) wd_2053 rfl (by omega) (st := []) (Nat.le_of_ble_eq_true rfl) rfl d_Mod_writesLambda_3 ?_
  refine g_aload_n X 0 rfl d_Mod_writesLambda_6 ?_
  refine g_bipush X (by decide) d_Mod_writesLambda_7 ?_
  obtain ⟨w4, e3, hM⟩ := fa_ob hM
  refine g_callV_v X ck_10 fo_181 (fn_181 hN) rfl mi_Mod_says (c_Mod_says hN hT 92 w2 _ e3) wd_2053 rfl (by omega) (st := []) (Nat.le_of_ble_eq_true rfl) rfl d_Mod_writesLambda_9 ?_
  refine g_aload_n X 0 rfl d_Mod_writesLambda_12 ?_
  refine g_aload_n X 0 rfl d_Mod_writesLambda_13 ?_
  refine g_get X ck_10 fo_181 (fn_181 hN) 12 (by decide) wd_1754 rfl (fr_181_12 rfl hT) d_Mod_writesLambda_14 ?_
  refine g_iload_n X 1 rfl d_Mod_writesLambda_17 ?_
  obtain ⟨j5, ej5, hM⟩ := fa_ob hM
  refine g_iald X fs_192 (fn_192 hN) ej5 d_Mod_writesLambda_18 ?_
  obtain ⟨w7, e6, hM⟩ := fa_ob hM
  refine g_callV_v X ck_10 fo_181 (fn_181 hN) rfl mi_Mod_saysWord (c_Mod_saysWord hN hT 900 (w4 192 j5) w4 _ e6) wd_2049 rfl (by omega) (st := []) (Nat.le_of_ble_eq_true rfl) rfl d_Mod_writesLambda_19 ?_
  refine g_aload_n X 0 rfl d_Mod_writesLambda_22 ?_
  refine g_bipush X (by decide) d_Mod_writesLambda_23 ?_
  obtain ⟨w9, e8, hM⟩ := fa_ob hM
  refine g_callV_v X ck_10 fo_181 (fn_181 hN) rfl mi_Mod_says (c_Mod_says hN hT 46 w7 _ e8) wd_2053 rfl (by omega) (st := []) (Nat.le_of_ble_eq_true rfl) rfl d_Mod_writesLambda_25 ?_
  refine g_aload_n X 0 rfl d_Mod_writesLambda_28 ?_
  refine g_iload_n X 1 rfl d_Mod_writesLambda_29 ?_
  refine g_iload_n X 2 rfl d_Mod_writesLambda_30 ?_
  obtain ⟨w11, e10, hM⟩ := fa_ob hM
  refine g_callV_v X ck_10 fo_181 (fn_181 hN) rfl mi_Mod_writesBody (Rrc_writesBody a1 a2 w9 _ e10) wd_2057 rfl (by omega) (st := []) (Nat.le_of_ble_eq_true rfl) rfl d_Mod_writesLambda_31 ?_
  refine g_aload_n X 0 rfl d_Mod_writesLambda_34 ?_
  refine g_bipush X (by decide) d_Mod_writesLambda_35 ?_
  obtain ⟨w13, e12, hM⟩ := fa_ob hM
  refine g_callV_v X ck_10 fo_181 (fn_181 hN) rfl mi_Mod_says (c_Mod_says hN hT 41 w11 _ e12) wd_2053 rfl (by omega) (st := []) (Nat.le_of_ble_eq_true rfl) rfl d_Mod_writesLambda_37 ?_
  cases hM
  exact g_vret X d_Mod_writesLambda_40
theorem d_Mod_writesApply_0 : decode prog_12_method_82_code 0 = .ok (.aload_n 0, 1) := by decide +kernel
theorem d_Mod_writesApply_1 : decode prog_12_method_82_code 1 = .ok (.getfield 317, 3) := by decide +kernel
theorem d_Mod_writesApply_4 : decode prog_12_method_82_code 4 = .ok (.aload_n 0, 1) := by decide +kernel
theorem d_Mod_writesApply_5 : decode prog_12_method_82_code 5 = .ok (.getfield 103, 3) := by decide +kernel
theorem d_Mod_writesApply_8 : decode prog_12_method_82_code 8 = .ok (.iload_n 1, 1) := by decide +kernel
theorem d_Mod_writesApply_9 : decode prog_12_method_82_code 9 = .ok (.iaload, 1) := by decide +kernel
theorem d_Mod_writesApply_10 : decode prog_12_method_82_code 10 = .ok (.iaload, 1) := by decide +kernel
theorem d_Mod_writesApply_11 : decode prog_12_method_82_code 11 = .ok (.istore_n 3, 1) := by decide +kernel
theorem d_Mod_writesApply_12 : decode prog_12_method_82_code 12 = .ok (.iconst (-1), 1) := by decide +kernel
theorem d_Mod_writesApply_13 : decode prog_12_method_82_code 13 = .ok (.istore 4, 2) := by decide +kernel
theorem d_Mod_writesApply_15 : decode prog_12_method_82_code 15 = .ok (.aload_n 0, 1) := by decide +kernel
theorem d_Mod_writesApply_16 : decode prog_12_method_82_code 16 = .ok (.invokevirtual 270, 3) := by decide +kernel
theorem d_Mod_writesApply_19 : decode prog_12_method_82_code 19 = .ok (.iconst 1, 1) := by decide +kernel
theorem d_Mod_writesApply_20 : decode prog_12_method_82_code 20 = .ok (.isub, 1) := by decide +kernel
theorem d_Mod_writesApply_21 : decode prog_12_method_82_code 21 = .ok (.istore 5, 2) := by decide +kernel
theorem d_Mod_writesApply_23 : decode prog_12_method_82_code 23 = .ok (.iload 5, 2) := by decide +kernel
theorem d_Mod_writesApply_25 : decode prog_12_method_82_code 25 = .ok (.ifCond .lt 54, 3) := by decide +kernel
theorem d_Mod_writesApply_28 : decode prog_12_method_82_code 28 = .ok (.iload_n 3, 1) := by decide +kernel
theorem d_Mod_writesApply_29 : decode prog_12_method_82_code 29 = .ok (.iload 5, 2) := by decide +kernel
theorem d_Mod_writesApply_31 : decode prog_12_method_82_code 31 = .ok (.invokestatic 326, 3) := by decide +kernel
theorem d_Mod_writesApply_34 : decode prog_12_method_82_code 34 = .ok (.ifCond .eq 39, 3) := by decide +kernel
theorem d_Mod_writesApply_37 : decode prog_12_method_82_code 37 = .ok (.iload 4, 2) := by decide +kernel
theorem d_Mod_writesApply_39 : decode prog_12_method_82_code 39 = .ok (.iconst (-1), 1) := by decide +kernel
theorem d_Mod_writesApply_40 : decode prog_12_method_82_code 40 = .ok (.if_icmp .eq 17, 3) := by decide +kernel
theorem d_Mod_writesApply_43 : decode prog_12_method_82_code 43 = .ok (.aload_n 0, 1) := by decide +kernel
theorem d_Mod_writesApply_44 : decode prog_12_method_82_code 44 = .ok (.iload_n 2, 1) := by decide +kernel
theorem d_Mod_writesApply_45 : decode prog_12_method_82_code 45 = .ok (.iconst 2, 1) := by decide +kernel
theorem d_Mod_writesApply_46 : decode prog_12_method_82_code 46 = .ok (.isub, 1) := by decide +kernel
theorem d_Mod_writesApply_47 : decode prog_12_method_82_code 47 = .ok (.iload 5, 2) := by decide +kernel
theorem d_Mod_writesApply_49 : decode prog_12_method_82_code 49 = .ok (.invokevirtual 359, 3) := by decide +kernel
theorem d_Mod_writesApply_52 : decode prog_12_method_82_code 52 = .ok (.iload 4, 2) := by decide +kernel
theorem d_Mod_writesApply_54 : decode prog_12_method_82_code 54 = .ok (.if_icmp .ge 15, 3) := by decide +kernel
theorem d_Mod_writesApply_57 : decode prog_12_method_82_code 57 = .ok (.aload_n 0, 1) := by decide +kernel
theorem d_Mod_writesApply_58 : decode prog_12_method_82_code 58 = .ok (.iload_n 2, 1) := by decide +kernel
theorem d_Mod_writesApply_59 : decode prog_12_method_82_code 59 = .ok (.iconst 2, 1) := by decide +kernel
theorem d_Mod_writesApply_60 : decode prog_12_method_82_code 60 = .ok (.isub, 1) := by decide +kernel
theorem d_Mod_writesApply_61 : decode prog_12_method_82_code 61 = .ok (.iload 5, 2) := by decide +kernel
theorem d_Mod_writesApply_63 : decode prog_12_method_82_code 63 = .ok (.invokevirtual 359, 3) := by decide +kernel
theorem d_Mod_writesApply_66 : decode prog_12_method_82_code 66 = .ok (.goto 5, 3) := by decide +kernel
theorem d_Mod_writesApply_69 : decode prog_12_method_82_code 69 = .ok (.iload 4, 2) := by decide +kernel
theorem d_Mod_writesApply_71 : decode prog_12_method_82_code 71 = .ok (.istore 4, 2) := by decide +kernel
theorem d_Mod_writesApply_73 : decode prog_12_method_82_code 73 = .ok (.iinc 5 (-1), 3) := by decide +kernel
theorem d_Mod_writesApply_76 : decode prog_12_method_82_code 76 = .ok (.goto (-53), 3) := by decide +kernel
theorem d_Mod_writesApply_79 : decode prog_12_method_82_code 79 = .ok (.aload_n 0, 1) := by decide +kernel
theorem d_Mod_writesApply_80 : decode prog_12_method_82_code 80 = .ok (.bipush 97, 2) := by decide +kernel
theorem d_Mod_writesApply_82 : decode prog_12_method_82_code 82 = .ok (.invokevirtual 494, 3) := by decide +kernel
theorem d_Mod_writesApply_85 : decode prog_12_method_82_code 85 = .ok (.iload 4, 2) := by decide +kernel
theorem d_Mod_writesApply_87 : decode prog_12_method_82_code 87 = .ok (.iconst (-1), 1) := by decide +kernel
theorem d_Mod_writesApply_88 : decode prog_12_method_82_code 88 = .ok (.if_icmp .ne 12, 3) := by decide +kernel
theorem d_Mod_writesApply_91 : decode prog_12_method_82_code 91 = .ok (.aload_n 0, 1) := by decide +kernel
theorem d_Mod_writesApply_92 : decode prog_12_method_82_code 92 = .ok (.bipush 110, 2) := by decide +kernel
theorem d_Mod_writesApply_94 : decode prog_12_method_82_code 94 = .ok (.invokevirtual 494, 3) := by decide +kernel
theorem d_Mod_writesApply_97 : decode prog_12_method_82_code 97 = .ok (.goto 9, 3) := by decide +kernel
theorem d_Mod_writesApply_100 : decode prog_12_method_82_code 100 = .ok (.aload_n 0, 1) := by decide +kernel
theorem d_Mod_writesApply_101 : decode prog_12_method_82_code 101 = .ok (.iload 4, 2) := by decide +kernel
theorem d_Mod_writesApply_103 : decode prog_12_method_82_code 103 = .ok (.invokevirtual 497, 3) := by decide +kernel
theorem d_Mod_writesApply_106 : decode prog_12_method_82_code 106 = .ok (.aload_n 0, 1) := by decide +kernel
theorem d_Mod_writesApply_107 : decode prog_12_method_82_code 107 = .ok (.bipush 40, 2) := by decide +kernel
theorem d_Mod_writesApply_109 : decode prog_12_method_82_code 109 = .ok (.invokevirtual 494, 3) := by decide +kernel
theorem d_Mod_writesApply_112 : decode prog_12_method_82_code 112 = .ok (.aload_n 0, 1) := by decide +kernel
theorem d_Mod_writesApply_113 : decode prog_12_method_82_code 113 = .ok (.aload_n 0, 1) := by decide +kernel
theorem d_Mod_writesApply_114 : decode prog_12_method_82_code 114 = .ok (.getfield 94, 3) := by decide +kernel
theorem d_Mod_writesApply_117 : decode prog_12_method_82_code 117 = .ok (.iload_n 1, 1) := by decide +kernel
theorem d_Mod_writesApply_118 : decode prog_12_method_82_code 118 = .ok (.iaload, 1) := by decide +kernel
theorem d_Mod_writesApply_119 : decode prog_12_method_82_code 119 = .ok (.iload_n 2, 1) := by decide +kernel
theorem d_Mod_writesApply_120 : decode prog_12_method_82_code 120 = .ok (.invokevirtual 506, 3) := by decide +kernel
theorem d_Mod_writesApply_123 : decode prog_12_method_82_code 123 = .ok (.aload_n 0, 1) := by decide +kernel
theorem d_Mod_writesApply_124 : decode prog_12_method_82_code 124 = .ok (.bipush 44, 2) := by decide +kernel
theorem d_Mod_writesApply_126 : decode prog_12_method_82_code 126 = .ok (.invokevirtual 494, 3) := by decide +kernel
theorem d_Mod_writesApply_129 : decode prog_12_method_82_code 129 = .ok (.aload_n 0, 1) := by decide +kernel
theorem d_Mod_writesApply_130 : decode prog_12_method_82_code 130 = .ok (.aload_n 0, 1) := by decide +kernel
theorem d_Mod_writesApply_131 : decode prog_12_method_82_code 131 = .ok (.getfield 97, 3) := by decide +kernel
theorem d_Mod_writesApply_134 : decode prog_12_method_82_code 134 = .ok (.iload_n 1, 1) := by decide +kernel
theorem d_Mod_writesApply_135 : decode prog_12_method_82_code 135 = .ok (.iaload, 1) := by decide +kernel
theorem d_Mod_writesApply_136 : decode prog_12_method_82_code 136 = .ok (.iload_n 2, 1) := by decide +kernel
theorem d_Mod_writesApply_137 : decode prog_12_method_82_code 137 = .ok (.invokevirtual 506, 3) := by decide +kernel
theorem d_Mod_writesApply_140 : decode prog_12_method_82_code 140 = .ok (.aload_n 0, 1) := by decide +kernel
theorem d_Mod_writesApply_141 : decode prog_12_method_82_code 141 = .ok (.bipush 41, 2) := by decide +kernel
theorem d_Mod_writesApply_143 : decode prog_12_method_82_code 143 = .ok (.invokevirtual 494, 3) := by decide +kernel
theorem d_Mod_writesApply_146 : decode prog_12_method_82_code 146 = .ok (.return_, 1) := by decide +kernel
def fm_Mod_writesApply_j106 (a1 : Int) (a2 : Int) (rc_writes : Int → Int → fa_W → Option fa_W) (w : fa_W) : Option fa_W :=
  (fm_Mod_says 40 w).bind fun w13 =>
  (fa_ix a1 101).bind fun j14 =>
  (rc_writes (w13 185 j14) a2 w13).bind fun w16 =>
  (fm_Mod_says 44 w16).bind fun w18 =>
  (fa_ix a1 101).bind fun j19 =>
  (rc_writes (w18 186 j19) a2 w18).bind fun w21 =>
  (fm_Mod_says 41 w21).bind fun w23 =>
  some w23
set_option maxHeartbeats 4000000 in
set_option maxRecDepth 100000 in
theorem c_Mod_writesApply_j106 {p : Program} {l : Launch} {e : Env} {s : State} {m : MethodId} {args : Array Value} {below : List Frame} {meth : Method} {c : Code} {hh : Nat} {D : va_G} {b : Nat} {aC : Nat → ClassId} {H0 : Heap} {N T : Nat} {dd : Nat} (X : fa_GX p s m args meth c prog_12_method_82_code 6 ((Option.none : Option Jvm.ClassFile.FieldType)) y_Mod_writesApply.cls D b aC) (hle : 903 + dd + 1 ≤ hh) (hN : fa_NM ≤ N) (hT : fa_TM ≤ T) (a1 : Int) (a2 : Int) {r : fa_W} (rc_writes : Int → Int → fa_W → Option fa_W) (Rrc_writes : ∀ (a1 : Int) (a2 : Int) (w : fa_W) (r : fa_W), rc_writes a1 a2 w = some r → fa_MC l D b aC H0 N T y_Mod_writes prog_12_method_77_code 3 ((Option.none : Option Jvm.ClassFile.FieldType)) (903 + dd) [.ref (b + 181), .int (fa_I a1), .int (fa_I a2)] w (none) r) : ∀ (w : fa_W) (_ : fm_Mod_writesApply_j106 a1 a2 rc_writes w = some r), fa_GJ p l e (fa_rm hh) s m args below meth c 0 0 (MQ below (fa_Qc D b aC H0 N T (none) r) args s 0 0 (fun q => b ≤ q)) D b aC H0 N T 6 w 106 [(0, .ref (b + 181)), (1, .int (fa_I a1)), (2, .int (fa_I a2))] [] := by
  intro w hM
  unfold fm_Mod_writesApply_j106 at hM
  refine g_aload_n X 0 rfl d_Mod_writesApply_106 ?_
  refine g_bipush X (by decide) d_Mod_writesApply_107 ?_
  obtain ⟨w13, e12, hM⟩ := fa_ob hM
  refine g_callV_v X ck_10 fo_181 (fn_181 hN) rfl mi_Mod_says (c_Mod_says hN hT 40 w _ e12) wd_2053 rfl (by omega) (st := []) (Nat.le_of_ble_eq_true rfl) rfl d_Mod_writesApply_109 ?_
  refine g_aload_n X 0 rfl d_Mod_writesApply_112 ?_
  refine g_aload_n X 0 rfl d_Mod_writesApply_113 ?_
  refine g_get X ck_10 fo_181 (fn_181 hN) 5 (by decide) wd_1747 rfl (fr_181_5 rfl hT) d_Mod_writesApply_114 ?_
  refine g_iload_n X 1 rfl d_Mod_writesApply_117 ?_
  obtain ⟨j14, ej14, hM⟩ := fa_ob hM
  refine g_iald X fs_185 (fn_185 hN) ej14 d_Mod_writesApply_118 ?_
  refine g_iload_n X 2 rfl d_Mod_writesApply_119 ?_
  obtain ⟨w16, e15, hM⟩ := fa_ob hM
  refine g_callV_v X ck_10 fo_181 (fn_181 hN) rfl mi_Mod_writes (Rrc_writes (w13 185 j14) a2 w13 _ e15) wd_2061 rfl (by omega) (st := []) (Nat.le_of_ble_eq_true rfl) rfl d_Mod_writesApply_120 ?_
  refine g_aload_n X 0 rfl d_Mod_writesApply_123 ?_
  refine g_bipush X (by decide) d_Mod_writesApply_124 ?_
  obtain ⟨w18, e17, hM⟩ := fa_ob hM
  refine g_callV_v X ck_10 fo_181 (fn_181 hN) rfl mi_Mod_says (c_Mod_says hN hT 44 w16 _ e17) wd_2053 rfl (by omega) (st := []) (Nat.le_of_ble_eq_true rfl) rfl d_Mod_writesApply_126 ?_
  refine g_aload_n X 0 rfl d_Mod_writesApply_129 ?_
  refine g_aload_n X 0 rfl d_Mod_writesApply_130 ?_
  refine g_get X ck_10 fo_181 (fn_181 hN) 6 (by decide) wd_1748 rfl (fr_181_6 rfl hT) d_Mod_writesApply_131 ?_
  refine g_iload_n X 1 rfl d_Mod_writesApply_134 ?_
  obtain ⟨j19, ej19, hM⟩ := fa_ob hM
  refine g_iald X fs_186 (fn_186 hN) ej19 d_Mod_writesApply_135 ?_
  refine g_iload_n X 2 rfl d_Mod_writesApply_136 ?_
  obtain ⟨w21, e20, hM⟩ := fa_ob hM
  refine g_callV_v X ck_10 fo_181 (fn_181 hN) rfl mi_Mod_writes (Rrc_writes (w18 186 j19) a2 w18 _ e20) wd_2061 rfl (by omega) (st := []) (Nat.le_of_ble_eq_true rfl) rfl d_Mod_writesApply_137 ?_
  refine g_aload_n X 0 rfl d_Mod_writesApply_140 ?_
  refine g_bipush X (by decide) d_Mod_writesApply_141 ?_
  obtain ⟨w23, e22, hM⟩ := fa_ob hM
  refine g_callV_v X ck_10 fo_181 (fn_181 hN) rfl mi_Mod_says (c_Mod_says hN hT 41 w21 _ e22) wd_2053 rfl (by omega) (st := []) (Nat.le_of_ble_eq_true rfl) rfl d_Mod_writesApply_143 ?_
  cases hM
  exact g_vret X d_Mod_writesApply_146
def fm_Mod_writesApply_j57 (a1 : Int) (a2 : Int) (rc_writes : Int → Int → fa_W → Option fa_W) (k23 : Int → Int → Int → fa_W → Option fa_W) (x3 : Int) (x5 : Int) (w : fa_W) : Option fa_W :=
  (fm_Mod_groupAt (a2 - 2) x5 w).bind fun v31 =>
  fa_let (x5 + (-1)) fun x5_32 =>
  k23 x3 v31 x5_32 w
set_option maxHeartbeats 4000000 in
set_option maxRecDepth 100000 in
theorem c_Mod_writesApply_j57 {p : Program} {l : Launch} {e : Env} {s : State} {m : MethodId} {args : Array Value} {below : List Frame} {meth : Method} {c : Code} {hh : Nat} {D : va_G} {b : Nat} {aC : Nat → ClassId} {H0 : Heap} {N T : Nat} {dd : Nat} (X : fa_GX p s m args meth c prog_12_method_82_code 6 ((Option.none : Option Jvm.ClassFile.FieldType)) y_Mod_writesApply.cls D b aC) (hle : 903 + dd + 1 ≤ hh) (hN : fa_NM ≤ N) (hT : fa_TM ≤ T) (a1 : Int) (a2 : Int) {r : fa_W} (rc_writes : Int → Int → fa_W → Option fa_W) (Rrc_writes : ∀ (a1 : Int) (a2 : Int) (w : fa_W) (r : fa_W), rc_writes a1 a2 w = some r → fa_MC l D b aC H0 N T y_Mod_writes prog_12_method_77_code 3 ((Option.none : Option Jvm.ClassFile.FieldType)) (903 + dd) [.ref (b + 181), .int (fa_I a1), .int (fa_I a2)] w (none) r) (k23 : Int → Int → Int → fa_W → Option fa_W) (K23 : ∀ (x3 : Int) (x4 : Int) (x5 : Int) (w : fa_W), k23 x3 x4 x5 w = some r → fa_GJ p l e (fa_rm hh) s m args below meth c 0 0 (MQ below (fa_Qc D b aC H0 N T (none) r) args s 0 0 (fun q => b ≤ q)) D b aC H0 N T 6 w 23 [(0, .ref (b + 181)), (1, .int (fa_I a1)), (2, .int (fa_I a2)), (3, .int (fa_I x3)), (4, .int (fa_I x4)), (5, .int (fa_I x5))] []) : ∀ (x3 : Int) (x5 : Int) (w : fa_W) (_ : fm_Mod_writesApply_j57 a1 a2 rc_writes k23 x3 x5 w = some r), fa_GJ p l e (fa_rm hh) s m args below meth c 0 0 (MQ below (fa_Qc D b aC H0 N T (none) r) args s 0 0 (fun q => b ≤ q)) D b aC H0 N T 6 w 57 [(0, .ref (b + 181)), (1, .int (fa_I a1)), (2, .int (fa_I a2)), (3, .int (fa_I x3)), (5, .int (fa_I x5))] [] := by
  intro x3 x5 w hM
  unfold fm_Mod_writesApply_j57 at hM
  refine g_aload_n X 0 rfl d_Mod_writesApply_57 ?_
  refine g_iload_n X 2 rfl d_Mod_writesApply_58 ?_
  refine g_iconst X d_Mod_writesApply_59 ?_
  refine g_isub X d_Mod_writesApply_60 ?_
  refine g_iload X 4 rfl d_Mod_writesApply_61 ?_
  obtain ⟨v31, e30, hM⟩ := fa_ob hM
  refine g_callV_i X ck_10 fo_181 (fn_181 hN) rfl mi_Mod_groupAt (c_Mod_groupAt hN hT (a2 - 2) x5 w _ e30) wd_1710 rfl (by omega) (st := []) (Nat.le_of_ble_eq_true rfl) rfl d_Mod_writesApply_63 ?_
  refine g_goto X 71 d_Mod_writesApply_66 (by decide) ?_
  refine g_istorec X [(4, .int (fa_I v31)), (0, .ref (b + 181)), (1, .int (fa_I a1)), (2, .int (fa_I a2)), (3, .int (fa_I x3)), (5, .int (fa_I x5))] d_Mod_writesApply_71 (by decide) rfl ?_
  refine g_iinc X 5 (fun x5_32 => [(5, .int (fa_I x5_32)), (4, .int (fa_I v31)), (0, .ref (b + 181)), (1, .int (fa_I a1)), (2, .int (fa_I a2)), (3, .int (fa_I x3))]) d_Mod_writesApply_73 rfl (by decide) (fun _ => rfl) (fun x5_32 ex5_32 => ?_)
  have hM := fa_let_to hM ex5_32
  refine g_goto X 23 d_Mod_writesApply_76 (by decide) ?_
  exact g_lv [2, 3, 4, 5, 1, 0] rfl (K23 _ _ _ _ hM)
def fm_Mod_writesApply_l23 (a1 : Int) (a2 : Int) (rc_writes : Int → Int → fa_W → Option fa_W) : Nat → Int → Int → Int → fa_W → Option fa_W
  | 0, _, _, _, _ => none
  | n + 1, x3, x4, x5, w => if fa_wr x5 < 0 then
  ((fm_Mod_says 97 w).bind fun w8 =>
  if fa_wr x4 = (-1) then
  ((fm_Mod_says 110 w8).bind fun w25 =>
  fm_Mod_writesApply_j106 a1 a2 rc_writes w25)
  else
  ((fm_Mod_saysNumber 900 x4 w8).bind fun w11 =>
  fm_Mod_writesApply_j106 a1 a2 rc_writes w11))
  else
  (if fm_Mod_holds x3 x5 w = true then
  (if fa_wr x4 = (-1) then
  fm_Mod_writesApply_j57 a1 a2 rc_writes (fun x3 x4 x5 w9 => fm_Mod_writesApply_l23 a1 a2 rc_writes n x3 x4 x5 w9) x3 x5 w
  else
  ((fm_Mod_groupAt (a2 - 2) x5 w).bind fun v34 =>
  if fa_wr x4 ≤ fa_wr v34 then
  (fa_let (x5 + (-1)) fun x5_36 =>
  fm_Mod_writesApply_l23 a1 a2 rc_writes n x3 x4 x5_36 w)
  else
  fm_Mod_writesApply_j57 a1 a2 rc_writes (fun x3 x4 x5 w9 => fm_Mod_writesApply_l23 a1 a2 rc_writes n x3 x4 x5 w9) x3 x5 w))
  else
  (fa_let (x5 + (-1)) fun x5_28 =>
  fm_Mod_writesApply_l23 a1 a2 rc_writes n x3 x4 x5_28 w))
set_option maxHeartbeats 4000000 in
set_option maxRecDepth 100000 in
theorem c_Mod_writesApply_l23 {p : Program} {l : Launch} {e : Env} {s : State} {m : MethodId} {args : Array Value} {below : List Frame} {meth : Method} {c : Code} {hh : Nat} {D : va_G} {b : Nat} {aC : Nat → ClassId} {H0 : Heap} {N T : Nat} {dd : Nat} (X : fa_GX p s m args meth c prog_12_method_82_code 6 ((Option.none : Option Jvm.ClassFile.FieldType)) y_Mod_writesApply.cls D b aC) (hle : 903 + dd + 1 ≤ hh) (hN : fa_NM ≤ N) (hT : fa_TM ≤ T) (a1 : Int) (a2 : Int) {r : fa_W} (rc_writes : Int → Int → fa_W → Option fa_W) (Rrc_writes : ∀ (a1 : Int) (a2 : Int) (w : fa_W) (r : fa_W), rc_writes a1 a2 w = some r → fa_MC l D b aC H0 N T y_Mod_writes prog_12_method_77_code 3 ((Option.none : Option Jvm.ClassFile.FieldType)) (903 + dd) [.ref (b + 181), .int (fa_I a1), .int (fa_I a2)] w (none) r) : ∀ (n : Nat) (x3 : Int) (x4 : Int) (x5 : Int) (w : fa_W), fm_Mod_writesApply_l23 a1 a2 rc_writes n x3 x4 x5 w = some r → fa_GJ p l e (fa_rm hh) s m args below meth c 0 0 (MQ below (fa_Qc D b aC H0 N T (none) r) args s 0 0 (fun q => b ≤ q)) D b aC H0 N T 6 w 23 [(0, .ref (b + 181)), (1, .int (fa_I a1)), (2, .int (fa_I a2)), (3, .int (fa_I x3)), (4, .int (fa_I x4)), (5, .int (fa_I x5))] [] := by
  intro n
  induction n with
  | zero => intro x3 x4 x5 w hM; exact fa_no hM
  | succ n ih =>
    intro x3 x4 x5 w hM
    rw [fm_Mod_writesApply_l23] at hM
    refine g_iload X 5 rfl d_Mod_writesApply_23 ?_
    refine g_if_lt X 79 d_Mod_writesApply_25 (by decide) (fun hc6 => ?_) (fun hc6 => ?_)
    · have hM := fa_if_t hM hc6
      refine g_aload_n X 0 rfl d_Mod_writesApply_79 ?_
      refine g_bipush X (by decide) d_Mod_writesApply_80 ?_
      obtain ⟨w8, e7, hM⟩ := fa_ob hM
      refine g_callV_v X ck_10 fo_181 (fn_181 hN) rfl mi_Mod_says (c_Mod_says hN hT 97 w _ e7) wd_2053 rfl (by omega) (st := []) (Nat.le_of_ble_eq_true rfl) rfl d_Mod_writesApply_82 ?_
      refine g_iload X 4 rfl d_Mod_writesApply_85 ?_
      refine g_iconst X d_Mod_writesApply_87 ?_
      refine g_icmp_ne X 100 d_Mod_writesApply_88 (by decide) (fun hc9 => ?_) (fun hc9 => ?_)
      · have hM := fa_if_f hM hc9
        refine g_aload_n X 0 rfl d_Mod_writesApply_100 ?_
        refine g_iload X 4 rfl d_Mod_writesApply_101 ?_
        obtain ⟨w11, e10, hM⟩ := fa_ob hM
        refine g_callV_v X ck_10 fo_181 (fn_181 hN) rfl mi_Mod_saysNumber (c_Mod_saysNumber hN hT 900 x4 w8 _ e10) wd_2065 rfl (by omega) (st := []) (Nat.le_of_ble_eq_true rfl) rfl d_Mod_writesApply_103 ?_
        exact g_lv [0, 1, 2] rfl (c_Mod_writesApply_j106 X hle hN hT a1 a2 rc_writes Rrc_writes   _ hM)
      · have hM := fa_if_t hM hc9
        refine g_aload_n X 0 rfl d_Mod_writesApply_91 ?_
        refine g_bipush X (by decide) d_Mod_writesApply_92 ?_
        obtain ⟨w25, e24, hM⟩ := fa_ob hM
        refine g_callV_v X ck_10 fo_181 (fn_181 hN) rfl mi_Mod_says (c_Mod_says hN hT 110 w8 _ e24) wd_2053 rfl (by omega) (st := []) (Nat.le_of_ble_eq_true rfl) rfl d_Mod_writesApply_94 ?_
        refine g_goto X 106 d_Mod_writesApply_97 (by decide) ?_
        exact g_lv [0, 1, 2] rfl (c_Mod_writesApply_j106 X hle hN hT a1 a2 rc_writes Rrc_writes   _ hM)
    · have hM := fa_if_f hM hc6
      refine g_iload_n X 3 rfl d_Mod_writesApply_28 ?_
      refine g_iload X 5 rfl d_Mod_writesApply_29 ?_
      refine g_callS_i X mi_Mod_holds (c_Mod_holds hN hT x3 x5 w _ rfl) wd_1691 rfl (by omega) (st := []) (Nat.le_of_ble_eq_true rfl) rfl d_Mod_writesApply_31 ?_
      refine g_ifb_eq X 73 d_Mod_writesApply_34 (by decide) (fun hc27 => ?_) (fun hc27 => ?_)
      · have hM := fa_ifb_f hM hc27
        refine g_iinc X 5 (fun x5_28 => [(5, .int (fa_I x5_28)), (0, .ref (b + 181)), (1, .int (fa_I a1)), (2, .int (fa_I a2)), (3, .int (fa_I x3)), (4, .int (fa_I x4))]) d_Mod_writesApply_73 rfl (by decide) (fun _ => rfl) (fun x5_28 ex5_28 => ?_)
        have hM := fa_let_to hM ex5_28
        refine g_goto X 23 d_Mod_writesApply_76 (by decide) ?_
        exact g_lv [1, 2, 3, 4, 5, 0] rfl (ih _ _ _ _ hM)
      · have hM := fa_ifb_t hM hc27
        refine g_iload X 4 rfl d_Mod_writesApply_37 ?_
        refine g_iconst X d_Mod_writesApply_39 ?_
        refine g_icmp_eq X 57 d_Mod_writesApply_40 (by decide) (fun hc29 => ?_) (fun hc29 => ?_)
        · have hM := fa_if_t hM hc29
          exact g_lv [0, 1, 2, 3, 5] rfl (c_Mod_writesApply_j57 X hle hN hT a1 a2 rc_writes Rrc_writes (fun x3 x4 x5 w9 => fm_Mod_writesApply_l23 a1 a2 rc_writes n x3 x4 x5 w9) (fun _ _ _ _ h => ih _ _ _ _ h)  _ _ _ hM)
        · have hM := fa_if_f hM hc29
          refine g_aload_n X 0 rfl d_Mod_writesApply_43 ?_
          refine g_iload_n X 2 rfl d_Mod_writesApply_44 ?_
          refine g_iconst X d_Mod_writesApply_45 ?_
          refine g_isub X d_Mod_writesApply_46 ?_
          refine g_iload X 5 rfl d_Mod_writesApply_47 ?_
          obtain ⟨v34, e33, hM⟩ := fa_ob hM
          refine g_callV_i X ck_10 fo_181 (fn_181 hN) rfl mi_Mod_groupAt (c_Mod_groupAt hN hT (a2 - 2) x5 w _ e33) wd_1710 rfl (by omega) (st := []) (Nat.le_of_ble_eq_true rfl) rfl d_Mod_writesApply_49 ?_
          refine g_iload X 4 rfl d_Mod_writesApply_52 ?_
          refine g_icmp_ge X 69 d_Mod_writesApply_54 (by decide) (fun hc35 => ?_) (fun hc35 => ?_)
          · have hM := fa_if_t hM hc35
            refine g_iload X 4 rfl d_Mod_writesApply_69 ?_
            refine g_istorec X [(4, .int (fa_I x4)), (0, .ref (b + 181)), (1, .int (fa_I a1)), (2, .int (fa_I a2)), (3, .int (fa_I x3)), (5, .int (fa_I x5))] d_Mod_writesApply_71 (by decide) rfl ?_
            refine g_iinc X 5 (fun x5_36 => [(5, .int (fa_I x5_36)), (4, .int (fa_I x4)), (0, .ref (b + 181)), (1, .int (fa_I a1)), (2, .int (fa_I a2)), (3, .int (fa_I x3))]) d_Mod_writesApply_73 rfl (by decide) (fun _ => rfl) (fun x5_36 ex5_36 => ?_)
            have hM := fa_let_to hM ex5_36
            refine g_goto X 23 d_Mod_writesApply_76 (by decide) ?_
            exact g_lv [2, 3, 4, 5, 1, 0] rfl (ih _ _ _ _ hM)
          · have hM := fa_if_f hM hc35
            exact g_lv [0, 1, 2, 3, 5] rfl (c_Mod_writesApply_j57 X hle hN hT a1 a2 rc_writes Rrc_writes (fun x3 x4 x5 w9 => fm_Mod_writesApply_l23 a1 a2 rc_writes n x3 x4 x5 w9) (fun _ _ _ _ h => ih _ _ _ _ h)  _ _ _ hM)
def fm_Mod_writesApply_b (rc_writes : Int → Int → fa_W → Option fa_W) (a1 : Int) (a2 : Int) (w : fa_W) : Option fa_W :=
  (fa_ix a1 101).bind fun j1 =>
  (fa_ix (w 188 j1) 101).bind fun j2 =>
  fa_let (w 209 j2) fun x3_3 =>
  fa_let ((fm_Mod_functions w) - 1) fun x5_5 =>
  fm_Mod_writesApply_l23 a1 a2 rc_writes fa_FU x3_3 (-1) x5_5 w
set_option maxHeartbeats 4000000 in
set_option maxRecDepth 100000 in
theorem c_Mod_writesApply_b {l : Launch} {D : va_G} {b : Nat} {aC : Nat → ClassId} {H0 : Heap} {N T : Nat} (hN : fa_NM ≤ N) (hT : fa_TM ≤ T) (dd : Nat) (rc_writes : Int → Int → fa_W → Option fa_W) (Rrc_writes : ∀ (a1 : Int) (a2 : Int) (w : fa_W) (r : fa_W), rc_writes a1 a2 w = some r → fa_MC l D b aC H0 N T y_Mod_writes prog_12_method_77_code 3 ((Option.none : Option Jvm.ClassFile.FieldType)) (903 + dd) [.ref (b + 181), .int (fa_I a1), .int (fa_I a2)] w (none) r) (a1 : Int) (a2 : Int)  (w : fa_W) (r : fa_W) (hM : fm_Mod_writesApply_b rc_writes a1 a2 w = some r) : fa_MC l D b aC H0 N T y_Mod_writesApply prog_12_method_82_code 6 ((Option.none : Option Jvm.ClassFile.FieldType)) (903 + dd + 1) [.ref (b + 181), .int (fa_I a1), .int (fa_I a2)] w (none) r := by
  refine fa_enter (lv := [(0, .ref (b + 181)), (1, .int (fa_I a1)), (2, .int (fa_I a2))]) (by decide +kernel) (Nat.le_of_ble_eq_true rfl) rfl (fun hh hle hnm X => ?_)
  unfold fm_Mod_writesApply_b at hM
  refine g_aload_n X 0 rfl d_Mod_writesApply_0 ?_
  refine g_get X ck_10 fo_181 (fn_181 hN) 48 (by decide) wd_1789 rfl (fr_181_48 rfl hT) d_Mod_writesApply_1 ?_
  refine g_aload_n X 0 rfl d_Mod_writesApply_4 ?_
  refine g_get X ck_10 fo_181 (fn_181 hN) 8 (by decide) wd_1750 rfl (fr_181_8 rfl hT) d_Mod_writesApply_5 ?_
  refine g_iload_n X 1 rfl d_Mod_writesApply_8 ?_
  obtain ⟨j1, ej1, hM⟩ := fa_ob hM
  refine g_iald X fs_188 (fn_188 hN) ej1 d_Mod_writesApply_9 ?_
  obtain ⟨j2, ej2, hM⟩ := fa_ob hM
  refine g_iald X fs_209 (fn_209 hN) ej2 d_Mod_writesApply_10 ?_
  refine g_istore_n X (fun x3_3 => [(3, .int (fa_I x3_3)), (0, .ref (b + 181)), (1, .int (fa_I a1)), (2, .int (fa_I a2))]) d_Mod_writesApply_11 (by decide) (fun _ => rfl) (fun x3_3 ex3_3 => ?_)
  have hM := fa_let_to hM ex3_3
  refine g_iconst X d_Mod_writesApply_12 ?_
  refine g_istorec X [(4, .int (fa_I (-1))), (3, .int (fa_I x3_3)), (0, .ref (b + 181)), (1, .int (fa_I a1)), (2, .int (fa_I a2))] d_Mod_writesApply_13 (by decide) rfl ?_
  refine g_aload_n X 2 rfl d_Mod_writesApply_15 ?_
  refine g_callV_i X ck_10 fo_181 (fn_181 hN) rfl mi_Mod_functions (c_Mod_functions hN hT w _ rfl) wd_1644 rfl (by omega) (st := []) (Nat.le_of_ble_eq_true rfl) rfl d_Mod_writesApply_16 ?_
  refine g_iconst X d_Mod_writesApply_19 ?_
  refine g_isub X d_Mod_writesApply_20 ?_
  refine g_istore X (fun x5_5 => [(5, .int (fa_I x5_5)), (4, .int (fa_I (-1))), (3, .int (fa_I x3_3)), (0, .ref (b + 181)), (1, .int (fa_I a1)), (2, .int (fa_I a2))]) d_Mod_writesApply_21 (by decide) (fun _ => rfl) (fun x5_5 ex5_5 => ?_)
  have hM := fa_let_to hM ex5_5
  exact g_lv [3, 4, 5, 2, 1, 0] rfl (c_Mod_writesApply_l23 X hle hN hT a1 a2 rc_writes Rrc_writes  fa_FU _ _ _ _ hM)
def fm_writes_t : Nat → Nat → Int → Int → Int → fa_W → Option fa_W
  | 0, _, _, _, _, _ => none
  | n + 1, t, a1, a2, a3, w => match t with
    | 0 => fm_Mod_writes_b (fun z0 z1 w9 => fm_writes_t n 3 z0 z1 0 w9) (fun z0 z1 w9 => fm_writes_t n 0 z0 z1 0 w9) (fun z0 z1 z2 w9 => fm_writes_t n 1 z0 z1 z2 w9) (fun z0 z1 w9 => fm_writes_t n 4 z0 z1 0 w9) a1 a2 w
    | 1 => fm_Mod_writesTwo_b (fun z0 z1 w9 => fm_writes_t n 0 z0 z1 0 w9) a1 a2 a3 w
    | 2 => fm_Mod_writesBody_b (fun z0 z1 w9 => fm_writes_t n 0 z0 z1 0 w9) a1 a2 w
    | 3 => fm_Mod_writesLambda_b (fun z0 z1 w9 => fm_writes_t n 2 z0 z1 0 w9) a1 a2 w
    | 4 => fm_Mod_writesApply_b (fun z0 z1 w9 => fm_writes_t n 0 z0 z1 0 w9) a1 a2 w
    | _ => none
def fm_Mod_writes (n : Nat) (a1 : Int) (a2 : Int) (w : fa_W) : Option fa_W := fm_writes_t n 0 a1 a2 0 w
def fm_Mod_writesTwo (n : Nat) (a1 : Int) (a2 : Int) (a3 : Int) (w : fa_W) : Option fa_W := fm_writes_t n 1 a1 a2 a3 w
def fm_Mod_writesBody (n : Nat) (a1 : Int) (a2 : Int) (w : fa_W) : Option fa_W := fm_writes_t n 2 a1 a2 0 w
def fm_Mod_writesLambda (n : Nat) (a1 : Int) (a2 : Int) (w : fa_W) : Option fa_W := fm_writes_t n 3 a1 a2 0 w
def fm_Mod_writesApply (n : Nat) (a1 : Int) (a2 : Int) (w : fa_W) : Option fa_W := fm_writes_t n 4 a1 a2 0 w
set_option maxHeartbeats 4000000 in
set_option maxRecDepth 100000 in
theorem c_writes_t {l : Launch} {D : va_G} {b : Nat} {aC : Nat → ClassId} {H0 : Heap} {N T : Nat} (hN : fa_NM ≤ N) (hT : fa_TM ≤ T) : ∀ (n : Nat), (∀ (a1 : Int) (a2 : Int) (w : fa_W) (r : fa_W), fm_Mod_writes n a1 a2 w = some r → fa_MC l D b aC H0 N T y_Mod_writes prog_12_method_77_code 3 ((Option.none : Option Jvm.ClassFile.FieldType)) (903 + n) [.ref (b + 181), .int (fa_I a1), .int (fa_I a2)] w (none) r) ∧ (∀ (a1 : Int) (a2 : Int) (a3 : Int) (w : fa_W) (r : fa_W), fm_Mod_writesTwo n a1 a2 a3 w = some r → fa_MC l D b aC H0 N T y_Mod_writesTwo prog_12_method_78_code 4 ((Option.none : Option Jvm.ClassFile.FieldType)) (903 + n) [.ref (b + 181), .int (fa_I a1), .int (fa_I a2), .int (fa_I a3)] w (none) r) ∧ (∀ (a1 : Int) (a2 : Int) (w : fa_W) (r : fa_W), fm_Mod_writesBody n a1 a2 w = some r → fa_MC l D b aC H0 N T y_Mod_writesBody prog_12_method_79_code 3 ((Option.none : Option Jvm.ClassFile.FieldType)) (903 + n) [.ref (b + 181), .int (fa_I a1), .int (fa_I a2)] w (none) r) ∧ (∀ (a1 : Int) (a2 : Int) (w : fa_W) (r : fa_W), fm_Mod_writesLambda n a1 a2 w = some r → fa_MC l D b aC H0 N T y_Mod_writesLambda prog_12_method_80_code 3 ((Option.none : Option Jvm.ClassFile.FieldType)) (903 + n) [.ref (b + 181), .int (fa_I a1), .int (fa_I a2)] w (none) r) ∧ (∀ (a1 : Int) (a2 : Int) (w : fa_W) (r : fa_W), fm_Mod_writesApply n a1 a2 w = some r → fa_MC l D b aC H0 N T y_Mod_writesApply prog_12_method_82_code 6 ((Option.none : Option Jvm.ClassFile.FieldType)) (903 + n) [.ref (b + 181), .int (fa_I a1), .int (fa_I a2)] w (none) r) := by
  intro n
  induction n with
  | zero =>
    refine ⟨?_, ?_, ?_, ?_, ?_⟩ <;> (intros; rename_i hM; exact fa_no hM)
  | succ n ih =>
    obtain ⟨i0, i1, i2, i3, i4⟩ := ih
    refine ⟨?_, ?_, ?_, ?_, ?_⟩
    · intro a1 a2 w r hM; exact c_Mod_writes_b hN hT n _ i3 _ i0 _ i1 _ i4 a1 a2 w r hM
    · intro a1 a2 a3 w r hM; exact c_Mod_writesTwo_b hN hT n _ i0 a1 a2 a3 w r hM
    · intro a1 a2 w r hM; exact c_Mod_writesBody_b hN hT n _ i0 a1 a2 w r hM
    · intro a1 a2 w r hM; exact c_Mod_writesLambda_b hN hT n _ i2 a1 a2 w r hM
    · intro a1 a2 w r hM; exact c_Mod_writesApply_b hN hT n _ i0 a1 a2 w r hM
theorem c_Mod_writes {l : Launch} {D : va_G} {b : Nat} {aC : Nat → ClassId} {H0 : Heap} {N T : Nat} (hN : fa_NM ≤ N) (hT : fa_TM ≤ T) (n : Nat) (a1 : Int) (a2 : Int) (w : fa_W) (r : fa_W) (hM : fm_Mod_writes n a1 a2 w = some r) : fa_MC l D b aC H0 N T y_Mod_writes prog_12_method_77_code 3 ((Option.none : Option Jvm.ClassFile.FieldType)) (903 + n) [.ref (b + 181), .int (fa_I a1), .int (fa_I a2)] w (none) r := (c_writes_t hN hT n).1 a1 a2 w r hM
theorem c_Mod_writesTwo {l : Launch} {D : va_G} {b : Nat} {aC : Nat → ClassId} {H0 : Heap} {N T : Nat} (hN : fa_NM ≤ N) (hT : fa_TM ≤ T) (n : Nat) (a1 : Int) (a2 : Int) (a3 : Int) (w : fa_W) (r : fa_W) (hM : fm_Mod_writesTwo n a1 a2 a3 w = some r) : fa_MC l D b aC H0 N T y_Mod_writesTwo prog_12_method_78_code 4 ((Option.none : Option Jvm.ClassFile.FieldType)) (903 + n) [.ref (b + 181), .int (fa_I a1), .int (fa_I a2), .int (fa_I a3)] w (none) r := (c_writes_t hN hT n).2.1 a1 a2 a3 w r hM
theorem c_Mod_writesBody {l : Launch} {D : va_G} {b : Nat} {aC : Nat → ClassId} {H0 : Heap} {N T : Nat} (hN : fa_NM ≤ N) (hT : fa_TM ≤ T) (n : Nat) (a1 : Int) (a2 : Int) (w : fa_W) (r : fa_W) (hM : fm_Mod_writesBody n a1 a2 w = some r) : fa_MC l D b aC H0 N T y_Mod_writesBody prog_12_method_79_code 3 ((Option.none : Option Jvm.ClassFile.FieldType)) (903 + n) [.ref (b + 181), .int (fa_I a1), .int (fa_I a2)] w (none) r := (c_writes_t hN hT n).2.2.1 a1 a2 w r hM
theorem c_Mod_writesLambda {l : Launch} {D : va_G} {b : Nat} {aC : Nat → ClassId} {H0 : Heap} {N T : Nat} (hN : fa_NM ≤ N) (hT : fa_TM ≤ T) (n : Nat) (a1 : Int) (a2 : Int) (w : fa_W) (r : fa_W) (hM : fm_Mod_writesLambda n a1 a2 w = some r) : fa_MC l D b aC H0 N T y_Mod_writesLambda prog_12_method_80_code 3 ((Option.none : Option Jvm.ClassFile.FieldType)) (903 + n) [.ref (b + 181), .int (fa_I a1), .int (fa_I a2)] w (none) r := (c_writes_t hN hT n).2.2.2.1 a1 a2 w r hM
theorem c_Mod_writesApply {l : Launch} {D : va_G} {b : Nat} {aC : Nat → ClassId} {H0 : Heap} {N T : Nat} (hN : fa_NM ≤ N) (hT : fa_TM ≤ T) (n : Nat) (a1 : Int) (a2 : Int) (w : fa_W) (r : fa_W) (hM : fm_Mod_writesApply n a1 a2 w = some r) : fa_MC l D b aC H0 N T y_Mod_writesApply prog_12_method_82_code 6 ((Option.none : Option Jvm.ClassFile.FieldType)) (903 + n) [.ref (b + 181), .int (fa_I a1), .int (fa_I a2)] w (none) r := (c_writes_t hN hT n).2.2.2.2 a1 a2 w r hM
theorem d_Mod_writesProgram_0 : decode prog_12_method_83_code 0 = .ok (.aload_n 0, 1) := by decide +kernel
theorem d_Mod_writesProgram_1 : decode prog_12_method_83_code 1 = .ok (.iconst 0, 1) := by decide +kernel
theorem d_Mod_writesProgram_2 : decode prog_12_method_83_code 2 = .ok (.putfield 482, 3) := by decide +kernel
theorem d_Mod_writesProgram_5 : decode prog_12_method_83_code 5 = .ok (.iconst 0, 1) := by decide +kernel
theorem d_Mod_writesProgram_6 : decode prog_12_method_83_code 6 = .ok (.istore_n 2, 1) := by decide +kernel
theorem d_Mod_writesProgram_7 : decode prog_12_method_83_code 7 = .ok (.iload_n 2, 1) := by decide +kernel
theorem d_Mod_writesProgram_8 : decode prog_12_method_83_code 8 = .ok (.aload_n 0, 1) := by decide +kernel
theorem d_Mod_writesProgram_9 : decode prog_12_method_83_code 9 = .ok (.getfield 209, 3) := by decide +kernel
theorem d_Mod_writesProgram_12 : decode prog_12_method_83_code 12 = .ok (.if_icmp .ge 85, 3) := by decide +kernel
theorem d_Mod_writesProgram_15 : decode prog_12_method_83_code 15 = .ok (.iload_n 1, 1) := by decide +kernel
theorem d_Mod_writesProgram_16 : decode prog_12_method_83_code 16 = .ok (.iconst 1, 1) := by decide +kernel
theorem d_Mod_writesProgram_17 : decode prog_12_method_83_code 17 = .ok (.if_icmp .ne 17, 3) := by decide +kernel
theorem d_Mod_writesProgram_20 : decode prog_12_method_83_code 20 = .ok (.aload_n 0, 1) := by decide +kernel
theorem d_Mod_writesProgram_21 : decode prog_12_method_83_code 21 = .ok (.getfield 300, 3) := by decide +kernel
theorem d_Mod_writesProgram_24 : decode prog_12_method_83_code 24 = .ok (.iload_n 2, 1) := by decide +kernel
theorem d_Mod_writesProgram_25 : decode prog_12_method_83_code 25 = .ok (.invokestatic 326, 3) := by decide +kernel
theorem d_Mod_writesProgram_28 : decode prog_12_method_83_code 28 = .ok (.ifCond .ne 6, 3) := by decide +kernel
theorem d_Mod_writesProgram_31 : decode prog_12_method_83_code 31 = .ok (.goto 60, 3) := by decide +kernel
theorem d_Mod_writesProgram_34 : decode prog_12_method_83_code 34 = .ok (.aload_n 0, 1) := by decide +kernel
theorem d_Mod_writesProgram_35 : decode prog_12_method_83_code 35 = .ok (.getstatic 57, 3) := by decide +kernel
theorem d_Mod_writesProgram_38 : decode prog_12_method_83_code 38 = .ok (.invokevirtual 491, 3) := by decide +kernel
theorem d_Mod_writesProgram_41 : decode prog_12_method_83_code 41 = .ok (.aload_n 0, 1) := by decide +kernel
theorem d_Mod_writesProgram_42 : decode prog_12_method_83_code 42 = .ok (.bipush 32, 2) := by decide +kernel
theorem d_Mod_writesProgram_44 : decode prog_12_method_83_code 44 = .ok (.invokevirtual 494, 3) := by decide +kernel
theorem d_Mod_writesProgram_47 : decode prog_12_method_83_code 47 = .ok (.aload_n 0, 1) := by decide +kernel
theorem d_Mod_writesProgram_48 : decode prog_12_method_83_code 48 = .ok (.aload_n 0, 1) := by decide +kernel
theorem d_Mod_writesProgram_49 : decode prog_12_method_83_code 49 = .ok (.getfield 212, 3) := by decide +kernel
theorem d_Mod_writesProgram_52 : decode prog_12_method_83_code 52 = .ok (.iload_n 2, 1) := by decide +kernel
theorem d_Mod_writesProgram_53 : decode prog_12_method_83_code 53 = .ok (.iaload, 1) := by decide +kernel
theorem d_Mod_writesProgram_54 : decode prog_12_method_83_code 54 = .ok (.invokevirtual 491, 3) := by decide +kernel
theorem d_Mod_writesProgram_57 : decode prog_12_method_83_code 57 = .ok (.aload_n 0, 1) := by decide +kernel
theorem d_Mod_writesProgram_58 : decode prog_12_method_83_code 58 = .ok (.bipush 32, 2) := by decide +kernel
theorem d_Mod_writesProgram_60 : decode prog_12_method_83_code 60 = .ok (.invokevirtual 494, 3) := by decide +kernel
theorem d_Mod_writesProgram_63 : decode prog_12_method_83_code 63 = .ok (.aload_n 0, 1) := by decide +kernel
theorem d_Mod_writesProgram_64 : decode prog_12_method_83_code 64 = .ok (.aload_n 0, 1) := by decide +kernel
theorem d_Mod_writesProgram_65 : decode prog_12_method_83_code 65 = .ok (.getfield 116, 3) := by decide +kernel
theorem d_Mod_writesProgram_68 : decode prog_12_method_83_code 68 = .ok (.iload_n 2, 1) := by decide +kernel
theorem d_Mod_writesProgram_69 : decode prog_12_method_83_code 69 = .ok (.iaload, 1) := by decide +kernel
theorem d_Mod_writesProgram_70 : decode prog_12_method_83_code 70 = .ok (.invokevirtual 491, 3) := by decide +kernel
theorem d_Mod_writesProgram_73 : decode prog_12_method_83_code 73 = .ok (.aload_n 0, 1) := by decide +kernel
theorem d_Mod_writesProgram_74 : decode prog_12_method_83_code 74 = .ok (.bipush 61, 2) := by decide +kernel
theorem d_Mod_writesProgram_76 : decode prog_12_method_83_code 76 = .ok (.invokevirtual 494, 3) := by decide +kernel
theorem d_Mod_writesProgram_79 : decode prog_12_method_83_code 79 = .ok (.aload_n 0, 1) := by decide +kernel
theorem d_Mod_writesProgram_80 : decode prog_12_method_83_code 80 = .ok (.iload_n 2, 1) := by decide +kernel
theorem d_Mod_writesProgram_81 : decode prog_12_method_83_code 81 = .ok (.iload_n 1, 1) := by decide +kernel
theorem d_Mod_writesProgram_82 : decode prog_12_method_83_code 82 = .ok (.invokevirtual 516, 3) := by decide +kernel
theorem d_Mod_writesProgram_85 : decode prog_12_method_83_code 85 = .ok (.aload_n 0, 1) := by decide +kernel
theorem d_Mod_writesProgram_86 : decode prog_12_method_83_code 86 = .ok (.bipush 59, 2) := by decide +kernel
theorem d_Mod_writesProgram_88 : decode prog_12_method_83_code 88 = .ok (.invokevirtual 494, 3) := by decide +kernel
theorem d_Mod_writesProgram_91 : decode prog_12_method_83_code 91 = .ok (.iinc 2 1, 3) := by decide +kernel
theorem d_Mod_writesProgram_94 : decode prog_12_method_83_code 94 = .ok (.goto (-87), 3) := by decide +kernel
theorem d_Mod_writesProgram_97 : decode prog_12_method_83_code 97 = .ok (.aload_n 0, 1) := by decide +kernel
theorem d_Mod_writesProgram_98 : decode prog_12_method_83_code 98 = .ok (.aload_n 0, 1) := by decide +kernel
theorem d_Mod_writesProgram_99 : decode prog_12_method_83_code 99 = .ok (.getfield 218, 3) := by decide +kernel
theorem d_Mod_writesProgram_102 : decode prog_12_method_83_code 102 = .ok (.iload_n 1, 1) := by decide +kernel
theorem d_Mod_writesProgram_103 : decode prog_12_method_83_code 103 = .ok (.invokevirtual 506, 3) := by decide +kernel
theorem d_Mod_writesProgram_106 : decode prog_12_method_83_code 106 = .ok (.return_, 1) := by decide +kernel
def fm_Mod_writesProgram_j34 (a1 : Int) (k7 : Int → fa_W → Option fa_W) (x2 : Int) (w : fa_W) : Option fa_W :=
  (fm_Mod_saysWord 900 4955 w).bind fun w7 =>
  (fm_Mod_says 32 w7).bind fun w9 =>
  (fa_ix x2 6).bind fun j10 =>
  (fm_Mod_saysWord 900 (w9 190 j10) w9).bind fun w12 =>
  (fm_Mod_says 32 w12).bind fun w14 =>
  (fa_ix x2 124).bind fun j15 =>
  (fm_Mod_saysWord 900 (w14 192 j15) w14).bind fun w17 =>
  (fm_Mod_says 61 w17).bind fun w19 =>
  (fm_Mod_writesBody 900 x2 a1 w19).bind fun w21 =>
  (fm_Mod_says 59 w21).bind fun w23 =>
  fa_let (x2 + 1) fun x2_24 =>
  k7 x2_24 w23
set_option maxHeartbeats 4000000 in
set_option maxRecDepth 100000 in
theorem c_Mod_writesProgram_j34 {p : Program} {l : Launch} {e : Env} {s : State} {m : MethodId} {args : Array Value} {below : List Frame} {meth : Method} {c : Code} {hh : Nat} {D : va_G} {b : Nat} {aC : Nat → ClassId} {H0 : Heap} {N T : Nat} (X : fa_GX p s m args meth c prog_12_method_83_code 3 ((Option.none : Option Jvm.ClassFile.FieldType)) y_Mod_writesProgram.cls D b aC) (hle : 1804 ≤ hh) (hN : fa_NM ≤ N) (hT : fa_TM ≤ T) (a1 : Int) {r : fa_W} (k7 : Int → fa_W → Option fa_W) (K7 : ∀ (x2 : Int) (w : fa_W), k7 x2 w = some r → fa_GJ p l e (fa_rm hh) s m args below meth c 0 0 (MQ below (fa_Qc D b aC H0 N T (none) r) args s 0 0 (fun q => b ≤ q)) D b aC H0 N T 3 w 7 [(0, .ref (b + 181)), (1, .int (fa_I a1)), (2, .int (fa_I x2))] []) : ∀ (x2 : Int) (w : fa_W) (_ : fm_Mod_writesProgram_j34 a1 k7 x2 w = some r), fa_GJ p l e (fa_rm hh) s m args below meth c 0 0 (MQ below (fa_Qc D b aC H0 N T (none) r) args s 0 0 (fun q => b ≤ q)) D b aC H0 N T 3 w 34 [(0, .ref (b + 181)), (1, .int (fa_I a1)), (2, .int (fa_I x2))] [] := by
  intro x2 w hM
  unfold fm_Mod_writesProgram_j34 at hM
  refine g_aload_n X 0 rfl d_Mod_writesProgram_34 ?_
  refine g_gets X (n := "FUN") (v := 4955) (z := 4955) (by decide) wd_1511 rfl d_Mod_writesProgram_35 ?_
  obtain ⟨w7, e6, hM⟩ := fa_ob hM
  refine g_callV_v X ck_10 fo_181 (fn_181 hN) rfl mi_Mod_saysWord (c_Mod_saysWord hN hT 900 4955 w _ e6) wd_2049 rfl (Nat.le_trans (Nat.le_of_ble_eq_true rfl) hle) (st := []) (Nat.le_of_ble_eq_true rfl) rfl d_Mod_writesProgram_38 ?_
  refine g_aload_n X 0 rfl d_Mod_writesProgram_41 ?_
  refine g_bipush X (by decide) d_Mod_writesProgram_42 ?_
  obtain ⟨w9, e8, hM⟩ := fa_ob hM
  refine g_callV_v X ck_10 fo_181 (fn_181 hN) rfl mi_Mod_says (c_Mod_says hN hT 32 w7 _ e8) wd_2053 rfl (Nat.le_trans (Nat.le_of_ble_eq_true rfl) hle) (st := []) (Nat.le_of_ble_eq_true rfl) rfl d_Mod_writesProgram_44 ?_
  refine g_aload_n X 0 rfl d_Mod_writesProgram_47 ?_
  refine g_aload_n X 0 rfl d_Mod_writesProgram_48 ?_
  refine g_get X ck_10 fo_181 (fn_181 hN) 10 (by decide) wd_1752 rfl (fr_181_10 rfl hT) d_Mod_writesProgram_49 ?_
  refine g_iload_n X 2 rfl d_Mod_writesProgram_52 ?_
  obtain ⟨j10, ej10, hM⟩ := fa_ob hM
  refine g_iald X fs_190 (fn_190 hN) ej10 d_Mod_writesProgram_53 ?_
  obtain ⟨w12, e11, hM⟩ := fa_ob hM
  refine g_callV_v X ck_10 fo_181 (fn_181 hN) rfl mi_Mod_saysWord (c_Mod_saysWord hN hT 900 (w9 190 j10) w9 _ e11) wd_2049 rfl (Nat.le_trans (Nat.le_of_ble_eq_true rfl) hle) (st := []) (Nat.le_of_ble_eq_true rfl) rfl d_Mod_writesProgram_54 ?_
  refine g_aload_n X 0 rfl d_Mod_writesProgram_57 ?_
  refine g_bipush X (by decide) d_Mod_writesProgram_58 ?_
  obtain ⟨w14, e13, hM⟩ := fa_ob hM
  refine g_callV_v X ck_10 fo_181 (fn_181 hN) rfl mi_Mod_says (c_Mod_says hN hT 32 w12 _ e13) wd_2053 rfl (Nat.le_trans (Nat.le_of_ble_eq_true rfl) hle) (st := []) (Nat.le_of_ble_eq_true rfl) rfl d_Mod_writesProgram_60 ?_
  refine g_aload_n X 0 rfl d_Mod_writesProgram_63 ?_
  refine g_aload_n X 0 rfl d_Mod_writesProgram_64 ?_
  refine g_get X ck_10 fo_181 (fn_181 hN) 12 (by decide) wd_1754 rfl (fr_181_12 rfl hT) d_Mod_writesProgram_65 ?_
  refine g_iload_n X 2 rfl d_Mod_writesProgram_68 ?_
  obtain ⟨j15, ej15, hM⟩ := fa_ob hM
  refine g_iald X fs_192 (fn_192 hN) ej15 d_Mod_writesProgram_69 ?_
  obtain ⟨w17, e16, hM⟩ := fa_ob hM
  refine g_callV_v X ck_10 fo_181 (fn_181 hN) rfl mi_Mod_saysWord (c_Mod_saysWord hN hT 900 (w14 192 j15) w14 _ e16) wd_2049 rfl (Nat.le_trans (Nat.le_of_ble_eq_true rfl) hle) (st := []) (Nat.le_of_ble_eq_true rfl) rfl d_Mod_writesProgram_70 ?_
  refine g_aload_n X 0 rfl d_Mod_writesProgram_73 ?_
  refine g_bipush X (by decide) d_Mod_writesProgram_74 ?_
  obtain ⟨w19, e18, hM⟩ := fa_ob hM
  refine g_callV_v X ck_10 fo_181 (fn_181 hN) rfl mi_Mod_says (c_Mod_says hN hT 61 w17 _ e18) wd_2053 rfl (Nat.le_trans (Nat.le_of_ble_eq_true rfl) hle) (st := []) (Nat.le_of_ble_eq_true rfl) rfl d_Mod_writesProgram_76 ?_
  refine g_aload_n X 0 rfl d_Mod_writesProgram_79 ?_
  refine g_iload_n X 2 rfl d_Mod_writesProgram_80 ?_
  refine g_iload_n X 1 rfl d_Mod_writesProgram_81 ?_
  obtain ⟨w21, e20, hM⟩ := fa_ob hM
  refine g_callV_v X ck_10 fo_181 (fn_181 hN) rfl mi_Mod_writesBody (c_Mod_writesBody hN hT 900 x2 a1 w19 _ e20) wd_2057 rfl (Nat.le_trans (Nat.le_of_ble_eq_true rfl) hle) (st := []) (Nat.le_of_ble_eq_true rfl) rfl d_Mod_writesProgram_82 ?_
  refine g_aload_n X 0 rfl d_Mod_writesProgram_85 ?_
  refine g_bipush X (by decide) d_Mod_writesProgram_86 ?_
  obtain ⟨w23, e22, hM⟩ := fa_ob hM
  refine g_callV_v X ck_10 fo_181 (fn_181 hN) rfl mi_Mod_says (c_Mod_says hN hT 59 w21 _ e22) wd_2053 rfl (Nat.le_trans (Nat.le_of_ble_eq_true rfl) hle) (st := []) (Nat.le_of_ble_eq_true rfl) rfl d_Mod_writesProgram_88 ?_
  refine g_iinc X 2 (fun x2_24 => [(2, .int (fa_I x2_24)), (0, .ref (b + 181)), (1, .int (fa_I a1))]) d_Mod_writesProgram_91 rfl (by decide) (fun _ => rfl) (fun x2_24 ex2_24 => ?_)
  have hM := fa_let_to hM ex2_24
  refine g_goto X 7 d_Mod_writesProgram_94 (by decide) ?_
  exact g_lv [1, 2, 0] rfl (K7 _ _ hM)
def fm_Mod_writesProgram_l7 (a1 : Int) : Nat → Int → fa_W → Option fa_W
  | 0, _, _ => none
  | n + 1, x2, w => if fa_wr (w 181 17) ≤ fa_wr x2 then
  ((fm_Mod_writes 900 (w 181 21) a1 w).bind fun w4 =>
  some w4)
  else
  (if fa_wr a1 = 1 then
  (if fm_Mod_holds (w 181 52) x2 w = true then
  fm_Mod_writesProgram_j34 a1 (fun x2 w9 => fm_Mod_writesProgram_l7 a1 n x2 w9) x2 w
  else
  (fa_let (x2 + 1) fun x2_27 =>
  fm_Mod_writesProgram_l7 a1 n x2_27 w))
  else
  fm_Mod_writesProgram_j34 a1 (fun x2 w9 => fm_Mod_writesProgram_l7 a1 n x2 w9) x2 w)
set_option maxHeartbeats 4000000 in
set_option maxRecDepth 100000 in
theorem c_Mod_writesProgram_l7 {p : Program} {l : Launch} {e : Env} {s : State} {m : MethodId} {args : Array Value} {below : List Frame} {meth : Method} {c : Code} {hh : Nat} {D : va_G} {b : Nat} {aC : Nat → ClassId} {H0 : Heap} {N T : Nat} (X : fa_GX p s m args meth c prog_12_method_83_code 3 ((Option.none : Option Jvm.ClassFile.FieldType)) y_Mod_writesProgram.cls D b aC) (hle : 1804 ≤ hh) (hN : fa_NM ≤ N) (hT : fa_TM ≤ T) (a1 : Int) {r : fa_W}  : ∀ (n : Nat) (x2 : Int) (w : fa_W), fm_Mod_writesProgram_l7 a1 n x2 w = some r → fa_GJ p l e (fa_rm hh) s m args below meth c 0 0 (MQ below (fa_Qc D b aC H0 N T (none) r) args s 0 0 (fun q => b ≤ q)) D b aC H0 N T 3 w 7 [(0, .ref (b + 181)), (1, .int (fa_I a1)), (2, .int (fa_I x2))] [] := by
  intro n
  induction n with
  | zero => intro x2 w hM; exact fa_no hM
  | succ n ih =>
    intro x2 w hM
    rw [fm_Mod_writesProgram_l7] at hM
    refine g_iload_n X 2 rfl d_Mod_writesProgram_7 ?_
    refine g_aload_n X 0 rfl d_Mod_writesProgram_8 ?_
    refine g_get X ck_10 fo_181 (fn_181 hN) 17 (by decide) wd_1759 rfl (fa_fvI rfl) d_Mod_writesProgram_9 ?_
    refine g_icmp_ge X 97 d_Mod_writesProgram_12 (by decide) (fun hc2 => ?_) (fun hc2 => ?_)
    · have hM := fa_if_t hM hc2
      refine g_aload_n X 0 rfl d_Mod_writesProgram_97 ?_
      refine g_aload_n X 0 rfl d_Mod_writesProgram_98 ?_
      refine g_get X ck_10 fo_181 (fn_181 hN) 21 (by decide) wd_1763 rfl (fa_fvI rfl) d_Mod_writesProgram_99 ?_
      refine g_iload_n X 1 rfl d_Mod_writesProgram_102 ?_
      obtain ⟨w4, e3, hM⟩ := fa_ob hM
      refine g_callV_v X ck_10 fo_181 (fn_181 hN) rfl mi_Mod_writes (c_Mod_writes hN hT 900 (w 181 21) a1 w _ e3) wd_2061 rfl (Nat.le_trans (Nat.le_of_ble_eq_true rfl) hle) (st := []) (Nat.le_of_ble_eq_true rfl) rfl d_Mod_writesProgram_103 ?_
      cases hM
      exact g_vret X d_Mod_writesProgram_106
    · have hM := fa_if_f hM hc2
      refine g_iload_n X 1 rfl d_Mod_writesProgram_15 ?_
      refine g_iconst X d_Mod_writesProgram_16 ?_
      refine g_icmp_ne X 34 d_Mod_writesProgram_17 (by decide) (fun hc5 => ?_) (fun hc5 => ?_)
      · have hM := fa_if_f hM hc5
        exact g_lv [0, 1, 2] rfl (c_Mod_writesProgram_j34 X hle hN hT a1  (fun x2 w9 => fm_Mod_writesProgram_l7 a1 n x2 w9) (fun _ _ h => ih _ _ h)  _ _ hM)
      · have hM := fa_if_t hM hc5
        refine g_aload_n X 0 rfl d_Mod_writesProgram_20 ?_
        refine g_get X ck_10 fo_181 (fn_181 hN) 52 (by decide) wd_1793 rfl (fa_fvI rfl) d_Mod_writesProgram_21 ?_
        refine g_iload_n X 2 rfl d_Mod_writesProgram_24 ?_
        refine g_callS_i X mi_Mod_holds (c_Mod_holds hN hT (w 181 52) x2 w _ rfl) wd_1691 rfl (Nat.le_trans (Nat.le_of_ble_eq_true rfl) hle) (st := []) (Nat.le_of_ble_eq_true rfl) rfl d_Mod_writesProgram_25 ?_
        refine g_ifb_ne X 34 d_Mod_writesProgram_28 (by decide) (fun hc26 => ?_) (fun hc26 => ?_)
        · have hM := fa_ifb_t hM hc26
          exact g_lv [0, 1, 2] rfl (c_Mod_writesProgram_j34 X hle hN hT a1  (fun x2 w9 => fm_Mod_writesProgram_l7 a1 n x2 w9) (fun _ _ h => ih _ _ h)  _ _ hM)
        · have hM := fa_ifb_f hM hc26
          refine g_goto X 91 d_Mod_writesProgram_31 (by decide) ?_
          refine g_iinc X 2 (fun x2_27 => [(2, .int (fa_I x2_27)), (0, .ref (b + 181)), (1, .int (fa_I a1))]) d_Mod_writesProgram_91 rfl (by decide) (fun _ => rfl) (fun x2_27 ex2_27 => ?_)
          have hM := fa_let_to hM ex2_27
          refine g_goto X 7 d_Mod_writesProgram_94 (by decide) ?_
          exact g_lv [1, 2, 0] rfl (ih _ _ hM)
def fm_Mod_writesProgram (a1 : Int) (w : fa_W) : Option fa_W :=
  fa_let (fa_st w 181 70 0) fun w1 =>
  fm_Mod_writesProgram_l7 a1 fa_FU 0 w1
set_option maxHeartbeats 4000000 in
set_option maxRecDepth 100000 in
theorem c_Mod_writesProgram {l : Launch} {D : va_G} {b : Nat} {aC : Nat → ClassId} {H0 : Heap} {N T : Nat} (hN : fa_NM ≤ N) (hT : fa_TM ≤ T) (a1 : Int)  (w : fa_W) (r : fa_W) (hM : fm_Mod_writesProgram a1 w = some r) : fa_MC l D b aC H0 N T y_Mod_writesProgram prog_12_method_83_code 3 ((Option.none : Option Jvm.ClassFile.FieldType)) (1804) [.ref (b + 181), .int (fa_I a1)] w (none) r := by
  refine fa_enter (lv := [(0, .ref (b + 181)), (1, .int (fa_I a1))]) (by decide +kernel) (Nat.le_of_ble_eq_true rfl) rfl (fun hh hle hnm X => ?_)
  unfold fm_Mod_writesProgram at hM
  refine g_aload_n X 0 rfl d_Mod_writesProgram_0 ?_
  refine g_iconst X d_Mod_writesProgram_1 ?_
  refine g_put X ck_10 fo_181 (fn_181 hN) 70 (z := 0) (by decide) wd_1811 rfl (fa_fvI' rfl) rfl rfl rfl d_Mod_writesProgram_2 (fun w1 ew1 => ?_)
  have hM := fa_let_to hM ew1
  refine g_iconst X d_Mod_writesProgram_5 ?_
  refine g_istorec_n X [(2, .int (fa_I 0)), (0, .ref (b + 181)), (1, .int (fa_I a1))] d_Mod_writesProgram_6 (by decide) rfl ?_
  exact g_lv [1, 2, 0] rfl (c_Mod_writesProgram_l7 X hle hN hT a1   fa_FU _ _ hM)
theorem d_Mod_writesBack_0 : decode prog_12_method_84_code 0 = .ok (.aload_n 0, 1) := by decide +kernel
theorem d_Mod_writesBack_1 : decode prog_12_method_84_code 1 = .ok (.iconst 1, 1) := by decide +kernel
theorem d_Mod_writesBack_2 : decode prog_12_method_84_code 2 = .ok (.invokevirtual 519, 3) := by decide +kernel
theorem d_Mod_writesBack_5 : decode prog_12_method_84_code 5 = .ok (.return_, 1) := by decide +kernel
def fm_Mod_writesBack (w : fa_W) : Option fa_W :=
  (fm_Mod_writesProgram 1 w).bind fun w2 =>
  some w2
set_option maxHeartbeats 4000000 in
set_option maxRecDepth 100000 in
theorem c_Mod_writesBack {l : Launch} {D : va_G} {b : Nat} {aC : Nat → ClassId} {H0 : Heap} {N T : Nat} (hN : fa_NM ≤ N) (hT : fa_TM ≤ T)   (w : fa_W) (r : fa_W) (hM : fm_Mod_writesBack w = some r) : fa_MC l D b aC H0 N T y_Mod_writesBack prog_12_method_84_code 1 ((Option.none : Option Jvm.ClassFile.FieldType)) (1805) [.ref (b + 181)] w (none) r := by
  refine fa_enter (lv := [(0, .ref (b + 181))]) (by decide +kernel) (Nat.le_of_ble_eq_true rfl) rfl (fun hh hle hnm X => ?_)
  unfold fm_Mod_writesBack at hM
  refine g_aload_n X 0 rfl d_Mod_writesBack_0 ?_
  refine g_iconst X d_Mod_writesBack_1 ?_
  obtain ⟨w2, e1, hM⟩ := fa_ob hM
  refine g_callV_v X ck_10 fo_181 (fn_181 hN) rfl mi_Mod_writesProgram (c_Mod_writesProgram hN hT 1 w _ e1) wd_2045 rfl (Nat.le_trans (Nat.le_of_ble_eq_true rfl) hle) (st := []) (Nat.le_of_ble_eq_true rfl) rfl d_Mod_writesBack_2 ?_
  cases hM
  exact g_vret X d_Mod_writesBack_5
theorem d_Mod_take_0 : decode prog_12_method_73_code 0 = .ok (.aload_n 0, 1) := by decide +kernel
theorem d_Mod_take_1 : decode prog_12_method_73_code 1 = .ok (.iconst 0, 1) := by decide +kernel
theorem d_Mod_take_2 : decode prog_12_method_73_code 2 = .ok (.putfield 1, 3) := by decide +kernel
theorem d_Mod_take_5 : decode prog_12_method_73_code 5 = .ok (.aload_n 0, 1) := by decide +kernel
theorem d_Mod_take_6 : decode prog_12_method_73_code 6 = .ok (.invokevirtual 488, 3) := by decide +kernel
theorem d_Mod_take_9 : decode prog_12_method_73_code 9 = .ok (.aload_n 0, 1) := by decide +kernel
theorem d_Mod_take_10 : decode prog_12_method_73_code 10 = .ok (.aload_n 0, 1) := by decide +kernel
theorem d_Mod_take_11 : decode prog_12_method_73_code 11 = .ok (.getfield 482, 3) := by decide +kernel
theorem d_Mod_take_14 : decode prog_12_method_73_code 14 = .ok (.putfield 21, 3) := by decide +kernel
theorem d_Mod_take_17 : decode prog_12_method_73_code 17 = .ok (.iconst 0, 1) := by decide +kernel
theorem d_Mod_take_18 : decode prog_12_method_73_code 18 = .ok (.istore_n 1, 1) := by decide +kernel
theorem d_Mod_take_19 : decode prog_12_method_73_code 19 = .ok (.iload_n 1, 1) := by decide +kernel
theorem d_Mod_take_20 : decode prog_12_method_73_code 20 = .ok (.aload_n 0, 1) := by decide +kernel
theorem d_Mod_take_21 : decode prog_12_method_73_code 21 = .ok (.getfield 482, 3) := by decide +kernel
theorem d_Mod_take_24 : decode prog_12_method_73_code 24 = .ok (.if_icmp .ge 21, 3) := by decide +kernel
theorem d_Mod_take_27 : decode prog_12_method_73_code 27 = .ok (.aload_n 0, 1) := by decide +kernel
theorem d_Mod_take_28 : decode prog_12_method_73_code 28 = .ok (.getfield 24, 3) := by decide +kernel
theorem d_Mod_take_31 : decode prog_12_method_73_code 31 = .ok (.iload_n 1, 1) := by decide +kernel
theorem d_Mod_take_32 : decode prog_12_method_73_code 32 = .ok (.aload_n 0, 1) := by decide +kernel
theorem d_Mod_take_33 : decode prog_12_method_73_code 33 = .ok (.getfield 417, 3) := by decide +kernel
theorem d_Mod_take_36 : decode prog_12_method_73_code 36 = .ok (.iload_n 1, 1) := by decide +kernel
theorem d_Mod_take_37 : decode prog_12_method_73_code 37 = .ok (.baload, 1) := by decide +kernel
theorem d_Mod_take_38 : decode prog_12_method_73_code 38 = .ok (.bastore, 1) := by decide +kernel
theorem d_Mod_take_39 : decode prog_12_method_73_code 39 = .ok (.iinc 1 1, 3) := by decide +kernel
theorem d_Mod_take_42 : decode prog_12_method_73_code 42 = .ok (.goto (-23), 3) := by decide +kernel
theorem d_Mod_take_45 : decode prog_12_method_73_code 45 = .ok (.aload_n 0, 1) := by decide +kernel
theorem d_Mod_take_46 : decode prog_12_method_73_code 46 = .ok (.iconst 1, 1) := by decide +kernel
theorem d_Mod_take_47 : decode prog_12_method_73_code 47 = .ok (.invokevirtual 463, 3) := by decide +kernel
theorem d_Mod_take_50 : decode prog_12_method_73_code 50 = .ok (.istore_n 1, 1) := by decide +kernel
theorem d_Mod_take_51 : decode prog_12_method_73_code 51 = .ok (.aload_n 0, 1) := by decide +kernel
theorem d_Mod_take_52 : decode prog_12_method_73_code 52 = .ok (.invokevirtual 467, 3) := by decide +kernel
theorem d_Mod_take_55 : decode prog_12_method_73_code 55 = .ok (.aload_n 0, 1) := by decide +kernel
theorem d_Mod_take_56 : decode prog_12_method_73_code 56 = .ok (.invokevirtual 270, 3) := by decide +kernel
theorem d_Mod_take_59 : decode prog_12_method_73_code 59 = .ok (.ireturn, 1) := by decide +kernel
def fm_Mod_take_l19  : Nat → Int → fa_W → Option (Int × fa_W)
  | 0, _, _ => none
  | n + 1, x1, w => if fa_wr (w 181 70) ≤ fa_wr x1 then
  (fa_bd (fm_Mod_readsAll true w) fun v7 w8 =>
  (fm_Mod_keeps w8).bind fun w10 =>
  some (fm_Mod_functions w10, w10))
  else
  ((fa_ix x1 40000).bind fun j12 =>
  (fa_ix x1 40000).bind fun j13 =>
  fa_let (fa_st w 196 j13 (fa_i2b (w 197 j12))) fun w14 =>
  fa_let (x1 + 1) fun x1_15 =>
  fm_Mod_take_l19 n x1_15 w14)
set_option maxHeartbeats 4000000 in
set_option maxRecDepth 100000 in
theorem c_Mod_take_l19 {p : Program} {l : Launch} {e : Env} {s : State} {m : MethodId} {args : Array Value} {below : List Frame} {meth : Method} {c : Code} {hh : Nat} {D : va_G} {b : Nat} {aC : Nat → ClassId} {H0 : Heap} {N T : Nat} (X : fa_GX p s m args meth c prog_12_method_73_code 2 ((Option.some Jvm.ClassFile.FieldType.int)) y_Mod_take.cls D b aC) (hle : 1806 ≤ hh) (hN : fa_NM ≤ N) (hT : fa_TM ≤ T) {r : Int × fa_W}  : ∀ (n : Nat) (x1 : Int) (w : fa_W), fm_Mod_take_l19 n x1 w = some r → fa_GJ p l e (fa_rm hh) s m args below meth c 0 0 (MQ below (fa_Qc D b aC H0 N T (some (.int (fa_I r.1))) r.2) args s 0 0 (fun q => b ≤ q)) D b aC H0 N T 2 w 19 [(0, .ref (b + 181)), (1, .int (fa_I x1))] [] := by
  intro n
  induction n with
  | zero => intro x1 w hM; exact fa_no hM
  | succ n ih =>
    intro x1 w hM
    rw [fm_Mod_take_l19] at hM
    refine g_iload_n X 1 rfl d_Mod_take_19 ?_
    refine g_aload_n X 0 rfl d_Mod_take_20 ?_
    refine g_get X ck_10 fo_181 (fn_181 hN) 70 (by decide) wd_1811 rfl (fa_fvI rfl) d_Mod_take_21 ?_
    refine g_icmp_ge X 45 d_Mod_take_24 (by decide) (fun hc5 => ?_) (fun hc5 => ?_)
    · have hM := fa_if_t hM hc5
      refine g_aload_n X 0 rfl d_Mod_take_45 ?_
      refine g_iconst X d_Mod_take_46 ?_
      obtain ⟨v7, w8, e6, hM⟩ := fa_obd hM
      refine g_callV_i X ck_10 fo_181 (fn_181 hN) rfl mi_Mod_readsAll (c_Mod_readsAll hN hT true w _ e6) wd_1486 rfl (Nat.le_trans (Nat.le_of_ble_eq_true rfl) hle) (st := []) (Nat.le_of_ble_eq_true rfl) rfl d_Mod_take_47 ?_
      refine g_istorec_n X [(1, .int (fa_I (fa_bi v7))), (0, .ref (b + 181))] d_Mod_take_50 (by decide) rfl ?_
      refine g_aload_n X 1 rfl d_Mod_take_51 ?_
      obtain ⟨w10, e9, hM⟩ := fa_ob hM
      refine g_callV_v X ck_10 fo_181 (fn_181 hN) rfl mi_Mod_keeps (c_Mod_keeps hN hT w8 _ e9) wd_1738 rfl (Nat.le_trans (Nat.le_of_ble_eq_true rfl) hle) (st := []) (Nat.le_of_ble_eq_true rfl) rfl d_Mod_take_52 ?_
      refine g_aload_n X 1 rfl d_Mod_take_55 ?_
      refine g_callV_i X ck_10 fo_181 (fn_181 hN) rfl mi_Mod_functions (c_Mod_functions hN hT w10 _ rfl) wd_1644 rfl (Nat.le_trans (Nat.le_of_ble_eq_true rfl) hle) (st := []) (Nat.le_of_ble_eq_true rfl) rfl d_Mod_take_56 ?_
      cases hM
      exact g_iret X d_Mod_take_59
    · have hM := fa_if_f hM hc5
      refine g_aload_n X 0 rfl d_Mod_take_27 ?_
      refine g_get X ck_10 fo_181 (fn_181 hN) 22 (by decide) wd_1764 rfl (fr_181_22 rfl hT) d_Mod_take_28 ?_
      refine g_iload_n X 1 rfl d_Mod_take_31 ?_
      refine g_aload_n X 0 rfl d_Mod_take_32 ?_
      refine g_get X ck_10 fo_181 (fn_181 hN) 23 (by decide) wd_1765 rfl (fr_181_23 rfl hT) d_Mod_take_33 ?_
      refine g_iload_n X 1 rfl d_Mod_take_36 ?_
      obtain ⟨j12, ej12, hM⟩ := fa_ob hM
      refine g_bald X fs_197 (fn_197 hN) ej12 d_Mod_take_37 ?_
      obtain ⟨j13, ej13, hM⟩ := fa_ob hM
      refine g_bast X fs_196 (fn_196 hN) ej13 d_Mod_take_38 (fun w14 ew14 => ?_)
      have hM := fa_let_to hM ew14
      refine g_iinc X 1 (fun x1_15 => [(1, .int (fa_I x1_15)), (0, .ref (b + 181))]) d_Mod_take_39 rfl (by decide) (fun _ => rfl) (fun x1_15 ex1_15 => ?_)
      have hM := fa_let_to hM ex1_15
      refine g_goto X 19 d_Mod_take_42 (by decide) ?_
      exact g_lv [1, 0] rfl (ih _ _ hM)
def fm_Mod_take (w : fa_W) : Option (Int × fa_W) :=
  fa_let (fa_st w 181 0 0) fun w1 =>
  (fm_Mod_writesBack w1).bind fun w3 =>
  fa_let (fa_st w3 181 25 (w3 181 70)) fun w4 =>
  fm_Mod_take_l19 fa_FU 0 w4
set_option maxHeartbeats 4000000 in
set_option maxRecDepth 100000 in
theorem c_Mod_take {l : Launch} {D : va_G} {b : Nat} {aC : Nat → ClassId} {H0 : Heap} {N T : Nat} (hN : fa_NM ≤ N) (hT : fa_TM ≤ T)   (w : fa_W) (r : Int × fa_W) (hM : fm_Mod_take w = some r) : fa_MC l D b aC H0 N T y_Mod_take prog_12_method_73_code 2 ((Option.some Jvm.ClassFile.FieldType.int)) (1806) [.ref (b + 181)] w (some (.int (fa_I r.1))) r.2 := by
  refine fa_enter (lv := [(0, .ref (b + 181))]) (by decide +kernel) (Nat.le_of_ble_eq_true rfl) rfl (fun hh hle hnm X => ?_)
  unfold fm_Mod_take at hM
  refine g_aload_n X 0 rfl d_Mod_take_0 ?_
  refine g_iconst X d_Mod_take_1 ?_
  refine g_put X ck_10 fo_181 (fn_181 hN) 0 (z := 0) (by decide) wd_1742 rfl (fa_fvI' rfl) rfl rfl rfl d_Mod_take_2 (fun w1 ew1 => ?_)
  have hM := fa_let_to hM ew1
  refine g_aload_n X 0 rfl d_Mod_take_5 ?_
  obtain ⟨w3, e2, hM⟩ := fa_ob hM
  refine g_callV_v X ck_10 fo_181 (fn_181 hN) rfl mi_Mod_writesBack (c_Mod_writesBack hN hT w1 _ e2) wd_2041 rfl (Nat.le_trans (Nat.le_of_ble_eq_true rfl) hle) (st := []) (Nat.le_of_ble_eq_true rfl) rfl d_Mod_take_6 ?_
  refine g_aload_n X 0 rfl d_Mod_take_9 ?_
  refine g_aload_n X 0 rfl d_Mod_take_10 ?_
  refine g_get X ck_10 fo_181 (fn_181 hN) 70 (by decide) wd_1811 rfl (fa_fvI rfl) d_Mod_take_11 ?_
  refine g_put X ck_10 fo_181 (fn_181 hN) 25 (z := (w3 181 70)) (by decide) wd_1766 rfl (fa_fvI' rfl) rfl rfl rfl d_Mod_take_14 (fun w4 ew4 => ?_)
  have hM := fa_let_to hM ew4
  refine g_iconst X d_Mod_take_17 ?_
  refine g_istorec_n X [(1, .int (fa_I 0)), (0, .ref (b + 181))] d_Mod_take_18 (by decide) rfl ?_
  exact g_lv [1, 0] rfl (c_Mod_take_l19 X hle hN hT   fa_FU _ _ hM)
theorem d_Mod_writesForm_0 : decode prog_12_method_85_code 0 = .ok (.aload_n 0, 1) := by decide +kernel
theorem d_Mod_writesForm_1 : decode prog_12_method_85_code 1 = .ok (.iconst 0, 1) := by decide +kernel
theorem d_Mod_writesForm_2 : decode prog_12_method_85_code 2 = .ok (.putfield 482, 3) := by decide +kernel
theorem d_Mod_writesForm_5 : decode prog_12_method_85_code 5 = .ok (.iconst 0, 1) := by decide +kernel
theorem d_Mod_writesForm_6 : decode prog_12_method_85_code 6 = .ok (.istore_n 2, 1) := by decide +kernel
theorem d_Mod_writesForm_7 : decode prog_12_method_85_code 7 = .ok (.iload_n 2, 1) := by decide +kernel
theorem d_Mod_writesForm_8 : decode prog_12_method_85_code 8 = .ok (.aload_n 0, 1) := by decide +kernel
theorem d_Mod_writesForm_9 : decode prog_12_method_85_code 9 = .ok (.getfield 356, 3) := by decide +kernel
theorem d_Mod_writesForm_12 : decode prog_12_method_85_code 12 = .ok (.iload_n 1, 1) := by decide +kernel
theorem d_Mod_writesForm_13 : decode prog_12_method_85_code 13 = .ok (.iaload, 1) := by decide +kernel
theorem d_Mod_writesForm_14 : decode prog_12_method_85_code 14 = .ok (.if_icmp .ge 141, 3) := by decide +kernel
theorem d_Mod_writesForm_17 : decode prog_12_method_85_code 17 = .ok (.aload_n 0, 1) := by decide +kernel
theorem d_Mod_writesForm_18 : decode prog_12_method_85_code 18 = .ok (.iload_n 1, 1) := by decide +kernel
theorem d_Mod_writesForm_19 : decode prog_12_method_85_code 19 = .ok (.iload_n 2, 1) := by decide +kernel
theorem d_Mod_writesForm_20 : decode prog_12_method_85_code 20 = .ok (.invokevirtual 522, 3) := by decide +kernel
theorem d_Mod_writesForm_23 : decode prog_12_method_85_code 23 = .ok (.aload_n 0, 1) := by decide +kernel
theorem d_Mod_writesForm_24 : decode prog_12_method_85_code 24 = .ok (.getfield 323, 3) := by decide +kernel
theorem d_Mod_writesForm_27 : decode prog_12_method_85_code 27 = .ok (.iand, 1) := by decide +kernel
theorem d_Mod_writesForm_28 : decode prog_12_method_85_code 28 = .ok (.istore_n 3, 1) := by decide +kernel
theorem d_Mod_writesForm_29 : decode prog_12_method_85_code 29 = .ok (.iload_n 3, 1) := by decide +kernel
theorem d_Mod_writesForm_30 : decode prog_12_method_85_code 30 = .ok (.ifCond .ne 6, 3) := by decide +kernel
theorem d_Mod_writesForm_33 : decode prog_12_method_85_code 33 = .ok (.goto 116, 3) := by decide +kernel
theorem d_Mod_writesForm_36 : decode prog_12_method_85_code 36 = .ok (.aload_n 0, 1) := by decide +kernel
theorem d_Mod_writesForm_37 : decode prog_12_method_85_code 37 = .ok (.bipush 97, 2) := by decide +kernel
theorem d_Mod_writesForm_39 : decode prog_12_method_85_code 39 = .ok (.invokevirtual 494, 3) := by decide +kernel
theorem d_Mod_writesForm_42 : decode prog_12_method_85_code 42 = .ok (.aload_n 0, 1) := by decide +kernel
theorem d_Mod_writesForm_43 : decode prog_12_method_85_code 43 = .ok (.iload_n 2, 1) := by decide +kernel
theorem d_Mod_writesForm_44 : decode prog_12_method_85_code 44 = .ok (.invokevirtual 497, 3) := by decide +kernel
theorem d_Mod_writesForm_47 : decode prog_12_method_85_code 47 = .ok (.aload_n 0, 1) := by decide +kernel
theorem d_Mod_writesForm_48 : decode prog_12_method_85_code 48 = .ok (.bipush 58, 2) := by decide +kernel
theorem d_Mod_writesForm_50 : decode prog_12_method_85_code 50 = .ok (.invokevirtual 494, 3) := by decide +kernel
theorem d_Mod_writesForm_53 : decode prog_12_method_85_code 53 = .ok (.aload_n 0, 1) := by decide +kernel
theorem d_Mod_writesForm_54 : decode prog_12_method_85_code 54 = .ok (.bipush 123, 2) := by decide +kernel
theorem d_Mod_writesForm_56 : decode prog_12_method_85_code 56 = .ok (.invokevirtual 494, 3) := by decide +kernel
theorem d_Mod_writesForm_59 : decode prog_12_method_85_code 59 = .ok (.iconst 1, 1) := by decide +kernel
theorem d_Mod_writesForm_60 : decode prog_12_method_85_code 60 = .ok (.istore 4, 2) := by decide +kernel
theorem d_Mod_writesForm_62 : decode prog_12_method_85_code 62 = .ok (.iconst 0, 1) := by decide +kernel
theorem d_Mod_writesForm_63 : decode prog_12_method_85_code 63 = .ok (.istore 5, 2) := by decide +kernel
theorem d_Mod_writesForm_65 : decode prog_12_method_85_code 65 = .ok (.iload 5, 2) := by decide +kernel
theorem d_Mod_writesForm_67 : decode prog_12_method_85_code 67 = .ok (.aload_n 0, 1) := by decide +kernel
theorem d_Mod_writesForm_68 : decode prog_12_method_85_code 68 = .ok (.invokevirtual 270, 3) := by decide +kernel
theorem d_Mod_writesForm_71 : decode prog_12_method_85_code 71 = .ok (.if_icmp .ge 72, 3) := by decide +kernel
theorem d_Mod_writesForm_74 : decode prog_12_method_85_code 74 = .ok (.iload_n 3, 1) := by decide +kernel
theorem d_Mod_writesForm_75 : decode prog_12_method_85_code 75 = .ok (.iload 5, 2) := by decide +kernel
theorem d_Mod_writesForm_77 : decode prog_12_method_85_code 77 = .ok (.invokestatic 326, 3) := by decide +kernel
theorem d_Mod_writesForm_80 : decode prog_12_method_85_code 80 = .ok (.ifCond .ne 6, 3) := by decide +kernel
theorem d_Mod_writesForm_83 : decode prog_12_method_85_code 83 = .ok (.goto 54, 3) := by decide +kernel
theorem d_Mod_writesForm_86 : decode prog_12_method_85_code 86 = .ok (.iload 4, 2) := by decide +kernel
theorem d_Mod_writesForm_88 : decode prog_12_method_85_code 88 = .ok (.ifCond .ne 9, 3) := by decide +kernel
theorem d_Mod_writesForm_91 : decode prog_12_method_85_code 91 = .ok (.aload_n 0, 1) := by decide +kernel
theorem d_Mod_writesForm_92 : decode prog_12_method_85_code 92 = .ok (.bipush 124, 2) := by decide +kernel
theorem d_Mod_writesForm_94 : decode prog_12_method_85_code 94 = .ok (.invokevirtual 494, 3) := by decide +kernel
theorem d_Mod_writesForm_97 : decode prog_12_method_85_code 97 = .ok (.iconst 0, 1) := by decide +kernel
theorem d_Mod_writesForm_98 : decode prog_12_method_85_code 98 = .ok (.istore 4, 2) := by decide +kernel
theorem d_Mod_writesForm_100 : decode prog_12_method_85_code 100 = .ok (.aload_n 0, 1) := by decide +kernel
theorem d_Mod_writesForm_101 : decode prog_12_method_85_code 101 = .ok (.iload 5, 2) := by decide +kernel
theorem d_Mod_writesForm_103 : decode prog_12_method_85_code 103 = .ok (.invokevirtual 500, 3) := by decide +kernel
theorem d_Mod_writesForm_106 : decode prog_12_method_85_code 106 = .ok (.aload_n 0, 1) := by decide +kernel
theorem d_Mod_writesForm_107 : decode prog_12_method_85_code 107 = .ok (.aload_n 0, 1) := by decide +kernel
theorem d_Mod_writesForm_108 : decode prog_12_method_85_code 108 = .ok (.getfield 116, 3) := by decide +kernel
theorem d_Mod_writesForm_111 : decode prog_12_method_85_code 111 = .ok (.iload 5, 2) := by decide +kernel
theorem d_Mod_writesForm_113 : decode prog_12_method_85_code 113 = .ok (.iaload, 1) := by decide +kernel
theorem d_Mod_writesForm_114 : decode prog_12_method_85_code 114 = .ok (.invokevirtual 491, 3) := by decide +kernel
theorem d_Mod_writesForm_117 : decode prog_12_method_85_code 117 = .ok (.aload_n 0, 1) := by decide +kernel
theorem d_Mod_writesForm_118 : decode prog_12_method_85_code 118 = .ok (.bipush 46, 2) := by decide +kernel
theorem d_Mod_writesForm_120 : decode prog_12_method_85_code 120 = .ok (.invokevirtual 494, 3) := by decide +kernel
theorem d_Mod_writesForm_123 : decode prog_12_method_85_code 123 = .ok (.aload_n 0, 1) := by decide +kernel
theorem d_Mod_writesForm_124 : decode prog_12_method_85_code 124 = .ok (.aload_n 0, 1) := by decide +kernel
theorem d_Mod_writesForm_125 : decode prog_12_method_85_code 125 = .ok (.getfield 166, 3) := by decide +kernel
theorem d_Mod_writesForm_128 : decode prog_12_method_85_code 128 = .ok (.iload 5, 2) := by decide +kernel
theorem d_Mod_writesForm_130 : decode prog_12_method_85_code 130 = .ok (.iaload, 1) := by decide +kernel
theorem d_Mod_writesForm_131 : decode prog_12_method_85_code 131 = .ok (.iload_n 1, 1) := by decide +kernel
theorem d_Mod_writesForm_132 : decode prog_12_method_85_code 132 = .ok (.iconst 2, 1) := by decide +kernel
theorem d_Mod_writesForm_133 : decode prog_12_method_85_code 133 = .ok (.iadd, 1) := by decide +kernel
theorem d_Mod_writesForm_134 : decode prog_12_method_85_code 134 = .ok (.invokevirtual 506, 3) := by decide +kernel
theorem d_Mod_writesForm_137 : decode prog_12_method_85_code 137 = .ok (.iinc 5 1, 3) := by decide +kernel
theorem d_Mod_writesForm_140 : decode prog_12_method_85_code 140 = .ok (.goto (-75), 3) := by decide +kernel
theorem d_Mod_writesForm_143 : decode prog_12_method_85_code 143 = .ok (.aload_n 0, 1) := by decide +kernel
theorem d_Mod_writesForm_144 : decode prog_12_method_85_code 144 = .ok (.bipush 125, 2) := by decide +kernel
theorem d_Mod_writesForm_146 : decode prog_12_method_85_code 146 = .ok (.invokevirtual 494, 3) := by decide +kernel
theorem d_Mod_writesForm_149 : decode prog_12_method_85_code 149 = .ok (.iinc 2 1, 3) := by decide +kernel
theorem d_Mod_writesForm_152 : decode prog_12_method_85_code 152 = .ok (.goto (-145), 3) := by decide +kernel
theorem d_Mod_writesForm_155 : decode prog_12_method_85_code 155 = .ok (.aload_n 0, 1) := by decide +kernel
theorem d_Mod_writesForm_156 : decode prog_12_method_85_code 156 = .ok (.aload_n 0, 1) := by decide +kernel
theorem d_Mod_writesForm_157 : decode prog_12_method_85_code 157 = .ok (.getfield 218, 3) := by decide +kernel
theorem d_Mod_writesForm_160 : decode prog_12_method_85_code 160 = .ok (.iload_n 1, 1) := by decide +kernel
theorem d_Mod_writesForm_161 : decode prog_12_method_85_code 161 = .ok (.iconst 2, 1) := by decide +kernel
theorem d_Mod_writesForm_162 : decode prog_12_method_85_code 162 = .ok (.iadd, 1) := by decide +kernel
theorem d_Mod_writesForm_163 : decode prog_12_method_85_code 163 = .ok (.invokevirtual 506, 3) := by decide +kernel
theorem d_Mod_writesForm_166 : decode prog_12_method_85_code 166 = .ok (.return_, 1) := by decide +kernel
def fm_Mod_writesForm_j97 (a1 : Int) (k65 : Int → Int → Bool → Int → fa_W → Option fa_W) (x2 : Int) (x3 : Int) (x5 : Int) (w : fa_W) : Option fa_W :=
  (fm_Mod_writesData x5 w).bind fun w27 =>
  (fa_ix x5 124).bind fun j28 =>
  (fm_Mod_saysWord 900 (w27 192 j28) w27).bind fun w30 =>
  (fm_Mod_says 46 w30).bind fun w32 =>
  (fa_ix x5 24).bind fun j33 =>
  (fm_Mod_writes 900 (w32 189 j33) (a1 + 2) w32).bind fun w35 =>
  fa_let (x5 + 1) fun x5_36 =>
  k65 x2 x3 false x5_36 w35
set_option maxHeartbeats 4000000 in
set_option maxRecDepth 100000 in
theorem c_Mod_writesForm_j97 {p : Program} {l : Launch} {e : Env} {s : State} {m : MethodId} {args : Array Value} {below : List Frame} {meth : Method} {c : Code} {hh : Nat} {D : va_G} {b : Nat} {aC : Nat → ClassId} {H0 : Heap} {N T : Nat} (X : fa_GX p s m args meth c prog_12_method_85_code 6 ((Option.none : Option Jvm.ClassFile.FieldType)) y_Mod_writesForm.cls D b aC) (hle : 1804 ≤ hh) (hN : fa_NM ≤ N) (hT : fa_TM ≤ T) (a1 : Int) {r : fa_W} (k65 : Int → Int → Bool → Int → fa_W → Option fa_W) (K65 : ∀ (x2 : Int) (x3 : Int) (x4 : Bool) (x5 : Int) (w : fa_W), k65 x2 x3 x4 x5 w = some r → fa_GJ p l e (fa_rm hh) s m args below meth c 0 0 (MQ below (fa_Qc D b aC H0 N T (none) r) args s 0 0 (fun q => b ≤ q)) D b aC H0 N T 6 w 65 [(0, .ref (b + 181)), (1, .int (fa_I a1)), (2, .int (fa_I x2)), (3, .int (fa_I x3)), (4, .int (fa_I (fa_bi x4))), (5, .int (fa_I x5))] []) : ∀ (x2 : Int) (x3 : Int) (x5 : Int) (w : fa_W) (_ : fm_Mod_writesForm_j97 a1 k65 x2 x3 x5 w = some r), fa_GJ p l e (fa_rm hh) s m args below meth c 0 0 (MQ below (fa_Qc D b aC H0 N T (none) r) args s 0 0 (fun q => b ≤ q)) D b aC H0 N T 6 w 97 [(0, .ref (b + 181)), (1, .int (fa_I a1)), (2, .int (fa_I x2)), (3, .int (fa_I x3)), (5, .int (fa_I x5))] [] := by
  intro x2 x3 x5 w hM
  unfold fm_Mod_writesForm_j97 at hM
  refine g_iconst X d_Mod_writesForm_97 ?_
  refine g_istorec X [(4, .int (fa_I 0)), (0, .ref (b + 181)), (1, .int (fa_I a1)), (2, .int (fa_I x2)), (3, .int (fa_I x3)), (5, .int (fa_I x5))] d_Mod_writesForm_98 (by decide) rfl ?_
  refine g_aload_n X 1 rfl d_Mod_writesForm_100 ?_
  refine g_iload X 5 rfl d_Mod_writesForm_101 ?_
  obtain ⟨w27, e26, hM⟩ := fa_ob hM
  refine g_callV_v X ck_10 fo_181 (fn_181 hN) rfl mi_Mod_writesData (c_Mod_writesData hN hT x5 w _ e26) wd_2069 rfl (Nat.le_trans (Nat.le_of_ble_eq_true rfl) hle) (st := []) (Nat.le_of_ble_eq_true rfl) rfl d_Mod_writesForm_103 ?_
  refine g_aload_n X 1 rfl d_Mod_writesForm_106 ?_
  refine g_aload_n X 1 rfl d_Mod_writesForm_107 ?_
  refine g_get X ck_10 fo_181 (fn_181 hN) 12 (by decide) wd_1754 rfl (fr_181_12 rfl hT) d_Mod_writesForm_108 ?_
  refine g_iload X 5 rfl d_Mod_writesForm_111 ?_
  obtain ⟨j28, ej28, hM⟩ := fa_ob hM
  refine g_iald X fs_192 (fn_192 hN) ej28 d_Mod_writesForm_113 ?_
  obtain ⟨w30, e29, hM⟩ := fa_ob hM
  refine g_callV_v X ck_10 fo_181 (fn_181 hN) rfl mi_Mod_saysWord (c_Mod_saysWord hN hT 900 (w27 192 j28) w27 _ e29) wd_2049 rfl (Nat.le_trans (Nat.le_of_ble_eq_true rfl) hle) (st := []) (Nat.le_of_ble_eq_true rfl) rfl d_Mod_writesForm_114 ?_
  refine g_aload_n X 1 rfl d_Mod_writesForm_117 ?_
  refine g_bipush X (by decide) d_Mod_writesForm_118 ?_
  obtain ⟨w32, e31, hM⟩ := fa_ob hM
  refine g_callV_v X ck_10 fo_181 (fn_181 hN) rfl mi_Mod_says (c_Mod_says hN hT 46 w30 _ e31) wd_2053 rfl (Nat.le_trans (Nat.le_of_ble_eq_true rfl) hle) (st := []) (Nat.le_of_ble_eq_true rfl) rfl d_Mod_writesForm_120 ?_
  refine g_aload_n X 1 rfl d_Mod_writesForm_123 ?_
  refine g_aload_n X 1 rfl d_Mod_writesForm_124 ?_
  refine g_get X ck_10 fo_181 (fn_181 hN) 9 (by decide) wd_1751 rfl (fr_181_9 rfl hT) d_Mod_writesForm_125 ?_
  refine g_iload X 5 rfl d_Mod_writesForm_128 ?_
  obtain ⟨j33, ej33, hM⟩ := fa_ob hM
  refine g_iald X fs_189 (fn_189 hN) ej33 d_Mod_writesForm_130 ?_
  refine g_iload_n X 2 rfl d_Mod_writesForm_131 ?_
  refine g_iconst X d_Mod_writesForm_132 ?_
  refine g_iadd X d_Mod_writesForm_133 ?_
  obtain ⟨w35, e34, hM⟩ := fa_ob hM
  refine g_callV_v X ck_10 fo_181 (fn_181 hN) rfl mi_Mod_writes (c_Mod_writes hN hT 900 (w32 189 j33) (a1 + 2) w32 _ e34) wd_2061 rfl (Nat.le_trans (Nat.le_of_ble_eq_true rfl) hle) (st := []) (Nat.le_of_ble_eq_true rfl) rfl d_Mod_writesForm_134 ?_
  refine g_iinc X 5 (fun x5_36 => [(5, .int (fa_I x5_36)), (4, .int (fa_I 0)), (0, .ref (b + 181)), (1, .int (fa_I a1)), (2, .int (fa_I x2)), (3, .int (fa_I x3))]) d_Mod_writesForm_137 rfl (by decide) (fun _ => rfl) (fun x5_36 ex5_36 => ?_)
  have hM := fa_let_to hM ex5_36
  refine g_goto X 65 d_Mod_writesForm_140 (by decide) ?_
  exact g_lv [2, 3, 4, 5, 1, 0] rfl (K65 _ _ _ _ _ hM)
def fm_Mod_writesForm_l65 (a1 : Int) (k7 : Int → fa_W → Option fa_W) : Nat → Int → Int → Bool → Int → fa_W → Option fa_W
  | 0, _, _, _, _, _ => none
  | n + 1, x2, x3, x4, x5, w => if fa_wr (fm_Mod_functions w) ≤ fa_wr x5 then
  ((fm_Mod_says 125 w).bind fun w21 =>
  fa_let (x2 + 1) fun x2_22 =>
  k7 x2_22 w21)
  else
  (if fm_Mod_holds x3 x5 w = true then
  (if x4 = true then
  fm_Mod_writesForm_j97 a1 (fun x2 x3 x4 x5 w9 => fm_Mod_writesForm_l65 a1 k7 n x2 x3 x4 x5 w9) x2 x3 x5 w
  else
  ((fm_Mod_says 124 w).bind fun w38 =>
  fm_Mod_writesForm_j97 a1 (fun x2 x3 x4 x5 w9 => fm_Mod_writesForm_l65 a1 k7 n x2 x3 x4 x5 w9) x2 x3 x5 w38))
  else
  (fa_let (x5 + 1) fun x5_39 =>
  fm_Mod_writesForm_l65 a1 k7 n x2 x3 x4 x5_39 w))
set_option maxHeartbeats 4000000 in
set_option maxRecDepth 100000 in
theorem c_Mod_writesForm_l65 {p : Program} {l : Launch} {e : Env} {s : State} {m : MethodId} {args : Array Value} {below : List Frame} {meth : Method} {c : Code} {hh : Nat} {D : va_G} {b : Nat} {aC : Nat → ClassId} {H0 : Heap} {N T : Nat} (X : fa_GX p s m args meth c prog_12_method_85_code 6 ((Option.none : Option Jvm.ClassFile.FieldType)) y_Mod_writesForm.cls D b aC) (hle : 1804 ≤ hh) (hN : fa_NM ≤ N) (hT : fa_TM ≤ T) (a1 : Int) {r : fa_W} (k7 : Int → fa_W → Option fa_W) (K7 : ∀ (x2 : Int) (w : fa_W), k7 x2 w = some r → fa_GJ p l e (fa_rm hh) s m args below meth c 0 0 (MQ below (fa_Qc D b aC H0 N T (none) r) args s 0 0 (fun q => b ≤ q)) D b aC H0 N T 6 w 7 [(0, .ref (b + 181)), (1, .int (fa_I a1)), (2, .int (fa_I x2))] []) : ∀ (n : Nat) (x2 : Int) (x3 : Int) (x4 : Bool) (x5 : Int) (w : fa_W), fm_Mod_writesForm_l65 a1 k7 n x2 x3 x4 x5 w = some r → fa_GJ p l e (fa_rm hh) s m args below meth c 0 0 (MQ below (fa_Qc D b aC H0 N T (none) r) args s 0 0 (fun q => b ≤ q)) D b aC H0 N T 6 w 65 [(0, .ref (b + 181)), (1, .int (fa_I a1)), (2, .int (fa_I x2)), (3, .int (fa_I x3)), (4, .int (fa_I (fa_bi x4))), (5, .int (fa_I x5))] [] := by
  intro n
  induction n with
  | zero => intro x2 x3 x4 x5 w hM; exact fa_no hM
  | succ n ih =>
    intro x2 x3 x4 x5 w hM
    rw [fm_Mod_writesForm_l65] at hM
    refine g_iload X 5 rfl d_Mod_writesForm_65 ?_
    refine g_aload_n X 0 rfl d_Mod_writesForm_67 ?_
    refine g_callV_i X ck_10 fo_181 (fn_181 hN) rfl mi_Mod_functions (c_Mod_functions hN hT w _ rfl) wd_1644 rfl (Nat.le_trans (Nat.le_of_ble_eq_true rfl) hle) (st := [.int (fa_I x5)]) (Nat.le_of_ble_eq_true rfl) rfl d_Mod_writesForm_68 ?_
    refine g_icmp_ge X 143 d_Mod_writesForm_71 (by decide) (fun hc19 => ?_) (fun hc19 => ?_)
    · have hM := fa_if_t hM hc19
      refine g_aload_n X 0 rfl d_Mod_writesForm_143 ?_
      refine g_bipush X (by decide) d_Mod_writesForm_144 ?_
      obtain ⟨w21, e20, hM⟩ := fa_ob hM
      refine g_callV_v X ck_10 fo_181 (fn_181 hN) rfl mi_Mod_says (c_Mod_says hN hT 125 w _ e20) wd_2053 rfl (Nat.le_trans (Nat.le_of_ble_eq_true rfl) hle) (st := []) (Nat.le_of_ble_eq_true rfl) rfl d_Mod_writesForm_146 ?_
      refine g_iinc X 2 (fun x2_22 => [(2, .int (fa_I x2_22)), (0, .ref (b + 181)), (1, .int (fa_I a1)), (3, .int (fa_I x3)), (4, .int (fa_I (fa_bi x4))), (5, .int (fa_I x5))]) d_Mod_writesForm_149 rfl (by decide) (fun _ => rfl) (fun x2_22 ex2_22 => ?_)
      have hM := fa_let_to hM ex2_22
      refine g_goto X 7 d_Mod_writesForm_152 (by decide) ?_
      exact g_lv [1, 2, 0] rfl (K7 _ _ hM)
    · have hM := fa_if_f hM hc19
      refine g_iload_n X 3 rfl d_Mod_writesForm_74 ?_
      refine g_iload X 5 rfl d_Mod_writesForm_75 ?_
      refine g_callS_i X mi_Mod_holds (c_Mod_holds hN hT x3 x5 w _ rfl) wd_1691 rfl (Nat.le_trans (Nat.le_of_ble_eq_true rfl) hle) (st := []) (Nat.le_of_ble_eq_true rfl) rfl d_Mod_writesForm_77 ?_
      refine g_ifb_ne X 86 d_Mod_writesForm_80 (by decide) (fun hc24 => ?_) (fun hc24 => ?_)
      · have hM := fa_ifb_t hM hc24
        refine g_iload X 4 rfl d_Mod_writesForm_86 ?_
        refine g_ifb_ne X 97 d_Mod_writesForm_88 (by decide) (fun hc25 => ?_) (fun hc25 => ?_)
        · have hM := fa_ifb_t hM hc25
          exact g_lv [0, 1, 2, 3, 5] rfl (c_Mod_writesForm_j97 X hle hN hT a1  (fun x2 x3 x4 x5 w9 => fm_Mod_writesForm_l65 a1 k7 n x2 x3 x4 x5 w9) (fun _ _ _ _ _ h => ih _ _ _ _ _ h)  _ _ _ _ hM)
        · have hM := fa_ifb_f hM hc25
          refine g_aload_n X 0 rfl d_Mod_writesForm_91 ?_
          refine g_bipush X (by decide) d_Mod_writesForm_92 ?_
          obtain ⟨w38, e37, hM⟩ := fa_ob hM
          refine g_callV_v X ck_10 fo_181 (fn_181 hN) rfl mi_Mod_says (c_Mod_says hN hT 124 w _ e37) wd_2053 rfl (Nat.le_trans (Nat.le_of_ble_eq_true rfl) hle) (st := []) (Nat.le_of_ble_eq_true rfl) rfl d_Mod_writesForm_94 ?_
          exact g_lv [0, 1, 2, 3, 5] rfl (c_Mod_writesForm_j97 X hle hN hT a1  (fun x2 x3 x4 x5 w9 => fm_Mod_writesForm_l65 a1 k7 n x2 x3 x4 x5 w9) (fun _ _ _ _ _ h => ih _ _ _ _ _ h)  _ _ _ _ hM)
      · have hM := fa_ifb_f hM hc24
        refine g_goto X 137 d_Mod_writesForm_83 (by decide) ?_
        refine g_iinc X 5 (fun x5_39 => [(5, .int (fa_I x5_39)), (0, .ref (b + 181)), (1, .int (fa_I a1)), (2, .int (fa_I x2)), (3, .int (fa_I x3)), (4, .int (fa_I (fa_bi x4)))]) d_Mod_writesForm_137 rfl (by decide) (fun _ => rfl) (fun x5_39 ex5_39 => ?_)
        have hM := fa_let_to hM ex5_39
        refine g_goto X 65 d_Mod_writesForm_140 (by decide) ?_
        exact g_lv [1, 2, 3, 4, 5, 0] rfl (ih _ _ _ _ _ hM)
def fm_Mod_writesForm_l7 (a1 : Int) : Nat → Int → fa_W → Option fa_W
  | 0, _, _ => none
  | n + 1, x2, w => (fa_ix a1 3).bind fun j2 =>
  if fa_wr (w 216 j2) ≤ fa_wr x2 then
  ((fm_Mod_writes 900 (w 181 21) (a1 + 2) w).bind fun w5 =>
  some w5)
  else
  ((fm_Mod_groupSet a1 x2 w).bind fun v7 =>
  fa_let (fa_iand v7 (w 181 53)) fun x3_8 =>
  if fa_wr x3_8 = 0 then
  (fa_let (x2 + 1) fun x2_40 =>
  fm_Mod_writesForm_l7 a1 n x2_40 w)
  else
  ((fm_Mod_says 97 w).bind fun w11 =>
  (fm_Mod_saysNumber 900 x2 w11).bind fun w13 =>
  (fm_Mod_says 58 w13).bind fun w15 =>
  (fm_Mod_says 123 w15).bind fun w17 =>
  fm_Mod_writesForm_l65 a1 (fun x2 w9 => fm_Mod_writesForm_l7 a1 n x2 w9) fa_FU x2 x3_8 true 0 w17))
set_option maxHeartbeats 4000000 in
set_option maxRecDepth 100000 in
theorem c_Mod_writesForm_l7 {p : Program} {l : Launch} {e : Env} {s : State} {m : MethodId} {args : Array Value} {below : List Frame} {meth : Method} {c : Code} {hh : Nat} {D : va_G} {b : Nat} {aC : Nat → ClassId} {H0 : Heap} {N T : Nat} (X : fa_GX p s m args meth c prog_12_method_85_code 6 ((Option.none : Option Jvm.ClassFile.FieldType)) y_Mod_writesForm.cls D b aC) (hle : 1804 ≤ hh) (hN : fa_NM ≤ N) (hT : fa_TM ≤ T) (a1 : Int) {r : fa_W}  : ∀ (n : Nat) (x2 : Int) (w : fa_W), fm_Mod_writesForm_l7 a1 n x2 w = some r → fa_GJ p l e (fa_rm hh) s m args below meth c 0 0 (MQ below (fa_Qc D b aC H0 N T (none) r) args s 0 0 (fun q => b ≤ q)) D b aC H0 N T 6 w 7 [(0, .ref (b + 181)), (1, .int (fa_I a1)), (2, .int (fa_I x2))] [] := by
  intro n
  induction n with
  | zero => intro x2 w hM; exact fa_no hM
  | succ n ih =>
    intro x2 w hM
    rw [fm_Mod_writesForm_l7] at hM
    refine g_iload_n X 2 rfl d_Mod_writesForm_7 ?_
    refine g_aload_n X 0 rfl d_Mod_writesForm_8 ?_
    refine g_get X ck_10 fo_181 (fn_181 hN) 59 (by decide) wd_1800 rfl (fr_181_59 rfl hT) d_Mod_writesForm_9 ?_
    refine g_iload_n X 1 rfl d_Mod_writesForm_12 ?_
    obtain ⟨j2, ej2, hM⟩ := fa_ob hM
    refine g_iald X fs_216 (fn_216 hN) ej2 d_Mod_writesForm_13 ?_
    refine g_icmp_ge X 155 d_Mod_writesForm_14 (by decide) (fun hc3 => ?_) (fun hc3 => ?_)
    · have hM := fa_if_t hM hc3
      refine g_aload_n X 0 rfl d_Mod_writesForm_155 ?_
      refine g_aload_n X 0 rfl d_Mod_writesForm_156 ?_
      refine g_get X ck_10 fo_181 (fn_181 hN) 21 (by decide) wd_1763 rfl (fa_fvI rfl) d_Mod_writesForm_157 ?_
      refine g_iload_n X 1 rfl d_Mod_writesForm_160 ?_
      refine g_iconst X d_Mod_writesForm_161 ?_
      refine g_iadd X d_Mod_writesForm_162 ?_
      obtain ⟨w5, e4, hM⟩ := fa_ob hM
      refine g_callV_v X ck_10 fo_181 (fn_181 hN) rfl mi_Mod_writes (c_Mod_writes hN hT 900 (w 181 21) (a1 + 2) w _ e4) wd_2061 rfl (Nat.le_trans (Nat.le_of_ble_eq_true rfl) hle) (st := []) (Nat.le_of_ble_eq_true rfl) rfl d_Mod_writesForm_163 ?_
      cases hM
      exact g_vret X d_Mod_writesForm_166
    · have hM := fa_if_f hM hc3
      refine g_aload_n X 0 rfl d_Mod_writesForm_17 ?_
      refine g_iload_n X 1 rfl d_Mod_writesForm_18 ?_
      refine g_iload_n X 2 rfl d_Mod_writesForm_19 ?_
      obtain ⟨v7, e6, hM⟩ := fa_ob hM
      refine g_callV_i X ck_10 fo_181 (fn_181 hN) rfl mi_Mod_groupSet (c_Mod_groupSet hN hT a1 x2 w _ e6) wd_2132 rfl (Nat.le_trans (Nat.le_of_ble_eq_true rfl) hle) (st := []) (Nat.le_of_ble_eq_true rfl) rfl d_Mod_writesForm_20 ?_
      refine g_aload_n X 0 rfl d_Mod_writesForm_23 ?_
      refine g_get X ck_10 fo_181 (fn_181 hN) 53 (by decide) wd_1794 rfl (fa_fvI rfl) d_Mod_writesForm_24 ?_
      refine g_iand X d_Mod_writesForm_27 ?_
      refine g_istore_n X (fun x3_8 => [(3, .int (fa_I x3_8)), (0, .ref (b + 181)), (1, .int (fa_I a1)), (2, .int (fa_I x2))]) d_Mod_writesForm_28 (by decide) (fun _ => rfl) (fun x3_8 ex3_8 => ?_)
      have hM := fa_let_to hM ex3_8
      refine g_iload_n X 0 rfl d_Mod_writesForm_29 ?_
      refine g_if_ne X 36 d_Mod_writesForm_30 (by decide) (fun hc9 => ?_) (fun hc9 => ?_)
      · have hM := fa_if_f hM hc9
        refine g_aload_n X 1 rfl d_Mod_writesForm_36 ?_
        refine g_bipush X (by decide) d_Mod_writesForm_37 ?_
        obtain ⟨w11, e10, hM⟩ := fa_ob hM
        refine g_callV_v X ck_10 fo_181 (fn_181 hN) rfl mi_Mod_says (c_Mod_says hN hT 97 w _ e10) wd_2053 rfl (Nat.le_trans (Nat.le_of_ble_eq_true rfl) hle) (st := []) (Nat.le_of_ble_eq_true rfl) rfl d_Mod_writesForm_39 ?_
        refine g_aload_n X 1 rfl d_Mod_writesForm_42 ?_
        refine g_iload_n X 3 rfl d_Mod_writesForm_43 ?_
        obtain ⟨w13, e12, hM⟩ := fa_ob hM
        refine g_callV_v X ck_10 fo_181 (fn_181 hN) rfl mi_Mod_saysNumber (c_Mod_saysNumber hN hT 900 x2 w11 _ e12) wd_2065 rfl (Nat.le_trans (Nat.le_of_ble_eq_true rfl) hle) (st := []) (Nat.le_of_ble_eq_true rfl) rfl d_Mod_writesForm_44 ?_
        refine g_aload_n X 1 rfl d_Mod_writesForm_47 ?_
        refine g_bipush X (by decide) d_Mod_writesForm_48 ?_
        obtain ⟨w15, e14, hM⟩ := fa_ob hM
        refine g_callV_v X ck_10 fo_181 (fn_181 hN) rfl mi_Mod_says (c_Mod_says hN hT 58 w13 _ e14) wd_2053 rfl (Nat.le_trans (Nat.le_of_ble_eq_true rfl) hle) (st := []) (Nat.le_of_ble_eq_true rfl) rfl d_Mod_writesForm_50 ?_
        refine g_aload_n X 1 rfl d_Mod_writesForm_53 ?_
        refine g_bipush X (by decide) d_Mod_writesForm_54 ?_
        obtain ⟨w17, e16, hM⟩ := fa_ob hM
        refine g_callV_v X ck_10 fo_181 (fn_181 hN) rfl mi_Mod_says (c_Mod_says hN hT 123 w15 _ e16) wd_2053 rfl (Nat.le_trans (Nat.le_of_ble_eq_true rfl) hle) (st := []) (Nat.le_of_ble_eq_true rfl) rfl d_Mod_writesForm_56 ?_
        refine g_iconst X d_Mod_writesForm_59 ?_
        refine g_istorec X [(4, .int (fa_I 1)), (3, .int (fa_I x3_8)), (0, .ref (b + 181)), (1, .int (fa_I a1)), (2, .int (fa_I x2))] d_Mod_writesForm_60 (by decide) rfl ?_
        refine g_iconst X d_Mod_writesForm_62 ?_
        refine g_istorec X [(5, .int (fa_I 0)), (4, .int (fa_I 1)), (3, .int (fa_I x3_8)), (0, .ref (b + 181)), (1, .int (fa_I a1)), (2, .int (fa_I x2))] d_Mod_writesForm_63 (by decide) rfl ?_
        exact g_lv [3, 4, 5, 2, 1, 0] rfl (c_Mod_writesForm_l65 X hle hN hT a1  (fun x2 w9 => fm_Mod_writesForm_l7 a1 n x2 w9) (fun _ _ h => ih _ _ h) fa_FU _ _ _ _ _ hM)
      · have hM := fa_if_t hM hc9
        refine g_goto X 149 d_Mod_writesForm_33 (by decide) ?_
        refine g_iinc X 3 (fun x2_40 => [(2, .int (fa_I x2_40)), (3, .int (fa_I x3_8)), (0, .ref (b + 181)), (1, .int (fa_I a1))]) d_Mod_writesForm_149 rfl (by decide) (fun _ => rfl) (fun x2_40 ex2_40 => ?_)
        have hM := fa_let_to hM ex2_40
        refine g_goto X 7 d_Mod_writesForm_152 (by decide) ?_
        exact g_lv [2, 3, 0] rfl (ih _ _ hM)
def fm_Mod_writesForm (a1 : Int) (w : fa_W) : Option fa_W :=
  fa_let (fa_st w 181 70 0) fun w1 =>
  fm_Mod_writesForm_l7 a1 fa_FU 0 w1
set_option maxHeartbeats 4000000 in
set_option maxRecDepth 100000 in
theorem c_Mod_writesForm {l : Launch} {D : va_G} {b : Nat} {aC : Nat → ClassId} {H0 : Heap} {N T : Nat} (hN : fa_NM ≤ N) (hT : fa_TM ≤ T) (a1 : Int)  (w : fa_W) (r : fa_W) (hM : fm_Mod_writesForm a1 w = some r) : fa_MC l D b aC H0 N T y_Mod_writesForm prog_12_method_85_code 6 ((Option.none : Option Jvm.ClassFile.FieldType)) (1804) [.ref (b + 181), .int (fa_I a1)] w (none) r := by
  refine fa_enter (lv := [(0, .ref (b + 181)), (1, .int (fa_I a1))]) (by decide +kernel) (Nat.le_of_ble_eq_true rfl) rfl (fun hh hle hnm X => ?_)
  unfold fm_Mod_writesForm at hM
  refine g_aload_n X 0 rfl d_Mod_writesForm_0 ?_
  refine g_iconst X d_Mod_writesForm_1 ?_
  refine g_put X ck_10 fo_181 (fn_181 hN) 70 (z := 0) (by decide) wd_1811 rfl (fa_fvI' rfl) rfl rfl rfl d_Mod_writesForm_2 (fun w1 ew1 => ?_)
  have hM := fa_let_to hM ew1
  refine g_iconst X d_Mod_writesForm_5 ?_
  refine g_istorec_n X [(2, .int (fa_I 0)), (0, .ref (b + 181)), (1, .int (fa_I a1))] d_Mod_writesForm_6 (by decide) rfl ?_
  exact g_lv [1, 2, 0] rfl (c_Mod_writesForm_l7 X hle hN hT a1   fa_FU _ _ hM)
theorem d_Mod_writesType_0 : decode prog_12_method_86_code 0 = .ok (.aload_n 0, 1) := by decide +kernel
theorem d_Mod_writesType_1 : decode prog_12_method_86_code 1 = .ok (.getfield 482, 3) := by decide +kernel
theorem d_Mod_writesType_4 : decode prog_12_method_86_code 4 = .ok (.sipush 300, 3) := by decide +kernel
theorem d_Mod_writesType_7 : decode prog_12_method_86_code 7 = .ok (.if_icmp .lt 4, 3) := by decide +kernel
theorem d_Mod_writesType_10 : decode prog_12_method_86_code 10 = .ok (.return_, 1) := by decide +kernel
theorem d_Mod_writesType_11 : decode prog_12_method_86_code 11 = .ok (.aload_n 0, 1) := by decide +kernel
theorem d_Mod_writesType_12 : decode prog_12_method_86_code 12 = .ok (.iload_n 1, 1) := by decide +kernel
theorem d_Mod_writesType_13 : decode prog_12_method_86_code 13 = .ok (.invokevirtual 248, 3) := by decide +kernel
theorem d_Mod_writesType_16 : decode prog_12_method_86_code 16 = .ok (.istore_n 2, 1) := by decide +kernel
theorem d_Mod_writesType_17 : decode prog_12_method_86_code 17 = .ok (.aload_n 0, 1) := by decide +kernel
theorem d_Mod_writesType_18 : decode prog_12_method_86_code 18 = .ok (.getfield 233, 3) := by decide +kernel
theorem d_Mod_writesType_21 : decode prog_12_method_86_code 21 = .ok (.iload_n 2, 1) := by decide +kernel
theorem d_Mod_writesType_22 : decode prog_12_method_86_code 22 = .ok (.iaload, 1) := by decide +kernel
theorem d_Mod_writesType_23 : decode prog_12_method_86_code 23 = .ok (.iconst 1, 1) := by decide +kernel
theorem d_Mod_writesType_24 : decode prog_12_method_86_code 24 = .ok (.if_icmp .ne 12, 3) := by decide +kernel
theorem d_Mod_writesType_27 : decode prog_12_method_86_code 27 = .ok (.aload_n 0, 1) := by decide +kernel
theorem d_Mod_writesType_28 : decode prog_12_method_86_code 28 = .ok (.bipush 105, 2) := by decide +kernel
theorem d_Mod_writesType_30 : decode prog_12_method_86_code 30 = .ok (.invokevirtual 494, 3) := by decide +kernel
theorem d_Mod_writesType_33 : decode prog_12_method_86_code 33 = .ok (.goto 127, 3) := by decide +kernel
theorem d_Mod_writesType_36 : decode prog_12_method_86_code 36 = .ok (.aload_n 0, 1) := by decide +kernel
theorem d_Mod_writesType_37 : decode prog_12_method_86_code 37 = .ok (.getfield 233, 3) := by decide +kernel
theorem d_Mod_writesType_40 : decode prog_12_method_86_code 40 = .ok (.iload_n 2, 1) := by decide +kernel
theorem d_Mod_writesType_41 : decode prog_12_method_86_code 41 = .ok (.iaload, 1) := by decide +kernel
theorem d_Mod_writesType_42 : decode prog_12_method_86_code 42 = .ok (.iconst 2, 1) := by decide +kernel
theorem d_Mod_writesType_43 : decode prog_12_method_86_code 43 = .ok (.if_icmp .ne 44, 3) := by decide +kernel
theorem d_Mod_writesType_46 : decode prog_12_method_86_code 46 = .ok (.aload_n 0, 1) := by decide +kernel
theorem d_Mod_writesType_47 : decode prog_12_method_86_code 47 = .ok (.bipush 40, 2) := by decide +kernel
theorem d_Mod_writesType_49 : decode prog_12_method_86_code 49 = .ok (.invokevirtual 494, 3) := by decide +kernel
theorem d_Mod_writesType_52 : decode prog_12_method_86_code 52 = .ok (.aload_n 0, 1) := by decide +kernel
theorem d_Mod_writesType_53 : decode prog_12_method_86_code 53 = .ok (.aload_n 0, 1) := by decide +kernel
theorem d_Mod_writesType_54 : decode prog_12_method_86_code 54 = .ok (.getfield 239, 3) := by decide +kernel
theorem d_Mod_writesType_57 : decode prog_12_method_86_code 57 = .ok (.iload_n 2, 1) := by decide +kernel
theorem d_Mod_writesType_58 : decode prog_12_method_86_code 58 = .ok (.iaload, 1) := by decide +kernel
theorem d_Mod_writesType_59 : decode prog_12_method_86_code 59 = .ok (.invokevirtual 525, 3) := by decide +kernel
theorem d_Mod_writesType_62 : decode prog_12_method_86_code 62 = .ok (.aload_n 0, 1) := by decide +kernel
theorem d_Mod_writesType_63 : decode prog_12_method_86_code 63 = .ok (.bipush 62, 2) := by decide +kernel
theorem d_Mod_writesType_65 : decode prog_12_method_86_code 65 = .ok (.invokevirtual 494, 3) := by decide +kernel
theorem d_Mod_writesType_68 : decode prog_12_method_86_code 68 = .ok (.aload_n 0, 1) := by decide +kernel
theorem d_Mod_writesType_69 : decode prog_12_method_86_code 69 = .ok (.aload_n 0, 1) := by decide +kernel
theorem d_Mod_writesType_70 : decode prog_12_method_86_code 70 = .ok (.getfield 242, 3) := by decide +kernel
theorem d_Mod_writesType_73 : decode prog_12_method_86_code 73 = .ok (.iload_n 2, 1) := by decide +kernel
theorem d_Mod_writesType_74 : decode prog_12_method_86_code 74 = .ok (.iaload, 1) := by decide +kernel
theorem d_Mod_writesType_75 : decode prog_12_method_86_code 75 = .ok (.invokevirtual 525, 3) := by decide +kernel
theorem d_Mod_writesType_78 : decode prog_12_method_86_code 78 = .ok (.aload_n 0, 1) := by decide +kernel
theorem d_Mod_writesType_79 : decode prog_12_method_86_code 79 = .ok (.bipush 41, 2) := by decide +kernel
theorem d_Mod_writesType_81 : decode prog_12_method_86_code 81 = .ok (.invokevirtual 494, 3) := by decide +kernel
theorem d_Mod_writesType_84 : decode prog_12_method_86_code 84 = .ok (.goto 76, 3) := by decide +kernel
theorem d_Mod_writesType_87 : decode prog_12_method_86_code 87 = .ok (.iconst 0, 1) := by decide +kernel
theorem d_Mod_writesType_88 : decode prog_12_method_86_code 88 = .ok (.istore_n 3, 1) := by decide +kernel
theorem d_Mod_writesType_89 : decode prog_12_method_86_code 89 = .ok (.iload_n 3, 1) := by decide +kernel
theorem d_Mod_writesType_90 : decode prog_12_method_86_code 90 = .ok (.aload_n 0, 1) := by decide +kernel
theorem d_Mod_writesType_91 : decode prog_12_method_86_code 91 = .ok (.getfield 528, 3) := by decide +kernel
theorem d_Mod_writesType_94 : decode prog_12_method_86_code 94 = .ok (.if_icmp .ge 19, 3) := by decide +kernel
theorem d_Mod_writesType_97 : decode prog_12_method_86_code 97 = .ok (.aload_n 0, 1) := by decide +kernel
theorem d_Mod_writesType_98 : decode prog_12_method_86_code 98 = .ok (.getfield 426, 3) := by decide +kernel
theorem d_Mod_writesType_101 : decode prog_12_method_86_code 101 = .ok (.iload_n 3, 1) := by decide +kernel
theorem d_Mod_writesType_102 : decode prog_12_method_86_code 102 = .ok (.iaload, 1) := by decide +kernel
theorem d_Mod_writesType_103 : decode prog_12_method_86_code 103 = .ok (.iload_n 2, 1) := by decide +kernel
theorem d_Mod_writesType_104 : decode prog_12_method_86_code 104 = .ok (.if_icmp .eq 9, 3) := by decide +kernel
theorem d_Mod_writesType_107 : decode prog_12_method_86_code 107 = .ok (.iinc 3 1, 3) := by decide +kernel
theorem d_Mod_writesType_110 : decode prog_12_method_86_code 110 = .ok (.goto (-21), 3) := by decide +kernel
theorem d_Mod_writesType_113 : decode prog_12_method_86_code 113 = .ok (.iload_n 3, 1) := by decide +kernel
theorem d_Mod_writesType_114 : decode prog_12_method_86_code 114 = .ok (.aload_n 0, 1) := by decide +kernel
theorem d_Mod_writesType_115 : decode prog_12_method_86_code 115 = .ok (.getfield 528, 3) := by decide +kernel
theorem d_Mod_writesType_118 : decode prog_12_method_86_code 118 = .ok (.if_icmp .ne 23, 3) := by decide +kernel
theorem d_Mod_writesType_121 : decode prog_12_method_86_code 121 = .ok (.aload_n 0, 1) := by decide +kernel
theorem d_Mod_writesType_122 : decode prog_12_method_86_code 122 = .ok (.getfield 426, 3) := by decide +kernel
theorem d_Mod_writesType_125 : decode prog_12_method_86_code 125 = .ok (.aload_n 0, 1) := by decide +kernel
theorem d_Mod_writesType_126 : decode prog_12_method_86_code 126 = .ok (.getfield 528, 3) := by decide +kernel
theorem d_Mod_writesType_129 : decode prog_12_method_86_code 129 = .ok (.iload_n 2, 1) := by decide +kernel
theorem d_Mod_writesType_130 : decode prog_12_method_86_code 130 = .ok (.iastore, 1) := by decide +kernel
theorem d_Mod_writesType_131 : decode prog_12_method_86_code 131 = .ok (.aload_n 0, 1) := by decide +kernel
theorem d_Mod_writesType_132 : decode prog_12_method_86_code 132 = .ok (.dup, 1) := by decide +kernel
theorem d_Mod_writesType_133 : decode prog_12_method_86_code 133 = .ok (.getfield 528, 3) := by decide +kernel
theorem d_Mod_writesType_136 : decode prog_12_method_86_code 136 = .ok (.iconst 1, 1) := by decide +kernel
theorem d_Mod_writesType_137 : decode prog_12_method_86_code 137 = .ok (.iadd, 1) := by decide +kernel
theorem d_Mod_writesType_138 : decode prog_12_method_86_code 138 = .ok (.putfield 528, 3) := by decide +kernel
theorem d_Mod_writesType_141 : decode prog_12_method_86_code 141 = .ok (.aload_n 0, 1) := by decide +kernel
theorem d_Mod_writesType_142 : decode prog_12_method_86_code 142 = .ok (.bipush 97, 2) := by decide +kernel
theorem d_Mod_writesType_144 : decode prog_12_method_86_code 144 = .ok (.iload_n 3, 1) := by decide +kernel
theorem d_Mod_writesType_145 : decode prog_12_method_86_code 145 = .ok (.bipush 26, 2) := by decide +kernel
theorem d_Mod_writesType_147 : decode prog_12_method_86_code 147 = .ok (.if_icmp .ge 7, 3) := by decide +kernel
theorem d_Mod_writesType_150 : decode prog_12_method_86_code 150 = .ok (.iload_n 3, 1) := by decide +kernel
theorem d_Mod_writesType_151 : decode prog_12_method_86_code 151 = .ok (.goto 5, 3) := by decide +kernel
theorem d_Mod_writesType_154 : decode prog_12_method_86_code 154 = .ok (.bipush 25, 2) := by decide +kernel
theorem d_Mod_writesType_156 : decode prog_12_method_86_code 156 = .ok (.iadd, 1) := by decide +kernel
theorem d_Mod_writesType_157 : decode prog_12_method_86_code 157 = .ok (.invokevirtual 494, 3) := by decide +kernel
theorem d_Mod_writesType_160 : decode prog_12_method_86_code 160 = .ok (.return_, 1) := by decide +kernel
def fm_Mod_writesType_j156 (a1 : Int) (rc_writesType : Int → fa_W → Option fa_W) (s0 : Int) (s1 : Int) (w : fa_W) : Option fa_W :=
  (fm_Mod_says (s1 + s0) w).bind fun w12 =>
  some w12
set_option maxHeartbeats 4000000 in
set_option maxRecDepth 100000 in
theorem c_Mod_writesType_j156 {p : Program} {l : Launch} {e : Env} {s : State} {m : MethodId} {args : Array Value} {below : List Frame} {meth : Method} {c : Code} {hh : Nat} {D : va_G} {b : Nat} {aC : Nat → ClassId} {H0 : Heap} {N T : Nat} {dd : Nat} (X : fa_GX p s m args meth c prog_12_method_86_code 4 ((Option.none : Option Jvm.ClassFile.FieldType)) y_Mod_writesType.cls D b aC) (hle : 1 + dd + 1 ≤ hh) (hN : fa_NM ≤ N) (hT : fa_TM ≤ T) (a1 : Int) {r : fa_W} (rc_writesType : Int → fa_W → Option fa_W) (Rrc_writesType : ∀ (a1 : Int) (w : fa_W) (r : fa_W), rc_writesType a1 w = some r → fa_MC l D b aC H0 N T y_Mod_writesType prog_12_method_86_code 4 ((Option.none : Option Jvm.ClassFile.FieldType)) (1 + dd) [.ref (b + 181), .int (fa_I a1)] w (none) r) : ∀ (s0 : Int) (s1 : Int) (w : fa_W) (_ : fm_Mod_writesType_j156 a1 rc_writesType s0 s1 w = some r), fa_GJ p l e (fa_rm hh) s m args below meth c 0 0 (MQ below (fa_Qc D b aC H0 N T (none) r) args s 0 0 (fun q => b ≤ q)) D b aC H0 N T 4 w 156 [] [.int (fa_I s0), .int (fa_I s1), .ref (b + 181)] := by
  intro s0 s1 w hM
  unfold fm_Mod_writesType_j156 at hM
  refine g_iadd X d_Mod_writesType_156 ?_
  obtain ⟨w12, e11, hM⟩ := fa_ob hM
  refine g_callV_v X ck_10 fo_181 (fn_181 hN) rfl mi_Mod_says (c_Mod_says hN hT (s1 + s0) w _ e11) wd_2053 rfl (by omega) (st := []) (Nat.le_of_ble_eq_true rfl) rfl d_Mod_writesType_157 ?_
  cases hM
  exact g_vret X d_Mod_writesType_160
def fm_Mod_writesType_j141 (a1 : Int) (rc_writesType : Int → fa_W → Option fa_W) (x3 : Int) (w : fa_W) : Option fa_W :=
  if 26 ≤ fa_wr x3 then
  fm_Mod_writesType_j156 a1 rc_writesType 25 97 w
  else
  fm_Mod_writesType_j156 a1 rc_writesType x3 97 w
set_option maxHeartbeats 4000000 in
set_option maxRecDepth 100000 in
theorem c_Mod_writesType_j141 {p : Program} {l : Launch} {e : Env} {s : State} {m : MethodId} {args : Array Value} {below : List Frame} {meth : Method} {c : Code} {hh : Nat} {D : va_G} {b : Nat} {aC : Nat → ClassId} {H0 : Heap} {N T : Nat} {dd : Nat} (X : fa_GX p s m args meth c prog_12_method_86_code 4 ((Option.none : Option Jvm.ClassFile.FieldType)) y_Mod_writesType.cls D b aC) (hle : 1 + dd + 1 ≤ hh) (hN : fa_NM ≤ N) (hT : fa_TM ≤ T) (a1 : Int) {r : fa_W} (rc_writesType : Int → fa_W → Option fa_W) (Rrc_writesType : ∀ (a1 : Int) (w : fa_W) (r : fa_W), rc_writesType a1 w = some r → fa_MC l D b aC H0 N T y_Mod_writesType prog_12_method_86_code 4 ((Option.none : Option Jvm.ClassFile.FieldType)) (1 + dd) [.ref (b + 181), .int (fa_I a1)] w (none) r) : ∀ (x3 : Int) (w : fa_W) (_ : fm_Mod_writesType_j141 a1 rc_writesType x3 w = some r), fa_GJ p l e (fa_rm hh) s m args below meth c 0 0 (MQ below (fa_Qc D b aC H0 N T (none) r) args s 0 0 (fun q => b ≤ q)) D b aC H0 N T 4 w 141 [(0, .ref (b + 181)), (3, .int (fa_I x3))] [] := by
  intro x3 w hM
  unfold fm_Mod_writesType_j141 at hM
  refine g_aload_n X 0 rfl d_Mod_writesType_141 ?_
  refine g_bipush X (by decide) d_Mod_writesType_142 ?_
  refine g_iload_n X 1 rfl d_Mod_writesType_144 ?_
  refine g_bipush X (by decide) d_Mod_writesType_145 ?_
  refine g_icmp_ge X 154 d_Mod_writesType_147 (by decide) (fun hc10 => ?_) (fun hc10 => ?_)
  · have hM := fa_if_t hM hc10
    refine g_bipush X (by decide) d_Mod_writesType_154 ?_
    exact g_lv [] rfl (c_Mod_writesType_j156 X hle hN hT a1 rc_writesType Rrc_writesType   _ _ _ hM)
  · have hM := fa_if_f hM hc10
    refine g_iload_n X 1 rfl d_Mod_writesType_150 ?_
    refine g_goto X 156 d_Mod_writesType_151 (by decide) ?_
    exact g_lv [] rfl (c_Mod_writesType_j156 X hle hN hT a1 rc_writesType Rrc_writesType   _ _ _ hM)
def fm_Mod_writesType_j113 (a1 : Int) (rc_writesType : Int → fa_W → Option fa_W) (x2 : Int) (x3 : Int) (w : fa_W) : Option fa_W :=
  if fa_wr x3 = fa_wr (w 181 74) then
  ((fa_ix (w 181 74) 1200).bind fun j13 =>
  fa_let (fa_st w 225 j13 x2) fun w14 =>
  fa_let (fa_st w14 181 74 ((w14 181 74) + 1)) fun w15 =>
  fm_Mod_writesType_j141 a1 rc_writesType x3 w15)
  else
  fm_Mod_writesType_j141 a1 rc_writesType x3 w
set_option maxHeartbeats 4000000 in
set_option maxRecDepth 100000 in
theorem c_Mod_writesType_j113 {p : Program} {l : Launch} {e : Env} {s : State} {m : MethodId} {args : Array Value} {below : List Frame} {meth : Method} {c : Code} {hh : Nat} {D : va_G} {b : Nat} {aC : Nat → ClassId} {H0 : Heap} {N T : Nat} {dd : Nat} (X : fa_GX p s m args meth c prog_12_method_86_code 4 ((Option.none : Option Jvm.ClassFile.FieldType)) y_Mod_writesType.cls D b aC) (hle : 1 + dd + 1 ≤ hh) (hN : fa_NM ≤ N) (hT : fa_TM ≤ T) (a1 : Int) {r : fa_W} (rc_writesType : Int → fa_W → Option fa_W) (Rrc_writesType : ∀ (a1 : Int) (w : fa_W) (r : fa_W), rc_writesType a1 w = some r → fa_MC l D b aC H0 N T y_Mod_writesType prog_12_method_86_code 4 ((Option.none : Option Jvm.ClassFile.FieldType)) (1 + dd) [.ref (b + 181), .int (fa_I a1)] w (none) r) : ∀ (x2 : Int) (x3 : Int) (w : fa_W) (_ : fm_Mod_writesType_j113 a1 rc_writesType x2 x3 w = some r), fa_GJ p l e (fa_rm hh) s m args below meth c 0 0 (MQ below (fa_Qc D b aC H0 N T (none) r) args s 0 0 (fun q => b ≤ q)) D b aC H0 N T 4 w 113 [(0, .ref (b + 181)), (2, .int (fa_I x2)), (3, .int (fa_I x3))] [] := by
  intro x2 x3 w hM
  unfold fm_Mod_writesType_j113 at hM
  refine g_iload_n X 2 rfl d_Mod_writesType_113 ?_
  refine g_aload_n X 0 rfl d_Mod_writesType_114 ?_
  refine g_get X ck_10 fo_181 (fn_181 hN) 74 (by decide) wd_1815 rfl (fa_fvI rfl) d_Mod_writesType_115 ?_
  refine g_icmp_ne X 141 d_Mod_writesType_118 (by decide) (fun hc9 => ?_) (fun hc9 => ?_)
  · have hM := fa_if_f hM hc9
    exact g_lv [0, 2] rfl (c_Mod_writesType_j141 X hle hN hT a1 rc_writesType Rrc_writesType   _ _ hM)
  · have hM := fa_if_t hM hc9
    refine g_aload_n X 0 rfl d_Mod_writesType_121 ?_
    refine g_get X ck_10 fo_181 (fn_181 hN) 73 (by decide) wd_1814 rfl (fr_181_73 rfl hT) d_Mod_writesType_122 ?_
    refine g_aload_n X 0 rfl d_Mod_writesType_125 ?_
    refine g_get X ck_10 fo_181 (fn_181 hN) 74 (by decide) wd_1815 rfl (fa_fvI rfl) d_Mod_writesType_126 ?_
    refine g_iload_n X 1 rfl d_Mod_writesType_129 ?_
    obtain ⟨j13, ej13, hM⟩ := fa_ob hM
    refine g_iast X fs_225 (fn_225 hN) ej13 d_Mod_writesType_130 (fun w14 ew14 => ?_)
    have hM := fa_let_to hM ew14
    refine g_aload_n X 0 rfl d_Mod_writesType_131 ?_
    refine g_dup X rfl d_Mod_writesType_132 ?_
    refine g_get X ck_10 fo_181 (fn_181 hN) 74 (by decide) wd_1815 rfl (fa_fvI rfl) d_Mod_writesType_133 ?_
    refine g_iconst X d_Mod_writesType_136 ?_
    refine g_iadd X d_Mod_writesType_137 ?_
    refine g_put X ck_10 fo_181 (fn_181 hN) 74 (z := ((w14 181 74) + 1)) (by decide) wd_1815 rfl (fa_fvI' rfl) rfl rfl rfl d_Mod_writesType_138 (fun w15 ew15 => ?_)
    have hM := fa_let_to hM ew15
    exact g_lv [0, 2] rfl (c_Mod_writesType_j141 X hle hN hT a1 rc_writesType Rrc_writesType   _ _ hM)
def fm_Mod_writesType_l89 (a1 : Int) (rc_writesType : Int → fa_W → Option fa_W) : Nat → Int → Int → fa_W → Option fa_W
  | 0, _, _, _ => none
  | n + 1, x2, x3, w => if fa_wr (w 181 74) ≤ fa_wr x3 then
  fm_Mod_writesType_j113 a1 rc_writesType x2 x3 w
  else
  ((fa_ix x3 1200).bind fun j16 =>
  if fa_wr (w 225 j16) = fa_wr x2 then
  fm_Mod_writesType_j113 a1 rc_writesType x2 x3 w
  else
  (fa_let (x3 + 1) fun x3_18 =>
  fm_Mod_writesType_l89 a1 rc_writesType n x2 x3_18 w))
set_option maxHeartbeats 4000000 in
set_option maxRecDepth 100000 in
theorem c_Mod_writesType_l89 {p : Program} {l : Launch} {e : Env} {s : State} {m : MethodId} {args : Array Value} {below : List Frame} {meth : Method} {c : Code} {hh : Nat} {D : va_G} {b : Nat} {aC : Nat → ClassId} {H0 : Heap} {N T : Nat} {dd : Nat} (X : fa_GX p s m args meth c prog_12_method_86_code 4 ((Option.none : Option Jvm.ClassFile.FieldType)) y_Mod_writesType.cls D b aC) (hle : 1 + dd + 1 ≤ hh) (hN : fa_NM ≤ N) (hT : fa_TM ≤ T) (a1 : Int) {r : fa_W} (rc_writesType : Int → fa_W → Option fa_W) (Rrc_writesType : ∀ (a1 : Int) (w : fa_W) (r : fa_W), rc_writesType a1 w = some r → fa_MC l D b aC H0 N T y_Mod_writesType prog_12_method_86_code 4 ((Option.none : Option Jvm.ClassFile.FieldType)) (1 + dd) [.ref (b + 181), .int (fa_I a1)] w (none) r) : ∀ (n : Nat) (x2 : Int) (x3 : Int) (w : fa_W), fm_Mod_writesType_l89 a1 rc_writesType n x2 x3 w = some r → fa_GJ p l e (fa_rm hh) s m args below meth c 0 0 (MQ below (fa_Qc D b aC H0 N T (none) r) args s 0 0 (fun q => b ≤ q)) D b aC H0 N T 4 w 89 [(0, .ref (b + 181)), (2, .int (fa_I x2)), (3, .int (fa_I x3))] [] := by
  intro n
  induction n with
  | zero => intro x2 x3 w hM; exact fa_no hM
  | succ n ih =>
    intro x2 x3 w hM
    rw [fm_Mod_writesType_l89] at hM
    refine g_iload_n X 2 rfl d_Mod_writesType_89 ?_
    refine g_aload_n X 0 rfl d_Mod_writesType_90 ?_
    refine g_get X ck_10 fo_181 (fn_181 hN) 74 (by decide) wd_1815 rfl (fa_fvI rfl) d_Mod_writesType_91 ?_
    refine g_icmp_ge X 113 d_Mod_writesType_94 (by decide) (fun hc8 => ?_) (fun hc8 => ?_)
    · have hM := fa_if_t hM hc8
      exact g_lv [0, 1, 2] rfl (c_Mod_writesType_j113 X hle hN hT a1 rc_writesType Rrc_writesType   _ _ _ hM)
    · have hM := fa_if_f hM hc8
      refine g_aload_n X 0 rfl d_Mod_writesType_97 ?_
      refine g_get X ck_10 fo_181 (fn_181 hN) 73 (by decide) wd_1814 rfl (fr_181_73 rfl hT) d_Mod_writesType_98 ?_
      refine g_iload_n X 2 rfl d_Mod_writesType_101 ?_
      obtain ⟨j16, ej16, hM⟩ := fa_ob hM
      refine g_iald X fs_225 (fn_225 hN) ej16 d_Mod_writesType_102 ?_
      refine g_iload_n X 1 rfl d_Mod_writesType_103 ?_
      refine g_icmp_eq X 113 d_Mod_writesType_104 (by decide) (fun hc17 => ?_) (fun hc17 => ?_)
      · have hM := fa_if_t hM hc17
        exact g_lv [0, 1, 2] rfl (c_Mod_writesType_j113 X hle hN hT a1 rc_writesType Rrc_writesType   _ _ _ hM)
      · have hM := fa_if_f hM hc17
        refine g_iinc X 2 (fun x3_18 => [(3, .int (fa_I x3_18)), (0, .ref (b + 181)), (2, .int (fa_I x2))]) d_Mod_writesType_107 rfl (by decide) (fun _ => rfl) (fun x3_18 ex3_18 => ?_)
        have hM := fa_let_to hM ex3_18
        refine g_goto X 89 d_Mod_writesType_110 (by decide) ?_
        exact g_lv [1, 2, 0] rfl (ih _ _ _ hM)
def fm_Mod_writesType_b (rc_writesType : Int → fa_W → Option fa_W) (a1 : Int) (w : fa_W) : Option fa_W :=
  if fa_wr (w 181 70) < 300 then
  ((fm_Mod_find a1 w).bind fun v3 =>
  (fa_ix v3 1200).bind fun j4 =>
  if fa_wr (w 199 j4) = 1 then
  ((fm_Mod_says 105 w).bind fun w32 =>
  some w32)
  else
  ((fa_ix v3 1200).bind fun j6 =>
  if fa_wr (w 199 j6) = 2 then
  ((fm_Mod_says 40 w).bind fun w20 =>
  (fa_ix v3 1200).bind fun j21 =>
  (rc_writesType (w20 200 j21) w20).bind fun w23 =>
  (fm_Mod_says 62 w23).bind fun w25 =>
  (fa_ix v3 1200).bind fun j26 =>
  (rc_writesType (w25 201 j26) w25).bind fun w28 =>
  (fm_Mod_says 41 w28).bind fun w30 =>
  some w30)
  else
  fm_Mod_writesType_l89 a1 rc_writesType fa_FU v3 0 w))
  else
  some w
set_option maxHeartbeats 4000000 in
set_option maxRecDepth 100000 in
theorem c_Mod_writesType_b {l : Launch} {D : va_G} {b : Nat} {aC : Nat → ClassId} {H0 : Heap} {N T : Nat} (hN : fa_NM ≤ N) (hT : fa_TM ≤ T) (dd : Nat) (rc_writesType : Int → fa_W → Option fa_W) (Rrc_writesType : ∀ (a1 : Int) (w : fa_W) (r : fa_W), rc_writesType a1 w = some r → fa_MC l D b aC H0 N T y_Mod_writesType prog_12_method_86_code 4 ((Option.none : Option Jvm.ClassFile.FieldType)) (1 + dd) [.ref (b + 181), .int (fa_I a1)] w (none) r) (a1 : Int)  (w : fa_W) (r : fa_W) (hM : fm_Mod_writesType_b rc_writesType a1 w = some r) : fa_MC l D b aC H0 N T y_Mod_writesType prog_12_method_86_code 4 ((Option.none : Option Jvm.ClassFile.FieldType)) (1 + dd + 1) [.ref (b + 181), .int (fa_I a1)] w (none) r := by
  refine fa_enter (lv := [(0, .ref (b + 181)), (1, .int (fa_I a1))]) (by decide +kernel) (Nat.le_of_ble_eq_true rfl) rfl (fun hh hle hnm X => ?_)
  unfold fm_Mod_writesType_b at hM
  refine g_aload_n X 0 rfl d_Mod_writesType_0 ?_
  refine g_get X ck_10 fo_181 (fn_181 hN) 70 (by decide) wd_1811 rfl (fa_fvI rfl) d_Mod_writesType_1 ?_
  refine g_sipush X (by decide) d_Mod_writesType_4 ?_
  refine g_icmp_lt X 11 d_Mod_writesType_7 (by decide) (fun hc1 => ?_) (fun hc1 => ?_)
  · have hM := fa_if_t hM hc1
    refine g_aload_n X 0 rfl d_Mod_writesType_11 ?_
    refine g_iload_n X 1 rfl d_Mod_writesType_12 ?_
    obtain ⟨v3, e2, hM⟩ := fa_ob hM
    refine g_callV_i X ck_10 fo_181 (fn_181 hN) rfl mi_Mod_find (c_Mod_find hN hT a1 w _ e2) wd_1660 rfl (by omega) (st := []) (Nat.le_of_ble_eq_true rfl) rfl d_Mod_writesType_13 ?_
    refine g_istorec_n X [(2, .int (fa_I v3)), (0, .ref (b + 181)), (1, .int (fa_I a1))] d_Mod_writesType_16 (by decide) rfl ?_
    refine g_aload_n X 1 rfl d_Mod_writesType_17 ?_
    refine g_get X ck_10 fo_181 (fn_181 hN) 36 (by decide) wd_1777 rfl (fr_181_36 rfl hT) d_Mod_writesType_18 ?_
    refine g_iload_n X 0 rfl d_Mod_writesType_21 ?_
    obtain ⟨j4, ej4, hM⟩ := fa_ob hM
    refine g_iald X fs_199 (fn_199 hN) ej4 d_Mod_writesType_22 ?_
    refine g_iconst X d_Mod_writesType_23 ?_
    refine g_icmp_ne X 36 d_Mod_writesType_24 (by decide) (fun hc5 => ?_) (fun hc5 => ?_)
    · have hM := fa_if_f hM hc5
      refine g_aload_n X 1 rfl d_Mod_writesType_36 ?_
      refine g_get X ck_10 fo_181 (fn_181 hN) 36 (by decide) wd_1777 rfl (fr_181_36 rfl hT) d_Mod_writesType_37 ?_
      refine g_iload_n X 0 rfl d_Mod_writesType_40 ?_
      obtain ⟨j6, ej6, hM⟩ := fa_ob hM
      refine g_iald X fs_199 (fn_199 hN) ej6 d_Mod_writesType_41 ?_
      refine g_iconst X d_Mod_writesType_42 ?_
      refine g_icmp_ne X 87 d_Mod_writesType_43 (by decide) (fun hc7 => ?_) (fun hc7 => ?_)
      · have hM := fa_if_f hM hc7
        refine g_iconst X d_Mod_writesType_87 ?_
        refine g_istorec_n X [(3, .int (fa_I 0)), (2, .int (fa_I v3)), (0, .ref (b + 181)), (1, .int (fa_I a1))] d_Mod_writesType_88 (by decide) rfl ?_
        exact g_lv [2, 1, 0] rfl (c_Mod_writesType_l89 X hle hN hT a1 rc_writesType Rrc_writesType  fa_FU _ _ _ hM)
      · have hM := fa_if_t hM hc7
        refine g_aload_n X 1 rfl d_Mod_writesType_46 ?_
        refine g_bipush X (by decide) d_Mod_writesType_47 ?_
        obtain ⟨w20, e19, hM⟩ := fa_ob hM
        refine g_callV_v X ck_10 fo_181 (fn_181 hN) rfl mi_Mod_says (c_Mod_says hN hT 40 w _ e19) wd_2053 rfl (by omega) (st := []) (Nat.le_of_ble_eq_true rfl) rfl d_Mod_writesType_49 ?_
        refine g_aload_n X 1 rfl d_Mod_writesType_52 ?_
        refine g_aload_n X 1 rfl d_Mod_writesType_53 ?_
        refine g_get X ck_10 fo_181 (fn_181 hN) 37 (by decide) wd_1778 rfl (fr_181_37 rfl hT) d_Mod_writesType_54 ?_
        refine g_iload_n X 0 rfl d_Mod_writesType_57 ?_
        obtain ⟨j21, ej21, hM⟩ := fa_ob hM
        refine g_iald X fs_200 (fn_200 hN) ej21 d_Mod_writesType_58 ?_
        obtain ⟨w23, e22, hM⟩ := fa_ob hM
        refine g_callV_v X ck_10 fo_181 (fn_181 hN) rfl mi_Mod_writesType (Rrc_writesType (w20 200 j21) w20 _ e22) wd_2104 rfl (by omega) (st := []) (Nat.le_of_ble_eq_true rfl) rfl d_Mod_writesType_59 ?_
        refine g_aload_n X 1 rfl d_Mod_writesType_62 ?_
        refine g_bipush X (by decide) d_Mod_writesType_63 ?_
        obtain ⟨w25, e24, hM⟩ := fa_ob hM
        refine g_callV_v X ck_10 fo_181 (fn_181 hN) rfl mi_Mod_says (c_Mod_says hN hT 62 w23 _ e24) wd_2053 rfl (by omega) (st := []) (Nat.le_of_ble_eq_true rfl) rfl d_Mod_writesType_65 ?_
        refine g_aload_n X 1 rfl d_Mod_writesType_68 ?_
        refine g_aload_n X 1 rfl d_Mod_writesType_69 ?_
        refine g_get X ck_10 fo_181 (fn_181 hN) 38 (by decide) wd_1779 rfl (fr_181_38 rfl hT) d_Mod_writesType_70 ?_
        refine g_iload_n X 0 rfl d_Mod_writesType_73 ?_
        obtain ⟨j26, ej26, hM⟩ := fa_ob hM
        refine g_iald X fs_201 (fn_201 hN) ej26 d_Mod_writesType_74 ?_
        obtain ⟨w28, e27, hM⟩ := fa_ob hM
        refine g_callV_v X ck_10 fo_181 (fn_181 hN) rfl mi_Mod_writesType (Rrc_writesType (w25 201 j26) w25 _ e27) wd_2104 rfl (by omega) (st := []) (Nat.le_of_ble_eq_true rfl) rfl d_Mod_writesType_75 ?_
        refine g_aload_n X 1 rfl d_Mod_writesType_78 ?_
        refine g_bipush X (by decide) d_Mod_writesType_79 ?_
        obtain ⟨w30, e29, hM⟩ := fa_ob hM
        refine g_callV_v X ck_10 fo_181 (fn_181 hN) rfl mi_Mod_says (c_Mod_says hN hT 41 w28 _ e29) wd_2053 rfl (by omega) (st := []) (Nat.le_of_ble_eq_true rfl) rfl d_Mod_writesType_81 ?_
        refine g_goto X 160 d_Mod_writesType_84 (by decide) ?_
        cases hM
        exact g_vret X d_Mod_writesType_160
    · have hM := fa_if_t hM hc5
      refine g_aload_n X 1 rfl d_Mod_writesType_27 ?_
      refine g_bipush X (by decide) d_Mod_writesType_28 ?_
      obtain ⟨w32, e31, hM⟩ := fa_ob hM
      refine g_callV_v X ck_10 fo_181 (fn_181 hN) rfl mi_Mod_says (c_Mod_says hN hT 105 w _ e31) wd_2053 rfl (by omega) (st := []) (Nat.le_of_ble_eq_true rfl) rfl d_Mod_writesType_30 ?_
      refine g_goto X 160 d_Mod_writesType_33 (by decide) ?_
      cases hM
      exact g_vret X d_Mod_writesType_160
  · have hM := fa_if_f hM hc1
    cases hM
    exact g_vret X d_Mod_writesType_10
def fm_Mod_writesType : Nat → Int → fa_W → Option fa_W
  | 0, _, _ => none
  | n + 1, a1, w => fm_Mod_writesType_b (fm_Mod_writesType n) a1 w
set_option maxHeartbeats 4000000 in
set_option maxRecDepth 100000 in
theorem c_Mod_writesType {l : Launch} {D : va_G} {b : Nat} {aC : Nat → ClassId} {H0 : Heap} {N T : Nat} (hN : fa_NM ≤ N) (hT : fa_TM ≤ T) : ∀ (n : Nat) (a1 : Int) (w : fa_W) (r : fa_W), fm_Mod_writesType n a1 w = some r → fa_MC l D b aC H0 N T y_Mod_writesType prog_12_method_86_code 4 ((Option.none : Option Jvm.ClassFile.FieldType)) (1 + n) [.ref (b + 181), .int (fa_I a1)] w (none) r := by
  intro n
  induction n with
  | zero => intro a1 w r hM; exact fa_no hM
  | succ n ih => intro a1 w r hM; exact c_Mod_writesType_b hN hT n (fm_Mod_writesType n) ih a1 w r hM
theorem d_Mod_showsType_0 : decode prog_12_method_87_code 0 = .ok (.aload_n 0, 1) := by decide +kernel
theorem d_Mod_showsType_1 : decode prog_12_method_87_code 1 = .ok (.iconst 0, 1) := by decide +kernel
theorem d_Mod_showsType_2 : decode prog_12_method_87_code 2 = .ok (.putfield 482, 3) := by decide +kernel
theorem d_Mod_showsType_5 : decode prog_12_method_87_code 5 = .ok (.aload_n 0, 1) := by decide +kernel
theorem d_Mod_showsType_6 : decode prog_12_method_87_code 6 = .ok (.iconst 0, 1) := by decide +kernel
theorem d_Mod_showsType_7 : decode prog_12_method_87_code 7 = .ok (.putfield 528, 3) := by decide +kernel
theorem d_Mod_showsType_10 : decode prog_12_method_87_code 10 = .ok (.aload_n 0, 1) := by decide +kernel
theorem d_Mod_showsType_11 : decode prog_12_method_87_code 11 = .ok (.iload_n 1, 1) := by decide +kernel
theorem d_Mod_showsType_12 : decode prog_12_method_87_code 12 = .ok (.invokevirtual 525, 3) := by decide +kernel
theorem d_Mod_showsType_15 : decode prog_12_method_87_code 15 = .ok (.aload_n 0, 1) := by decide +kernel
theorem d_Mod_showsType_16 : decode prog_12_method_87_code 16 = .ok (.getfield 482, 3) := by decide +kernel
theorem d_Mod_showsType_19 : decode prog_12_method_87_code 19 = .ok (.sipush 300, 3) := by decide +kernel
theorem d_Mod_showsType_22 : decode prog_12_method_87_code 22 = .ok (.if_icmp .le 10, 3) := by decide +kernel
theorem d_Mod_showsType_25 : decode prog_12_method_87_code 25 = .ok (.aload_n 0, 1) := by decide +kernel
theorem d_Mod_showsType_26 : decode prog_12_method_87_code 26 = .ok (.sipush 300, 3) := by decide +kernel
theorem d_Mod_showsType_29 : decode prog_12_method_87_code 29 = .ok (.putfield 482, 3) := by decide +kernel
theorem d_Mod_showsType_32 : decode prog_12_method_87_code 32 = .ok (.aload_n 0, 1) := by decide +kernel
theorem d_Mod_showsType_33 : decode prog_12_method_87_code 33 = .ok (.getfield 482, 3) := by decide +kernel
theorem d_Mod_showsType_36 : decode prog_12_method_87_code 36 = .ok (.ireturn, 1) := by decide +kernel
def fm_Mod_showsType_j32 (a1 : Int) (w : fa_W) : Option (Int × fa_W) :=
  some (w 181 70, w)
set_option maxHeartbeats 4000000 in
set_option maxRecDepth 100000 in
theorem c_Mod_showsType_j32 {p : Program} {l : Launch} {e : Env} {s : State} {m : MethodId} {args : Array Value} {below : List Frame} {meth : Method} {c : Code} {hh : Nat} {D : va_G} {b : Nat} {aC : Nat → ClassId} {H0 : Heap} {N T : Nat} (X : fa_GX p s m args meth c prog_12_method_87_code 2 ((Option.some Jvm.ClassFile.FieldType.int)) y_Mod_showsType.cls D b aC) (hle : 902 ≤ hh) (hN : fa_NM ≤ N) (hT : fa_TM ≤ T) (a1 : Int) {r : Int × fa_W}  : ∀ (w : fa_W) (_ : fm_Mod_showsType_j32 a1 w = some r), fa_GJ p l e (fa_rm hh) s m args below meth c 0 0 (MQ below (fa_Qc D b aC H0 N T (some (.int (fa_I r.1))) r.2) args s 0 0 (fun q => b ≤ q)) D b aC H0 N T 2 w 32 [(0, .ref (b + 181))] [] := by
  intro w hM
  unfold fm_Mod_showsType_j32 at hM
  refine g_aload_n X 0 rfl d_Mod_showsType_32 ?_
  refine g_get X ck_10 fo_181 (fn_181 hN) 70 (by decide) wd_1811 rfl (fa_fvI rfl) d_Mod_showsType_33 ?_
  cases hM
  exact g_iret X d_Mod_showsType_36
def fm_Mod_showsType (a1 : Int) (w : fa_W) : Option (Int × fa_W) :=
  fa_let (fa_st w 181 70 0) fun w1 =>
  fa_let (fa_st w1 181 74 0) fun w2 =>
  (fm_Mod_writesType 900 a1 w2).bind fun w4 =>
  if fa_wr (w4 181 70) ≤ 300 then
  fm_Mod_showsType_j32 a1 w4
  else
  (fa_let (fa_st w4 181 70 300) fun w6 =>
  fm_Mod_showsType_j32 a1 w6)
set_option maxHeartbeats 4000000 in
set_option maxRecDepth 100000 in
theorem c_Mod_showsType {l : Launch} {D : va_G} {b : Nat} {aC : Nat → ClassId} {H0 : Heap} {N T : Nat} (hN : fa_NM ≤ N) (hT : fa_TM ≤ T) (a1 : Int)  (w : fa_W) (r : Int × fa_W) (hM : fm_Mod_showsType a1 w = some r) : fa_MC l D b aC H0 N T y_Mod_showsType prog_12_method_87_code 2 ((Option.some Jvm.ClassFile.FieldType.int)) (902) [.ref (b + 181), .int (fa_I a1)] w (some (.int (fa_I r.1))) r.2 := by
  refine fa_enter (lv := [(0, .ref (b + 181)), (1, .int (fa_I a1))]) (by decide +kernel) (Nat.le_of_ble_eq_true rfl) rfl (fun hh hle hnm X => ?_)
  unfold fm_Mod_showsType at hM
  refine g_aload_n X 0 rfl d_Mod_showsType_0 ?_
  refine g_iconst X d_Mod_showsType_1 ?_
  refine g_put X ck_10 fo_181 (fn_181 hN) 70 (z := 0) (by decide) wd_1811 rfl (fa_fvI' rfl) rfl rfl rfl d_Mod_showsType_2 (fun w1 ew1 => ?_)
  have hM := fa_let_to hM ew1
  refine g_aload_n X 0 rfl d_Mod_showsType_5 ?_
  refine g_iconst X d_Mod_showsType_6 ?_
  refine g_put X ck_10 fo_181 (fn_181 hN) 74 (z := 0) (by decide) wd_1815 rfl (fa_fvI' rfl) rfl rfl rfl d_Mod_showsType_7 (fun w2 ew2 => ?_)
  have hM := fa_let_to hM ew2
  refine g_aload_n X 0 rfl d_Mod_showsType_10 ?_
  refine g_iload_n X 1 rfl d_Mod_showsType_11 ?_
  obtain ⟨w4, e3, hM⟩ := fa_ob hM
  refine g_callV_v X ck_10 fo_181 (fn_181 hN) rfl mi_Mod_writesType (c_Mod_writesType hN hT 900 a1 w2 _ e3) wd_2104 rfl (Nat.le_trans (Nat.le_of_ble_eq_true rfl) hle) (st := []) (Nat.le_of_ble_eq_true rfl) rfl d_Mod_showsType_12 ?_
  refine g_aload_n X 0 rfl d_Mod_showsType_15 ?_
  refine g_get X ck_10 fo_181 (fn_181 hN) 70 (by decide) wd_1811 rfl (fa_fvI rfl) d_Mod_showsType_16 ?_
  refine g_sipush X (by decide) d_Mod_showsType_19 ?_
  refine g_icmp_le X 32 d_Mod_showsType_22 (by decide) (fun hc5 => ?_) (fun hc5 => ?_)
  · have hM := fa_if_t hM hc5
    exact g_lv [0] rfl (c_Mod_showsType_j32 X hle hN hT a1    _ hM)
  · have hM := fa_if_f hM hc5
    refine g_aload_n X 0 rfl d_Mod_showsType_25 ?_
    refine g_sipush X (by decide) d_Mod_showsType_26 ?_
    refine g_put X ck_10 fo_181 (fn_181 hN) 70 (z := 300) (by decide) wd_1811 rfl (fa_fvI' rfl) rfl rfl rfl d_Mod_showsType_29 (fun w6 ew6 => ?_)
    have hM := fa_let_to hM ew6
    exact g_lv [0] rfl (c_Mod_showsType_j32 X hle hN hT a1    _ hM)
theorem d_Mod_noFunction_0 : decode prog_12_method_88_code 0 = .ok (.aload_n 0, 1) := by decide +kernel
theorem d_Mod_noFunction_1 : decode prog_12_method_88_code 1 = .ok (.iload_n 1, 1) := by decide +kernel
theorem d_Mod_noFunction_2 : decode prog_12_method_88_code 2 = .ok (.iconst 0, 1) := by decide +kernel
theorem d_Mod_noFunction_3 : decode prog_12_method_88_code 3 = .ok (.aload_n 0, 1) := by decide +kernel
theorem d_Mod_noFunction_4 : decode prog_12_method_88_code 4 = .ok (.invokevirtual 270, 3) := by decide +kernel
theorem d_Mod_noFunction_7 : decode prog_12_method_88_code 7 = .ok (.iconst 1, 1) := by decide +kernel
theorem d_Mod_noFunction_8 : decode prog_12_method_88_code 8 = .ok (.isub, 1) := by decide +kernel
theorem d_Mod_noFunction_9 : decode prog_12_method_88_code 9 = .ok (.invokestatic 530, 3) := by decide +kernel
theorem d_Mod_noFunction_12 : decode prog_12_method_88_code 12 = .ok (.ifCond .ne 7, 3) := by decide +kernel
theorem d_Mod_noFunction_15 : decode prog_12_method_88_code 15 = .ok (.iconst 1, 1) := by decide +kernel
theorem d_Mod_noFunction_16 : decode prog_12_method_88_code 16 = .ok (.goto 4, 3) := by decide +kernel
theorem d_Mod_noFunction_19 : decode prog_12_method_88_code 19 = .ok (.iconst 0, 1) := by decide +kernel
theorem d_Mod_noFunction_20 : decode prog_12_method_88_code 20 = .ok (.iconst 1, 1) := by decide +kernel
theorem d_Mod_noFunction_21 : decode prog_12_method_88_code 21 = .ok (.invokevirtual 533, 3) := by decide +kernel
theorem d_Mod_noFunction_24 : decode prog_12_method_88_code 24 = .ok (.ireturn, 1) := by decide +kernel
def fm_Mod_noFunction_j20 (a1 : Int) (s0 : Bool) (w : fa_W) : Bool × fa_W :=
  fa_l2 (fm_Mod_throwsIf s0 1 w) fun v5 w6 =>
  (v5, w6)
set_option maxHeartbeats 4000000 in
set_option maxRecDepth 100000 in
theorem c_Mod_noFunction_j20 {p : Program} {l : Launch} {e : Env} {s : State} {m : MethodId} {args : Array Value} {below : List Frame} {meth : Method} {c : Code} {hh : Nat} {D : va_G} {b : Nat} {aC : Nat → ClassId} {H0 : Heap} {N T : Nat} (X : fa_GX p s m args meth c prog_12_method_88_code 2 ((Option.some Jvm.ClassFile.FieldType.boolean)) y_Mod_noFunction.cls D b aC) (hle : 1 ≤ hh) (hN : fa_NM ≤ N) (hT : fa_TM ≤ T) (a1 : Int) {r : Bool × fa_W}  : ∀ (s0 : Bool) (w : fa_W) (_ : fm_Mod_noFunction_j20 a1 s0 w = r), fa_GJ p l e (fa_rm hh) s m args below meth c 0 0 (MQ below (fa_Qc D b aC H0 N T (some (.int (fa_I (fa_bi r.1)))) r.2) args s 0 0 (fun q => b ≤ q)) D b aC H0 N T 2 w 20 [] [.int (fa_I (fa_bi s0)), .ref (b + 181)] := by
  intro s0 w hM
  unfold fm_Mod_noFunction_j20 at hM
  refine g_iconst X d_Mod_noFunction_20 ?_
  obtain ⟨⟨v5, w6⟩, e4⟩ : ∃ q, fm_Mod_throwsIf s0 1 w = q := ⟨_, rfl⟩
  have hM := fa_l2_e hM e4
  refine g_callV_i X ck_10 fo_181 (fn_181 hN) rfl mi_Mod_throwsIf (c_Mod_throwsIf hN hT s0 1 w _ e4) wd_2096 rfl (Nat.le_trans (Nat.le_of_ble_eq_true rfl) hle) (st := []) (Nat.le_of_ble_eq_true rfl) rfl d_Mod_noFunction_21 ?_
  subst hM
  exact g_zret X rfl d_Mod_noFunction_24
def fm_Mod_noFunction (a1 : Int) (w : fa_W) : Bool × fa_W :=
  if fm_Mod_in a1 0 ((fm_Mod_functions w) - 1) w = true then
  fm_Mod_noFunction_j20 a1 false w
  else
  fm_Mod_noFunction_j20 a1 true w
set_option maxHeartbeats 4000000 in
set_option maxRecDepth 100000 in
theorem c_Mod_noFunction {l : Launch} {D : va_G} {b : Nat} {aC : Nat → ClassId} {H0 : Heap} {N T : Nat} (hN : fa_NM ≤ N) (hT : fa_TM ≤ T) (a1 : Int)  (w : fa_W) (r : Bool × fa_W) (hM : fm_Mod_noFunction a1 w = r) : fa_MC l D b aC H0 N T y_Mod_noFunction prog_12_method_88_code 2 ((Option.some Jvm.ClassFile.FieldType.boolean)) (1) [.ref (b + 181), .int (fa_I a1)] w (some (.int (fa_I (fa_bi r.1)))) r.2 := by
  refine fa_enter (lv := [(0, .ref (b + 181)), (1, .int (fa_I a1))]) (by decide +kernel) (Nat.le_of_ble_eq_true rfl) rfl (fun hh hle hnm X => ?_)
  unfold fm_Mod_noFunction at hM
  refine g_aload_n X 0 rfl d_Mod_noFunction_0 ?_
  refine g_iload_n X 1 rfl d_Mod_noFunction_1 ?_
  refine g_iconst X d_Mod_noFunction_2 ?_
  refine g_aload_n X 0 rfl d_Mod_noFunction_3 ?_
  refine g_callV_i X ck_10 fo_181 (fn_181 hN) rfl mi_Mod_functions (c_Mod_functions hN hT w _ rfl) wd_1644 rfl (Nat.le_trans (Nat.le_of_ble_eq_true rfl) hle) (st := [.int (fa_I 0), .int (fa_I a1), .ref (b + 181)]) (Nat.le_of_ble_eq_true rfl) rfl d_Mod_noFunction_4 ?_
  refine g_iconst X d_Mod_noFunction_7 ?_
  refine g_isub X d_Mod_noFunction_8 ?_
  refine g_callS_i X mi_Mod_in (c_Mod_in hN hT a1 0 ((fm_Mod_functions w) - 1) w _ rfl) wd_2093 rfl (Nat.le_trans (Nat.le_of_ble_eq_true rfl) hle) (st := [.ref (b + 181)]) (Nat.le_of_ble_eq_true rfl) rfl d_Mod_noFunction_9 ?_
  refine g_ifb_ne X 19 d_Mod_noFunction_12 (by decide) (fun hc3 => ?_) (fun hc3 => ?_)
  · have hM := fa_ifb_t hM hc3
    refine g_iconst X d_Mod_noFunction_19 ?_
    exact g_lv [] rfl (c_Mod_noFunction_j20 X hle hN hT a1    _ _ hM)
  · have hM := fa_ifb_f hM hc3
    refine g_iconst X d_Mod_noFunction_15 ?_
    refine g_goto X 20 d_Mod_noFunction_16 (by decide) ?_
    exact g_lv [] rfl (c_Mod_noFunction_j20 X hle hN hT a1    _ _ hM)
theorem d_Mod_type1_0 : decode prog_12_method_89_code 0 = .ok (.aload_n 0, 1) := by decide +kernel
theorem d_Mod_type1_1 : decode prog_12_method_89_code 1 = .ok (.iconst 0, 1) := by decide +kernel
theorem d_Mod_type1_2 : decode prog_12_method_89_code 2 = .ok (.putfield 1, 3) := by decide +kernel
theorem d_Mod_type1_5 : decode prog_12_method_89_code 5 = .ok (.aload_n 0, 1) := by decide +kernel
theorem d_Mod_type1_6 : decode prog_12_method_89_code 6 = .ok (.iload_n 1, 1) := by decide +kernel
theorem d_Mod_type1_7 : decode prog_12_method_89_code 7 = .ok (.invokevirtual 537, 3) := by decide +kernel
theorem d_Mod_type1_10 : decode prog_12_method_89_code 10 = .ok (.ifCond .eq 7, 3) := by decide +kernel
theorem d_Mod_type1_13 : decode prog_12_method_89_code 13 = .ok (.iconst 0, 1) := by decide +kernel
theorem d_Mod_type1_14 : decode prog_12_method_89_code 14 = .ok (.goto 13, 3) := by decide +kernel
theorem d_Mod_type1_17 : decode prog_12_method_89_code 17 = .ok (.aload_n 0, 1) := by decide +kernel
theorem d_Mod_type1_18 : decode prog_12_method_89_code 18 = .ok (.aload_n 0, 1) := by decide +kernel
theorem d_Mod_type1_19 : decode prog_12_method_89_code 19 = .ok (.getfield 273, 3) := by decide +kernel
theorem d_Mod_type1_22 : decode prog_12_method_89_code 22 = .ok (.iload_n 1, 1) := by decide +kernel
theorem d_Mod_type1_23 : decode prog_12_method_89_code 23 = .ok (.iaload, 1) := by decide +kernel
theorem d_Mod_type1_24 : decode prog_12_method_89_code 24 = .ok (.invokevirtual 540, 3) := by decide +kernel
theorem d_Mod_type1_27 : decode prog_12_method_89_code 27 = .ok (.ireturn, 1) := by decide +kernel
def fm_Mod_type1 (a1 : Int) (w : fa_W) : Option (Int × fa_W) :=
  fa_let (fa_st w 181 0 0) fun w1 =>
  fa_l2 (fm_Mod_noFunction a1 w1) fun v3 w4 =>
  if v3 = true then
  some (0, w4)
  else
  ((fa_ix a1 24).bind fun j6 =>
  fa_bd (fm_Mod_showsType (w4 206 j6) w4) fun v8 w9 =>
  some (v8, w9))
set_option maxHeartbeats 4000000 in
set_option maxRecDepth 100000 in
theorem c_Mod_type1 {l : Launch} {D : va_G} {b : Nat} {aC : Nat → ClassId} {H0 : Heap} {N T : Nat} (hN : fa_NM ≤ N) (hT : fa_TM ≤ T) (a1 : Int)  (w : fa_W) (r : Int × fa_W) (hM : fm_Mod_type1 a1 w = some r) : fa_MC l D b aC H0 N T y_Mod_type1 prog_12_method_89_code 2 ((Option.some Jvm.ClassFile.FieldType.int)) (903) [.ref (b + 181), .int (fa_I a1)] w (some (.int (fa_I r.1))) r.2 := by
  refine fa_enter (lv := [(0, .ref (b + 181)), (1, .int (fa_I a1))]) (by decide +kernel) (Nat.le_of_ble_eq_true rfl) rfl (fun hh hle hnm X => ?_)
  unfold fm_Mod_type1 at hM
  refine g_aload_n X 0 rfl d_Mod_type1_0 ?_
  refine g_iconst X d_Mod_type1_1 ?_
  refine g_put X ck_10 fo_181 (fn_181 hN) 0 (z := 0) (by decide) wd_1742 rfl (fa_fvI' rfl) rfl rfl rfl d_Mod_type1_2 (fun w1 ew1 => ?_)
  have hM := fa_let_to hM ew1
  refine g_aload_n X 0 rfl d_Mod_type1_5 ?_
  refine g_iload_n X 1 rfl d_Mod_type1_6 ?_
  obtain ⟨⟨v3, w4⟩, e2⟩ : ∃ q, fm_Mod_noFunction a1 w1 = q := ⟨_, rfl⟩
  have hM := fa_l2_e hM e2
  refine g_callV_i X ck_10 fo_181 (fn_181 hN) rfl mi_Mod_noFunction (c_Mod_noFunction hN hT a1 w1 _ e2) wd_2089 rfl (Nat.le_trans (Nat.le_of_ble_eq_true rfl) hle) (st := []) (Nat.le_of_ble_eq_true rfl) rfl d_Mod_type1_7 ?_
  refine g_ifb_eq X 17 d_Mod_type1_10 (by decide) (fun hc5 => ?_) (fun hc5 => ?_)
  · have hM := fa_ifb_f hM hc5
    refine g_aload_n X 0 rfl d_Mod_type1_17 ?_
    refine g_aload_n X 0 rfl d_Mod_type1_18 ?_
    refine g_get X ck_10 fo_181 (fn_181 hN) 45 (by decide) wd_1786 rfl (fr_181_45 rfl hT) d_Mod_type1_19 ?_
    refine g_iload_n X 1 rfl d_Mod_type1_22 ?_
    obtain ⟨j6, ej6, hM⟩ := fa_ob hM
    refine g_iald X fs_206 (fn_206 hN) ej6 d_Mod_type1_23 ?_
    obtain ⟨v8, w9, e7, hM⟩ := fa_obd hM
    refine g_callV_i X ck_10 fo_181 (fn_181 hN) rfl mi_Mod_showsType (c_Mod_showsType hN hT (w4 206 j6) w4 _ e7) wd_2100 rfl (Nat.le_trans (Nat.le_of_ble_eq_true rfl) hle) (st := []) (Nat.le_of_ble_eq_true rfl) rfl d_Mod_type1_24 ?_
    cases hM
    exact g_iret X d_Mod_type1_27
  · have hM := fa_ifb_t hM hc5
    refine g_iconst X d_Mod_type1_13 ?_
    refine g_goto X 27 d_Mod_type1_14 (by decide) ?_
    cases hM
    exact g_iret X d_Mod_type1_27
theorem d_Mod_typeOfMain_0 : decode prog_12_method_90_code 0 = .ok (.aload_n 0, 1) := by decide +kernel
theorem d_Mod_typeOfMain_1 : decode prog_12_method_90_code 1 = .ok (.iconst 0, 1) := by decide +kernel
theorem d_Mod_typeOfMain_2 : decode prog_12_method_90_code 2 = .ok (.putfield 1, 3) := by decide +kernel
theorem d_Mod_typeOfMain_5 : decode prog_12_method_90_code 5 = .ok (.aload_n 0, 1) := by decide +kernel
theorem d_Mod_typeOfMain_6 : decode prog_12_method_90_code 6 = .ok (.aload_n 0, 1) := by decide +kernel
theorem d_Mod_typeOfMain_7 : decode prog_12_method_90_code 7 = .ok (.getfield 261, 3) := by decide +kernel
theorem d_Mod_typeOfMain_10 : decode prog_12_method_90_code 10 = .ok (.aload_n 0, 1) := by decide +kernel
theorem d_Mod_typeOfMain_11 : decode prog_12_method_90_code 11 = .ok (.getfield 218, 3) := by decide +kernel
theorem d_Mod_typeOfMain_14 : decode prog_12_method_90_code 14 = .ok (.iaload, 1) := by decide +kernel
theorem d_Mod_typeOfMain_15 : decode prog_12_method_90_code 15 = .ok (.invokevirtual 540, 3) := by decide +kernel
theorem d_Mod_typeOfMain_18 : decode prog_12_method_90_code 18 = .ok (.ireturn, 1) := by decide +kernel
def fm_Mod_typeOfMain (w : fa_W) : Option (Int × fa_W) :=
  fa_let (fa_st w 181 0 0) fun w1 =>
  (fa_ix (w1 181 21) 101).bind fun j2 =>
  fa_bd (fm_Mod_showsType (w1 203 j2) w1) fun v4 w5 =>
  some (v4, w5)
set_option maxHeartbeats 4000000 in
set_option maxRecDepth 100000 in
theorem c_Mod_typeOfMain {l : Launch} {D : va_G} {b : Nat} {aC : Nat → ClassId} {H0 : Heap} {N T : Nat} (hN : fa_NM ≤ N) (hT : fa_TM ≤ T)   (w : fa_W) (r : Int × fa_W) (hM : fm_Mod_typeOfMain w = some r) : fa_MC l D b aC H0 N T y_Mod_typeOfMain prog_12_method_90_code 1 ((Option.some Jvm.ClassFile.FieldType.int)) (903) [.ref (b + 181)] w (some (.int (fa_I r.1))) r.2 := by
  refine fa_enter (lv := [(0, .ref (b + 181))]) (by decide +kernel) (Nat.le_of_ble_eq_true rfl) rfl (fun hh hle hnm X => ?_)
  unfold fm_Mod_typeOfMain at hM
  refine g_aload_n X 0 rfl d_Mod_typeOfMain_0 ?_
  refine g_iconst X d_Mod_typeOfMain_1 ?_
  refine g_put X ck_10 fo_181 (fn_181 hN) 0 (z := 0) (by decide) wd_1742 rfl (fa_fvI' rfl) rfl rfl rfl d_Mod_typeOfMain_2 (fun w1 ew1 => ?_)
  have hM := fa_let_to hM ew1
  refine g_aload_n X 0 rfl d_Mod_typeOfMain_5 ?_
  refine g_aload_n X 0 rfl d_Mod_typeOfMain_6 ?_
  refine g_get X ck_10 fo_181 (fn_181 hN) 40 (by decide) wd_1781 rfl (fr_181_40 rfl hT) d_Mod_typeOfMain_7 ?_
  refine g_aload_n X 0 rfl d_Mod_typeOfMain_10 ?_
  refine g_get X ck_10 fo_181 (fn_181 hN) 21 (by decide) wd_1763 rfl (fa_fvI rfl) d_Mod_typeOfMain_11 ?_
  obtain ⟨j2, ej2, hM⟩ := fa_ob hM
  refine g_iald X fs_203 (fn_203 hN) ej2 d_Mod_typeOfMain_14 ?_
  obtain ⟨v4, w5, e3, hM⟩ := fa_obd hM
  refine g_callV_i X ck_10 fo_181 (fn_181 hN) rfl mi_Mod_showsType (c_Mod_showsType hN hT (w1 203 j2) w1 _ e3) wd_2100 rfl (Nat.le_trans (Nat.le_of_ble_eq_true rfl) hle) (st := []) (Nat.le_of_ble_eq_true rfl) rfl d_Mod_typeOfMain_15 ?_
  cases hM
  exact g_iret X d_Mod_typeOfMain_18
theorem d_Mod_alike_0 : decode prog_12_method_91_code 0 = .ok (.aload_n 0, 1) := by decide +kernel
theorem d_Mod_alike_1 : decode prog_12_method_91_code 1 = .ok (.iconst 0, 1) := by decide +kernel
theorem d_Mod_alike_2 : decode prog_12_method_91_code 2 = .ok (.putfield 1, 3) := by decide +kernel
theorem d_Mod_alike_5 : decode prog_12_method_91_code 5 = .ok (.aload_n 0, 1) := by decide +kernel
theorem d_Mod_alike_6 : decode prog_12_method_91_code 6 = .ok (.iload_n 1, 1) := by decide +kernel
theorem d_Mod_alike_7 : decode prog_12_method_91_code 7 = .ok (.invokevirtual 537, 3) := by decide +kernel
theorem d_Mod_alike_10 : decode prog_12_method_91_code 10 = .ok (.ifCond .ne 34, 3) := by decide +kernel
theorem d_Mod_alike_13 : decode prog_12_method_91_code 13 = .ok (.aload_n 0, 1) := by decide +kernel
theorem d_Mod_alike_14 : decode prog_12_method_91_code 14 = .ok (.iload_n 2, 1) := by decide +kernel
theorem d_Mod_alike_15 : decode prog_12_method_91_code 15 = .ok (.invokevirtual 537, 3) := by decide +kernel
theorem d_Mod_alike_18 : decode prog_12_method_91_code 18 = .ok (.ifCond .ne 26, 3) := by decide +kernel
theorem d_Mod_alike_21 : decode prog_12_method_91_code 21 = .ok (.aload_n 0, 1) := by decide +kernel
theorem d_Mod_alike_22 : decode prog_12_method_91_code 22 = .ok (.aload_n 0, 1) := by decide +kernel
theorem d_Mod_alike_23 : decode prog_12_method_91_code 23 = .ok (.getfield 273, 3) := by decide +kernel
theorem d_Mod_alike_26 : decode prog_12_method_91_code 26 = .ok (.iload_n 1, 1) := by decide +kernel
theorem d_Mod_alike_27 : decode prog_12_method_91_code 27 = .ok (.iaload, 1) := by decide +kernel
theorem d_Mod_alike_28 : decode prog_12_method_91_code 28 = .ok (.aload_n 0, 1) := by decide +kernel
theorem d_Mod_alike_29 : decode prog_12_method_91_code 29 = .ok (.getfield 273, 3) := by decide +kernel
theorem d_Mod_alike_32 : decode prog_12_method_91_code 32 = .ok (.iload_n 2, 1) := by decide +kernel
theorem d_Mod_alike_33 : decode prog_12_method_91_code 33 = .ok (.iaload, 1) := by decide +kernel
theorem d_Mod_alike_34 : decode prog_12_method_91_code 34 = .ok (.invokevirtual 288, 3) := by decide +kernel
theorem d_Mod_alike_37 : decode prog_12_method_91_code 37 = .ok (.ifCond .eq 7, 3) := by decide +kernel
theorem d_Mod_alike_40 : decode prog_12_method_91_code 40 = .ok (.iconst 1, 1) := by decide +kernel
theorem d_Mod_alike_41 : decode prog_12_method_91_code 41 = .ok (.goto 4, 3) := by decide +kernel
theorem d_Mod_alike_44 : decode prog_12_method_91_code 44 = .ok (.iconst 0, 1) := by decide +kernel
theorem d_Mod_alike_45 : decode prog_12_method_91_code 45 = .ok (.ireturn, 1) := by decide +kernel
def fm_Mod_alike (a1 : Int) (a2 : Int) (w : fa_W) : Option (Bool × fa_W) :=
  fa_let (fa_st w 181 0 0) fun w1 =>
  fa_l2 (fm_Mod_noFunction a1 w1) fun v3 w4 =>
  if v3 = true then
  some (false, w4)
  else
  (fa_l2 (fm_Mod_noFunction a2 w4) fun v7 w8 =>
  if v7 = true then
  some (false, w8)
  else
  ((fa_ix a1 24).bind fun j10 =>
  (fa_ix a2 24).bind fun j11 =>
  (fm_Mod_areOne 900 (w8 206 j10) (w8 206 j11) w8).bind fun v13 =>
  if v13 = true then
  some (true, w8)
  else
  some (false, w8)))
set_option maxHeartbeats 4000000 in
set_option maxRecDepth 100000 in
theorem c_Mod_alike {l : Launch} {D : va_G} {b : Nat} {aC : Nat → ClassId} {H0 : Heap} {N T : Nat} (hN : fa_NM ≤ N) (hT : fa_TM ≤ T) (a1 : Int) (a2 : Int)  (w : fa_W) (r : Bool × fa_W) (hM : fm_Mod_alike a1 a2 w = some r) : fa_MC l D b aC H0 N T y_Mod_alike prog_12_method_91_code 3 ((Option.some Jvm.ClassFile.FieldType.boolean)) (902) [.ref (b + 181), .int (fa_I a1), .int (fa_I a2)] w (some (.int (fa_I (fa_bi r.1)))) r.2 := by
  refine fa_enter (lv := [(0, .ref (b + 181)), (1, .int (fa_I a1)), (2, .int (fa_I a2))]) (by decide +kernel) (Nat.le_of_ble_eq_true rfl) rfl (fun hh hle hnm X => ?_)
  unfold fm_Mod_alike at hM
  refine g_aload_n X 0 rfl d_Mod_alike_0 ?_
  refine g_iconst X d_Mod_alike_1 ?_
  refine g_put X ck_10 fo_181 (fn_181 hN) 0 (z := 0) (by decide) wd_1742 rfl (fa_fvI' rfl) rfl rfl rfl d_Mod_alike_2 (fun w1 ew1 => ?_)
  have hM := fa_let_to hM ew1
  refine g_aload_n X 0 rfl d_Mod_alike_5 ?_
  refine g_iload_n X 1 rfl d_Mod_alike_6 ?_
  obtain ⟨⟨v3, w4⟩, e2⟩ : ∃ q, fm_Mod_noFunction a1 w1 = q := ⟨_, rfl⟩
  have hM := fa_l2_e hM e2
  refine g_callV_i X ck_10 fo_181 (fn_181 hN) rfl mi_Mod_noFunction (c_Mod_noFunction hN hT a1 w1 _ e2) wd_2089 rfl (Nat.le_trans (Nat.le_of_ble_eq_true rfl) hle) (st := []) (Nat.le_of_ble_eq_true rfl) rfl d_Mod_alike_7 ?_
  refine g_ifb_ne X 44 d_Mod_alike_10 (by decide) (fun hc5 => ?_) (fun hc5 => ?_)
  · have hM := fa_ifb_t hM hc5
    refine g_iconst X d_Mod_alike_44 ?_
    cases hM
    exact g_zret X rfl d_Mod_alike_45
  · have hM := fa_ifb_f hM hc5
    refine g_aload_n X 0 rfl d_Mod_alike_13 ?_
    refine g_iload_n X 2 rfl d_Mod_alike_14 ?_
    obtain ⟨⟨v7, w8⟩, e6⟩ : ∃ q, fm_Mod_noFunction a2 w4 = q := ⟨_, rfl⟩
    have hM := fa_l2_e hM e6
    refine g_callV_i X ck_10 fo_181 (fn_181 hN) rfl mi_Mod_noFunction (c_Mod_noFunction hN hT a2 w4 _ e6) wd_2089 rfl (Nat.le_trans (Nat.le_of_ble_eq_true rfl) hle) (st := []) (Nat.le_of_ble_eq_true rfl) rfl d_Mod_alike_15 ?_
    refine g_ifb_ne X 44 d_Mod_alike_18 (by decide) (fun hc9 => ?_) (fun hc9 => ?_)
    · have hM := fa_ifb_t hM hc9
      refine g_iconst X d_Mod_alike_44 ?_
      cases hM
      exact g_zret X rfl d_Mod_alike_45
    · have hM := fa_ifb_f hM hc9
      refine g_aload_n X 0 rfl d_Mod_alike_21 ?_
      refine g_aload_n X 0 rfl d_Mod_alike_22 ?_
      refine g_get X ck_10 fo_181 (fn_181 hN) 45 (by decide) wd_1786 rfl (fr_181_45 rfl hT) d_Mod_alike_23 ?_
      refine g_iload_n X 1 rfl d_Mod_alike_26 ?_
      obtain ⟨j10, ej10, hM⟩ := fa_ob hM
      refine g_iald X fs_206 (fn_206 hN) ej10 d_Mod_alike_27 ?_
      refine g_aload_n X 0 rfl d_Mod_alike_28 ?_
      refine g_get X ck_10 fo_181 (fn_181 hN) 45 (by decide) wd_1786 rfl (fr_181_45 rfl hT) d_Mod_alike_29 ?_
      refine g_iload_n X 2 rfl d_Mod_alike_32 ?_
      obtain ⟨j11, ej11, hM⟩ := fa_ob hM
      refine g_iald X fs_206 (fn_206 hN) ej11 d_Mod_alike_33 ?_
      obtain ⟨v13, e12, hM⟩ := fa_ob hM
      refine g_callV_i X ck_10 fo_181 (fn_181 hN) rfl mi_Mod_areOne (c_Mod_areOne hN hT 900 (w8 206 j10) (w8 206 j11) w8 _ e12) wd_1718 rfl (Nat.le_trans (Nat.le_of_ble_eq_true rfl) hle) (st := []) (Nat.le_of_ble_eq_true rfl) rfl d_Mod_alike_34 ?_
      refine g_ifb_eq X 44 d_Mod_alike_37 (by decide) (fun hc14 => ?_) (fun hc14 => ?_)
      · have hM := fa_ifb_f hM hc14
        refine g_iconst X d_Mod_alike_44 ?_
        cases hM
        exact g_zret X rfl d_Mod_alike_45
      · have hM := fa_ifb_t hM hc14
        refine g_iconst X d_Mod_alike_40 ?_
        refine g_goto X 45 d_Mod_alike_41 (by decide) ?_
        cases hM
        exact g_zret X rfl d_Mod_alike_45
theorem d_Mod_field_0 : decode prog_12_method_92_code 0 = .ok (.aload_n 0, 1) := by decide +kernel
theorem d_Mod_field_1 : decode prog_12_method_92_code 1 = .ok (.iconst 0, 1) := by decide +kernel
theorem d_Mod_field_2 : decode prog_12_method_92_code 2 = .ok (.putfield 1, 3) := by decide +kernel
theorem d_Mod_field_5 : decode prog_12_method_92_code 5 = .ok (.aload_n 0, 1) := by decide +kernel
theorem d_Mod_field_6 : decode prog_12_method_92_code 6 = .ok (.iload_n 1, 1) := by decide +kernel
theorem d_Mod_field_7 : decode prog_12_method_92_code 7 = .ok (.invokevirtual 537, 3) := by decide +kernel
theorem d_Mod_field_10 : decode prog_12_method_92_code 10 = .ok (.ifCond .ne 32, 3) := by decide +kernel
theorem d_Mod_field_13 : decode prog_12_method_92_code 13 = .ok (.aload_n 0, 1) := by decide +kernel
theorem d_Mod_field_14 : decode prog_12_method_92_code 14 = .ok (.iload_n 2, 1) := by decide +kernel
theorem d_Mod_field_15 : decode prog_12_method_92_code 15 = .ok (.iconst 0, 1) := by decide +kernel
theorem d_Mod_field_16 : decode prog_12_method_92_code 16 = .ok (.aload_n 0, 1) := by decide +kernel
theorem d_Mod_field_17 : decode prog_12_method_92_code 17 = .ok (.getfield 347, 3) := by decide +kernel
theorem d_Mod_field_20 : decode prog_12_method_92_code 20 = .ok (.iload_n 1, 1) := by decide +kernel
theorem d_Mod_field_21 : decode prog_12_method_92_code 21 = .ok (.iaload, 1) := by decide +kernel
theorem d_Mod_field_22 : decode prog_12_method_92_code 22 = .ok (.iconst 1, 1) := by decide +kernel
theorem d_Mod_field_23 : decode prog_12_method_92_code 23 = .ok (.isub, 1) := by decide +kernel
theorem d_Mod_field_24 : decode prog_12_method_92_code 24 = .ok (.invokestatic 530, 3) := by decide +kernel
theorem d_Mod_field_27 : decode prog_12_method_92_code 27 = .ok (.ifCond .ne 7, 3) := by decide +kernel
theorem d_Mod_field_30 : decode prog_12_method_92_code 30 = .ok (.iconst 1, 1) := by decide +kernel
theorem d_Mod_field_31 : decode prog_12_method_92_code 31 = .ok (.goto 4, 3) := by decide +kernel
theorem d_Mod_field_34 : decode prog_12_method_92_code 34 = .ok (.iconst 0, 1) := by decide +kernel
theorem d_Mod_field_35 : decode prog_12_method_92_code 35 = .ok (.iconst 2, 1) := by decide +kernel
theorem d_Mod_field_36 : decode prog_12_method_92_code 36 = .ok (.invokevirtual 533, 3) := by decide +kernel
theorem d_Mod_field_39 : decode prog_12_method_92_code 39 = .ok (.ifCond .eq 5, 3) := by decide +kernel
theorem d_Mod_field_42 : decode prog_12_method_92_code 42 = .ok (.iconst 0, 1) := by decide +kernel
theorem d_Mod_field_43 : decode prog_12_method_92_code 43 = .ok (.ireturn, 1) := by decide +kernel
theorem d_Mod_field_44 : decode prog_12_method_92_code 44 = .ok (.aload_n 0, 1) := by decide +kernel
theorem d_Mod_field_45 : decode prog_12_method_92_code 45 = .ok (.iconst 0, 1) := by decide +kernel
theorem d_Mod_field_46 : decode prog_12_method_92_code 46 = .ok (.putfield 482, 3) := by decide +kernel
theorem d_Mod_field_49 : decode prog_12_method_92_code 49 = .ok (.aload_n 0, 1) := by decide +kernel
theorem d_Mod_field_50 : decode prog_12_method_92_code 50 = .ok (.aload_n 0, 1) := by decide +kernel
theorem d_Mod_field_51 : decode prog_12_method_92_code 51 = .ok (.getfield 116, 3) := by decide +kernel
theorem d_Mod_field_54 : decode prog_12_method_92_code 54 = .ok (.aload_n 0, 1) := by decide +kernel
theorem d_Mod_field_55 : decode prog_12_method_92_code 55 = .ok (.getfield 350, 3) := by decide +kernel
theorem d_Mod_field_58 : decode prog_12_method_92_code 58 = .ok (.bipush 124, 2) := by decide +kernel
theorem d_Mod_field_60 : decode prog_12_method_92_code 60 = .ok (.iload_n 1, 1) := by decide +kernel
theorem d_Mod_field_61 : decode prog_12_method_92_code 61 = .ok (.imul, 1) := by decide +kernel
theorem d_Mod_field_62 : decode prog_12_method_92_code 62 = .ok (.iload_n 2, 1) := by decide +kernel
theorem d_Mod_field_63 : decode prog_12_method_92_code 63 = .ok (.iadd, 1) := by decide +kernel
theorem d_Mod_field_64 : decode prog_12_method_92_code 64 = .ok (.iaload, 1) := by decide +kernel
theorem d_Mod_field_65 : decode prog_12_method_92_code 65 = .ok (.iaload, 1) := by decide +kernel
theorem d_Mod_field_66 : decode prog_12_method_92_code 66 = .ok (.invokevirtual 491, 3) := by decide +kernel
theorem d_Mod_field_69 : decode prog_12_method_92_code 69 = .ok (.aload_n 0, 1) := by decide +kernel
theorem d_Mod_field_70 : decode prog_12_method_92_code 70 = .ok (.getfield 482, 3) := by decide +kernel
theorem d_Mod_field_73 : decode prog_12_method_92_code 73 = .ok (.ireturn, 1) := by decide +kernel
def fm_Mod_field_j35 (a1 : Int) (a2 : Int) (s0 : Bool) (w : fa_W) : Option (Int × fa_W) :=
  fa_l2 (fm_Mod_throwsIf s0 2 w) fun v10 w11 =>
  if v10 = true then
  some (0, w11)
  else
  (fa_let (fa_st w11 181 70 0) fun w13 =>
  (fa_ix ((124 * a1) + a2) 2976).bind fun j14 =>
  (fa_ix (w13 213 j14) 124).bind fun j15 =>
  (fm_Mod_saysWord 900 (w13 192 j15) w13).bind fun w17 =>
  some (w17 181 70, w17))
set_option maxHeartbeats 4000000 in
set_option maxRecDepth 100000 in
theorem c_Mod_field_j35 {p : Program} {l : Launch} {e : Env} {s : State} {m : MethodId} {args : Array Value} {below : List Frame} {meth : Method} {c : Code} {hh : Nat} {D : va_G} {b : Nat} {aC : Nat → ClassId} {H0 : Heap} {N T : Nat} (X : fa_GX p s m args meth c prog_12_method_92_code 3 ((Option.some Jvm.ClassFile.FieldType.int)) y_Mod_field.cls D b aC) (hle : 902 ≤ hh) (hN : fa_NM ≤ N) (hT : fa_TM ≤ T) (a1 : Int) (a2 : Int) {r : Int × fa_W}  : ∀ (s0 : Bool) (w : fa_W) (_ : fm_Mod_field_j35 a1 a2 s0 w = some r), fa_GJ p l e (fa_rm hh) s m args below meth c 0 0 (MQ below (fa_Qc D b aC H0 N T (some (.int (fa_I r.1))) r.2) args s 0 0 (fun q => b ≤ q)) D b aC H0 N T 3 w 35 [(0, .ref (b + 181)), (1, .int (fa_I a1)), (2, .int (fa_I a2))] [.int (fa_I (fa_bi s0)), .ref (b + 181)] := by
  intro s0 w hM
  unfold fm_Mod_field_j35 at hM
  refine g_iconst X d_Mod_field_35 ?_
  obtain ⟨⟨v10, w11⟩, e9⟩ : ∃ q, fm_Mod_throwsIf s0 2 w = q := ⟨_, rfl⟩
  have hM := fa_l2_e hM e9
  refine g_callV_i X ck_10 fo_181 (fn_181 hN) rfl mi_Mod_throwsIf (c_Mod_throwsIf hN hT s0 2 w _ e9) wd_2096 rfl (Nat.le_trans (Nat.le_of_ble_eq_true rfl) hle) (st := []) (Nat.le_of_ble_eq_true rfl) rfl d_Mod_field_36 ?_
  refine g_ifb_eq X 44 d_Mod_field_39 (by decide) (fun hc12 => ?_) (fun hc12 => ?_)
  · have hM := fa_ifb_f hM hc12
    refine g_aload_n X 0 rfl d_Mod_field_44 ?_
    refine g_iconst X d_Mod_field_45 ?_
    refine g_put X ck_10 fo_181 (fn_181 hN) 70 (z := 0) (by decide) wd_1811 rfl (fa_fvI' rfl) rfl rfl rfl d_Mod_field_46 (fun w13 ew13 => ?_)
    have hM := fa_let_to hM ew13
    refine g_aload_n X 0 rfl d_Mod_field_49 ?_
    refine g_aload_n X 0 rfl d_Mod_field_50 ?_
    refine g_get X ck_10 fo_181 (fn_181 hN) 12 (by decide) wd_1754 rfl (fr_181_12 rfl hT) d_Mod_field_51 ?_
    refine g_aload_n X 0 rfl d_Mod_field_54 ?_
    refine g_get X ck_10 fo_181 (fn_181 hN) 56 (by decide) wd_1797 rfl (fr_181_56 rfl hT) d_Mod_field_55 ?_
    refine g_bipush X (by decide) d_Mod_field_58 ?_
    refine g_iload_n X 1 rfl d_Mod_field_60 ?_
    refine g_imul X d_Mod_field_61 ?_
    refine g_iload_n X 2 rfl d_Mod_field_62 ?_
    refine g_iadd X d_Mod_field_63 ?_
    obtain ⟨j14, ej14, hM⟩ := fa_ob hM
    refine g_iald X fs_213 (fn_213 hN) ej14 d_Mod_field_64 ?_
    obtain ⟨j15, ej15, hM⟩ := fa_ob hM
    refine g_iald X fs_192 (fn_192 hN) ej15 d_Mod_field_65 ?_
    obtain ⟨w17, e16, hM⟩ := fa_ob hM
    refine g_callV_v X ck_10 fo_181 (fn_181 hN) rfl mi_Mod_saysWord (c_Mod_saysWord hN hT 900 (w13 192 j15) w13 _ e16) wd_2049 rfl (Nat.le_trans (Nat.le_of_ble_eq_true rfl) hle) (st := []) (Nat.le_of_ble_eq_true rfl) rfl d_Mod_field_66 ?_
    refine g_aload_n X 0 rfl d_Mod_field_69 ?_
    refine g_get X ck_10 fo_181 (fn_181 hN) 70 (by decide) wd_1811 rfl (fa_fvI rfl) d_Mod_field_70 ?_
    cases hM
    exact g_iret X d_Mod_field_73
  · have hM := fa_ifb_t hM hc12
    refine g_iconst X d_Mod_field_42 ?_
    cases hM
    exact g_iret X d_Mod_field_43
def fm_Mod_field (a1 : Int) (a2 : Int) (w : fa_W) : Option (Int × fa_W) :=
  fa_let (fa_st w 181 0 0) fun w1 =>
  fa_l2 (fm_Mod_noFunction a1 w1) fun v3 w4 =>
  if v3 = true then
  some (0, w4)
  else
  ((fa_ix a1 24).bind fun j6 =>
  if fm_Mod_in a2 0 ((w4 214 j6) - 1) w4 = true then
  fm_Mod_field_j35 a1 a2 false w4
  else
  fm_Mod_field_j35 a1 a2 true w4)
set_option maxHeartbeats 4000000 in
set_option maxRecDepth 100000 in
theorem c_Mod_field {l : Launch} {D : va_G} {b : Nat} {aC : Nat → ClassId} {H0 : Heap} {N T : Nat} (hN : fa_NM ≤ N) (hT : fa_TM ≤ T) (a1 : Int) (a2 : Int)  (w : fa_W) (r : Int × fa_W) (hM : fm_Mod_field a1 a2 w = some r) : fa_MC l D b aC H0 N T y_Mod_field prog_12_method_92_code 3 ((Option.some Jvm.ClassFile.FieldType.int)) (902) [.ref (b + 181), .int (fa_I a1), .int (fa_I a2)] w (some (.int (fa_I r.1))) r.2 := by
  refine fa_enter (lv := [(0, .ref (b + 181)), (1, .int (fa_I a1)), (2, .int (fa_I a2))]) (by decide +kernel) (Nat.le_of_ble_eq_true rfl) rfl (fun hh hle hnm X => ?_)
  unfold fm_Mod_field at hM
  refine g_aload_n X 0 rfl d_Mod_field_0 ?_
  refine g_iconst X d_Mod_field_1 ?_
  refine g_put X ck_10 fo_181 (fn_181 hN) 0 (z := 0) (by decide) wd_1742 rfl (fa_fvI' rfl) rfl rfl rfl d_Mod_field_2 (fun w1 ew1 => ?_)
  have hM := fa_let_to hM ew1
  refine g_aload_n X 0 rfl d_Mod_field_5 ?_
  refine g_iload_n X 1 rfl d_Mod_field_6 ?_
  obtain ⟨⟨v3, w4⟩, e2⟩ : ∃ q, fm_Mod_noFunction a1 w1 = q := ⟨_, rfl⟩
  have hM := fa_l2_e hM e2
  refine g_callV_i X ck_10 fo_181 (fn_181 hN) rfl mi_Mod_noFunction (c_Mod_noFunction hN hT a1 w1 _ e2) wd_2089 rfl (Nat.le_trans (Nat.le_of_ble_eq_true rfl) hle) (st := []) (Nat.le_of_ble_eq_true rfl) rfl d_Mod_field_7 ?_
  refine g_ifb_ne X 42 d_Mod_field_10 (by decide) (fun hc5 => ?_) (fun hc5 => ?_)
  · have hM := fa_ifb_t hM hc5
    refine g_iconst X d_Mod_field_42 ?_
    cases hM
    exact g_iret X d_Mod_field_43
  · have hM := fa_ifb_f hM hc5
    refine g_aload_n X 0 rfl d_Mod_field_13 ?_
    refine g_iload_n X 2 rfl d_Mod_field_14 ?_
    refine g_iconst X d_Mod_field_15 ?_
    refine g_aload_n X 0 rfl d_Mod_field_16 ?_
    refine g_get X ck_10 fo_181 (fn_181 hN) 57 (by decide) wd_1798 rfl (fr_181_57 rfl hT) d_Mod_field_17 ?_
    refine g_iload_n X 1 rfl d_Mod_field_20 ?_
    obtain ⟨j6, ej6, hM⟩ := fa_ob hM
    refine g_iald X fs_214 (fn_214 hN) ej6 d_Mod_field_21 ?_
    refine g_iconst X d_Mod_field_22 ?_
    refine g_isub X d_Mod_field_23 ?_
    refine g_callS_i X mi_Mod_in (c_Mod_in hN hT a2 0 ((w4 214 j6) - 1) w4 _ rfl) wd_2093 rfl (Nat.le_trans (Nat.le_of_ble_eq_true rfl) hle) (st := [.ref (b + 181)]) (Nat.le_of_ble_eq_true rfl) rfl d_Mod_field_24 ?_
    refine g_ifb_ne X 34 d_Mod_field_27 (by decide) (fun hc8 => ?_) (fun hc8 => ?_)
    · have hM := fa_ifb_t hM hc8
      refine g_iconst X d_Mod_field_34 ?_
      exact g_lv [0, 1, 2] rfl (c_Mod_field_j35 X hle hN hT a1 a2    _ _ hM)
    · have hM := fa_ifb_f hM hc8
      refine g_iconst X d_Mod_field_30 ?_
      refine g_goto X 35 d_Mod_field_31 (by decide) ?_
      exact g_lv [0, 1, 2] rfl (c_Mod_field_j35 X hle hN hT a1 a2    _ _ hM)
theorem d_Mod_noSplit_0 : decode prog_12_method_93_code 0 = .ok (.aload_n 0, 1) := by decide +kernel
theorem d_Mod_noSplit_1 : decode prog_12_method_93_code 1 = .ok (.iload_n 1, 1) := by decide +kernel
theorem d_Mod_noSplit_2 : decode prog_12_method_93_code 2 = .ok (.iconst 0, 1) := by decide +kernel
theorem d_Mod_noSplit_3 : decode prog_12_method_93_code 3 = .ok (.iconst 2, 1) := by decide +kernel
theorem d_Mod_noSplit_4 : decode prog_12_method_93_code 4 = .ok (.invokestatic 530, 3) := by decide +kernel
theorem d_Mod_noSplit_7 : decode prog_12_method_93_code 7 = .ok (.ifCond .ne 7, 3) := by decide +kernel
theorem d_Mod_noSplit_10 : decode prog_12_method_93_code 10 = .ok (.iconst 1, 1) := by decide +kernel
theorem d_Mod_noSplit_11 : decode prog_12_method_93_code 11 = .ok (.goto 4, 3) := by decide +kernel
theorem d_Mod_noSplit_14 : decode prog_12_method_93_code 14 = .ok (.iconst 0, 1) := by decide +kernel
theorem d_Mod_noSplit_15 : decode prog_12_method_93_code 15 = .ok (.iload_n 2, 1) := by decide +kernel
theorem d_Mod_noSplit_16 : decode prog_12_method_93_code 16 = .ok (.invokevirtual 533, 3) := by decide +kernel
theorem d_Mod_noSplit_19 : decode prog_12_method_93_code 19 = .ok (.ireturn, 1) := by decide +kernel
def fm_Mod_noSplit_j15 (a1 : Int) (a2 : Int) (s0 : Bool) (w : fa_W) : Bool × fa_W :=
  fa_l2 (fm_Mod_throwsIf s0 a2 w) fun v4 w5 =>
  (v4, w5)
set_option maxHeartbeats 4000000 in
set_option maxRecDepth 100000 in
theorem c_Mod_noSplit_j15 {p : Program} {l : Launch} {e : Env} {s : State} {m : MethodId} {args : Array Value} {below : List Frame} {meth : Method} {c : Code} {hh : Nat} {D : va_G} {b : Nat} {aC : Nat → ClassId} {H0 : Heap} {N T : Nat} (X : fa_GX p s m args meth c prog_12_method_93_code 3 ((Option.some Jvm.ClassFile.FieldType.boolean)) y_Mod_noSplit.cls D b aC) (hle : 1 ≤ hh) (hN : fa_NM ≤ N) (hT : fa_TM ≤ T) (a1 : Int) (a2 : Int) {r : Bool × fa_W}  : ∀ (s0 : Bool) (w : fa_W) (_ : fm_Mod_noSplit_j15 a1 a2 s0 w = r), fa_GJ p l e (fa_rm hh) s m args below meth c 0 0 (MQ below (fa_Qc D b aC H0 N T (some (.int (fa_I (fa_bi r.1)))) r.2) args s 0 0 (fun q => b ≤ q)) D b aC H0 N T 3 w 15 [(2, .int (fa_I a2))] [.int (fa_I (fa_bi s0)), .ref (b + 181)] := by
  intro s0 w hM
  unfold fm_Mod_noSplit_j15 at hM
  refine g_iload_n X 0 rfl d_Mod_noSplit_15 ?_
  obtain ⟨⟨v4, w5⟩, e3⟩ : ∃ q, fm_Mod_throwsIf s0 a2 w = q := ⟨_, rfl⟩
  have hM := fa_l2_e hM e3
  refine g_callV_i X ck_10 fo_181 (fn_181 hN) rfl mi_Mod_throwsIf (c_Mod_throwsIf hN hT s0 a2 w _ e3) wd_2096 rfl (Nat.le_trans (Nat.le_of_ble_eq_true rfl) hle) (st := []) (Nat.le_of_ble_eq_true rfl) rfl d_Mod_noSplit_16 ?_
  subst hM
  exact g_zret X rfl d_Mod_noSplit_19
def fm_Mod_noSplit (a1 : Int) (a2 : Int) (w : fa_W) : Bool × fa_W :=
  if fm_Mod_in a1 0 2 w = true then
  fm_Mod_noSplit_j15 a1 a2 false w
  else
  fm_Mod_noSplit_j15 a1 a2 true w
set_option maxHeartbeats 4000000 in
set_option maxRecDepth 100000 in
theorem c_Mod_noSplit {l : Launch} {D : va_G} {b : Nat} {aC : Nat → ClassId} {H0 : Heap} {N T : Nat} (hN : fa_NM ≤ N) (hT : fa_TM ≤ T) (a1 : Int) (a2 : Int)  (w : fa_W) (r : Bool × fa_W) (hM : fm_Mod_noSplit a1 a2 w = r) : fa_MC l D b aC H0 N T y_Mod_noSplit prog_12_method_93_code 3 ((Option.some Jvm.ClassFile.FieldType.boolean)) (1) [.ref (b + 181), .int (fa_I a1), .int (fa_I a2)] w (some (.int (fa_I (fa_bi r.1)))) r.2 := by
  refine fa_enter (lv := [(0, .ref (b + 181)), (1, .int (fa_I a1)), (2, .int (fa_I a2))]) (by decide +kernel) (Nat.le_of_ble_eq_true rfl) rfl (fun hh hle hnm X => ?_)
  unfold fm_Mod_noSplit at hM
  refine g_aload_n X 0 rfl d_Mod_noSplit_0 ?_
  refine g_iload_n X 1 rfl d_Mod_noSplit_1 ?_
  refine g_iconst X d_Mod_noSplit_2 ?_
  refine g_iconst X d_Mod_noSplit_3 ?_
  refine g_callS_i X mi_Mod_in (c_Mod_in hN hT a1 0 2 w _ rfl) wd_2093 rfl (Nat.le_trans (Nat.le_of_ble_eq_true rfl) hle) (st := [.ref (b + 181)]) (Nat.le_of_ble_eq_true rfl) rfl d_Mod_noSplit_4 ?_
  refine g_ifb_ne X 14 d_Mod_noSplit_7 (by decide) (fun hc2 => ?_) (fun hc2 => ?_)
  · have hM := fa_ifb_t hM hc2
    refine g_iconst X d_Mod_noSplit_14 ?_
    exact g_lv [2] rfl (c_Mod_noSplit_j15 X hle hN hT a1 a2    _ _ hM)
  · have hM := fa_ifb_f hM hc2
    refine g_iconst X d_Mod_noSplit_10 ?_
    refine g_goto X 15 d_Mod_noSplit_11 (by decide) ?_
    exact g_lv [2] rfl (c_Mod_noSplit_j15 X hle hN hT a1 a2    _ _ hM)
theorem d_Mod_form_0 : decode prog_12_method_94_code 0 = .ok (.aload_n 0, 1) := by decide +kernel
theorem d_Mod_form_1 : decode prog_12_method_94_code 1 = .ok (.iconst 0, 1) := by decide +kernel
theorem d_Mod_form_2 : decode prog_12_method_94_code 2 = .ok (.putfield 1, 3) := by decide +kernel
theorem d_Mod_form_5 : decode prog_12_method_94_code 5 = .ok (.aload_n 0, 1) := by decide +kernel
theorem d_Mod_form_6 : decode prog_12_method_94_code 6 = .ok (.iload_n 1, 1) := by decide +kernel
theorem d_Mod_form_7 : decode prog_12_method_94_code 7 = .ok (.iconst 1, 1) := by decide +kernel
theorem d_Mod_form_8 : decode prog_12_method_94_code 8 = .ok (.invokevirtual 543, 3) := by decide +kernel
theorem d_Mod_form_11 : decode prog_12_method_94_code 11 = .ok (.ifCond .eq 5, 3) := by decide +kernel
theorem d_Mod_form_14 : decode prog_12_method_94_code 14 = .ok (.iconst 0, 1) := by decide +kernel
theorem d_Mod_form_15 : decode prog_12_method_94_code 15 = .ok (.ireturn, 1) := by decide +kernel
theorem d_Mod_form_16 : decode prog_12_method_94_code 16 = .ok (.aload_n 0, 1) := by decide +kernel
theorem d_Mod_form_17 : decode prog_12_method_94_code 17 = .ok (.iload_n 1, 1) := by decide +kernel
theorem d_Mod_form_18 : decode prog_12_method_94_code 18 = .ok (.invokevirtual 546, 3) := by decide +kernel
theorem d_Mod_form_21 : decode prog_12_method_94_code 21 = .ok (.aload_n 0, 1) := by decide +kernel
theorem d_Mod_form_22 : decode prog_12_method_94_code 22 = .ok (.getfield 482, 3) := by decide +kernel
theorem d_Mod_form_25 : decode prog_12_method_94_code 25 = .ok (.ireturn, 1) := by decide +kernel
def fm_Mod_form (a1 : Int) (w : fa_W) : Option (Int × fa_W) :=
  fa_let (fa_st w 181 0 0) fun w1 =>
  fa_l2 (fm_Mod_noSplit a1 1 w1) fun v3 w4 =>
  if v3 = true then
  some (0, w4)
  else
  ((fm_Mod_writesForm a1 w4).bind fun w7 =>
  some (w7 181 70, w7))
set_option maxHeartbeats 4000000 in
set_option maxRecDepth 100000 in
theorem c_Mod_form {l : Launch} {D : va_G} {b : Nat} {aC : Nat → ClassId} {H0 : Heap} {N T : Nat} (hN : fa_NM ≤ N) (hT : fa_TM ≤ T) (a1 : Int)  (w : fa_W) (r : Int × fa_W) (hM : fm_Mod_form a1 w = some r) : fa_MC l D b aC H0 N T y_Mod_form prog_12_method_94_code 2 ((Option.some Jvm.ClassFile.FieldType.int)) (1805) [.ref (b + 181), .int (fa_I a1)] w (some (.int (fa_I r.1))) r.2 := by
  refine fa_enter (lv := [(0, .ref (b + 181)), (1, .int (fa_I a1))]) (by decide +kernel) (Nat.le_of_ble_eq_true rfl) rfl (fun hh hle hnm X => ?_)
  unfold fm_Mod_form at hM
  refine g_aload_n X 0 rfl d_Mod_form_0 ?_
  refine g_iconst X d_Mod_form_1 ?_
  refine g_put X ck_10 fo_181 (fn_181 hN) 0 (z := 0) (by decide) wd_1742 rfl (fa_fvI' rfl) rfl rfl rfl d_Mod_form_2 (fun w1 ew1 => ?_)
  have hM := fa_let_to hM ew1
  refine g_aload_n X 0 rfl d_Mod_form_5 ?_
  refine g_iload_n X 1 rfl d_Mod_form_6 ?_
  refine g_iconst X d_Mod_form_7 ?_
  obtain ⟨⟨v3, w4⟩, e2⟩ : ∃ q, fm_Mod_noSplit a1 1 w1 = q := ⟨_, rfl⟩
  have hM := fa_l2_e hM e2
  refine g_callV_i X ck_10 fo_181 (fn_181 hN) rfl mi_Mod_noSplit (c_Mod_noSplit hN hT a1 1 w1 _ e2) wd_2124 rfl (Nat.le_trans (Nat.le_of_ble_eq_true rfl) hle) (st := []) (Nat.le_of_ble_eq_true rfl) rfl d_Mod_form_8 ?_
  refine g_ifb_eq X 16 d_Mod_form_11 (by decide) (fun hc5 => ?_) (fun hc5 => ?_)
  · have hM := fa_ifb_f hM hc5
    refine g_aload_n X 0 rfl d_Mod_form_16 ?_
    refine g_iload_n X 1 rfl d_Mod_form_17 ?_
    obtain ⟨w7, e6, hM⟩ := fa_ob hM
    refine g_callV_v X ck_10 fo_181 (fn_181 hN) rfl mi_Mod_writesForm (c_Mod_writesForm hN hT a1 w4 _ e6) wd_2128 rfl (Nat.le_trans (Nat.le_of_ble_eq_true rfl) hle) (st := []) (Nat.le_of_ble_eq_true rfl) rfl d_Mod_form_18 ?_
    refine g_aload_n X 0 rfl d_Mod_form_21 ?_
    refine g_get X ck_10 fo_181 (fn_181 hN) 70 (by decide) wd_1811 rfl (fa_fvI rfl) d_Mod_form_22 ?_
    cases hM
    exact g_iret X d_Mod_form_25
  · have hM := fa_ifb_t hM hc5
    refine g_iconst X d_Mod_form_14 ?_
    cases hM
    exact g_iret X d_Mod_form_15
