theorem d_Mod_laysRings_0 : decode prog_12_method_62_code 0 = .ok (.iconst 0, 1) := by decide +kernel
theorem d_Mod_laysRings_1 : decode prog_12_method_62_code 1 = .ok (.istore_n 1, 1) := by decide +kernel
theorem d_Mod_laysRings_2 : decode prog_12_method_62_code 2 = .ok (.iload_n 1, 1) := by decide +kernel
theorem d_Mod_laysRings_3 : decode prog_12_method_62_code 3 = .ok (.aload_n 0, 1) := by decide +kernel
theorem d_Mod_laysRings_4 : decode prog_12_method_62_code 4 = .ok (.invokevirtual 270, 3) := by decide +kernel
theorem d_Mod_laysRings_7 : decode prog_12_method_62_code 7 = .ok (.if_icmp .ge 96, 3) := by decide +kernel
theorem d_Mod_laysRings_10 : decode prog_12_method_62_code 10 = .ok (.aload_n 0, 1) := by decide +kernel
theorem d_Mod_laysRings_11 : decode prog_12_method_62_code 11 = .ok (.getfield 366, 3) := by decide +kernel
theorem d_Mod_laysRings_14 : decode prog_12_method_62_code 14 = .ok (.iload_n 1, 1) := by decide +kernel
theorem d_Mod_laysRings_15 : decode prog_12_method_62_code 15 = .ok (.iconst 0, 1) := by decide +kernel
theorem d_Mod_laysRings_16 : decode prog_12_method_62_code 16 = .ok (.iastore, 1) := by decide +kernel
theorem d_Mod_laysRings_17 : decode prog_12_method_62_code 17 = .ok (.iconst 0, 1) := by decide +kernel
theorem d_Mod_laysRings_18 : decode prog_12_method_62_code 18 = .ok (.istore_n 2, 1) := by decide +kernel
theorem d_Mod_laysRings_19 : decode prog_12_method_62_code 19 = .ok (.iload_n 2, 1) := by decide +kernel
theorem d_Mod_laysRings_20 : decode prog_12_method_62_code 20 = .ok (.aload_n 0, 1) := by decide +kernel
theorem d_Mod_laysRings_21 : decode prog_12_method_62_code 21 = .ok (.getfield 197, 3) := by decide +kernel
theorem d_Mod_laysRings_24 : decode prog_12_method_62_code 24 = .ok (.if_icmp .ge 54, 3) := by decide +kernel
theorem d_Mod_laysRings_27 : decode prog_12_method_62_code 27 = .ok (.aload_n 0, 1) := by decide +kernel
theorem d_Mod_laysRings_28 : decode prog_12_method_62_code 28 = .ok (.getfield 313, 3) := by decide +kernel
theorem d_Mod_laysRings_31 : decode prog_12_method_62_code 31 = .ok (.iload_n 2, 1) := by decide +kernel
theorem d_Mod_laysRings_32 : decode prog_12_method_62_code 32 = .ok (.baload, 1) := by decide +kernel
theorem d_Mod_laysRings_33 : decode prog_12_method_62_code 33 = .ok (.ifCond .eq 39, 3) := by decide +kernel
theorem d_Mod_laysRings_36 : decode prog_12_method_62_code 36 = .ok (.aload_n 0, 1) := by decide +kernel
theorem d_Mod_laysRings_37 : decode prog_12_method_62_code 37 = .ok (.getfield 200, 3) := by decide +kernel
theorem d_Mod_laysRings_40 : decode prog_12_method_62_code 40 = .ok (.iload_n 2, 1) := by decide +kernel
theorem d_Mod_laysRings_41 : decode prog_12_method_62_code 41 = .ok (.iaload, 1) := by decide +kernel
theorem d_Mod_laysRings_42 : decode prog_12_method_62_code 42 = .ok (.iload_n 1, 1) := by decide +kernel
theorem d_Mod_laysRings_43 : decode prog_12_method_62_code 43 = .ok (.if_icmp .ne 29, 3) := by decide +kernel
theorem d_Mod_laysRings_46 : decode prog_12_method_62_code 46 = .ok (.aload_n 0, 1) := by decide +kernel
theorem d_Mod_laysRings_47 : decode prog_12_method_62_code 47 = .ok (.getfield 323, 3) := by decide +kernel
theorem d_Mod_laysRings_50 : decode prog_12_method_62_code 50 = .ok (.iload_n 1, 1) := by decide +kernel
theorem d_Mod_laysRings_51 : decode prog_12_method_62_code 51 = .ok (.invokestatic 326, 3) := by decide +kernel
theorem d_Mod_laysRings_54 : decode prog_12_method_62_code 54 = .ok (.ifCond .eq 18, 3) := by decide +kernel
theorem d_Mod_laysRings_57 : decode prog_12_method_62_code 57 = .ok (.aload_n 0, 1) := by decide +kernel
theorem d_Mod_laysRings_58 : decode prog_12_method_62_code 58 = .ok (.getfield 366, 3) := by decide +kernel
theorem d_Mod_laysRings_61 : decode prog_12_method_62_code 61 = .ok (.iload_n 1, 1) := by decide +kernel
theorem d_Mod_laysRings_62 : decode prog_12_method_62_code 62 = .ok (.dup2, 1) := by decide +kernel
theorem d_Mod_laysRings_63 : decode prog_12_method_62_code 63 = .ok (.iaload, 1) := by decide +kernel
theorem d_Mod_laysRings_64 : decode prog_12_method_62_code 64 = .ok (.aload_n 0, 1) := by decide +kernel
theorem d_Mod_laysRings_65 : decode prog_12_method_62_code 65 = .ok (.getfield 317, 3) := by decide +kernel
theorem d_Mod_laysRings_68 : decode prog_12_method_62_code 68 = .ok (.iload_n 2, 1) := by decide +kernel
theorem d_Mod_laysRings_69 : decode prog_12_method_62_code 69 = .ok (.iaload, 1) := by decide +kernel
theorem d_Mod_laysRings_70 : decode prog_12_method_62_code 70 = .ok (.ior, 1) := by decide +kernel
theorem d_Mod_laysRings_71 : decode prog_12_method_62_code 71 = .ok (.iastore, 1) := by decide +kernel
theorem d_Mod_laysRings_72 : decode prog_12_method_62_code 72 = .ok (.iinc 2 1, 3) := by decide +kernel
theorem d_Mod_laysRings_75 : decode prog_12_method_62_code 75 = .ok (.goto (-56), 3) := by decide +kernel
theorem d_Mod_laysRings_78 : decode prog_12_method_62_code 78 = .ok (.aload_n 0, 1) := by decide +kernel
theorem d_Mod_laysRings_79 : decode prog_12_method_62_code 79 = .ok (.getfield 369, 3) := by decide +kernel
theorem d_Mod_laysRings_82 : decode prog_12_method_62_code 82 = .ok (.iload_n 1, 1) := by decide +kernel
theorem d_Mod_laysRings_83 : decode prog_12_method_62_code 83 = .ok (.aload_n 0, 1) := by decide +kernel
theorem d_Mod_laysRings_84 : decode prog_12_method_62_code 84 = .ok (.getfield 366, 3) := by decide +kernel
theorem d_Mod_laysRings_87 : decode prog_12_method_62_code 87 = .ok (.iload_n 1, 1) := by decide +kernel
theorem d_Mod_laysRings_88 : decode prog_12_method_62_code 88 = .ok (.iaload, 1) := by decide +kernel
theorem d_Mod_laysRings_89 : decode prog_12_method_62_code 89 = .ok (.iastore, 1) := by decide +kernel
theorem d_Mod_laysRings_90 : decode prog_12_method_62_code 90 = .ok (.aload_n 0, 1) := by decide +kernel
theorem d_Mod_laysRings_91 : decode prog_12_method_62_code 91 = .ok (.getfield 372, 3) := by decide +kernel
theorem d_Mod_laysRings_94 : decode prog_12_method_62_code 94 = .ok (.iload_n 1, 1) := by decide +kernel
theorem d_Mod_laysRings_95 : decode prog_12_method_62_code 95 = .ok (.iconst (-1), 1) := by decide +kernel
theorem d_Mod_laysRings_96 : decode prog_12_method_62_code 96 = .ok (.iastore, 1) := by decide +kernel
theorem d_Mod_laysRings_97 : decode prog_12_method_62_code 97 = .ok (.iinc 1 1, 3) := by decide +kernel
theorem d_Mod_laysRings_100 : decode prog_12_method_62_code 100 = .ok (.goto (-98), 3) := by decide +kernel
theorem d_Mod_laysRings_103 : decode prog_12_method_62_code 103 = .ok (.iconst 0, 1) := by decide +kernel
theorem d_Mod_laysRings_104 : decode prog_12_method_62_code 104 = .ok (.istore_n 1, 1) := by decide +kernel
theorem d_Mod_laysRings_105 : decode prog_12_method_62_code 105 = .ok (.iload_n 1, 1) := by decide +kernel
theorem d_Mod_laysRings_106 : decode prog_12_method_62_code 106 = .ok (.aload_n 0, 1) := by decide +kernel
theorem d_Mod_laysRings_107 : decode prog_12_method_62_code 107 = .ok (.invokevirtual 270, 3) := by decide +kernel
theorem d_Mod_laysRings_110 : decode prog_12_method_62_code 110 = .ok (.if_icmp .ge 53, 3) := by decide +kernel
theorem d_Mod_laysRings_113 : decode prog_12_method_62_code 113 = .ok (.iconst 0, 1) := by decide +kernel
theorem d_Mod_laysRings_114 : decode prog_12_method_62_code 114 = .ok (.istore_n 2, 1) := by decide +kernel
theorem d_Mod_laysRings_115 : decode prog_12_method_62_code 115 = .ok (.iload_n 2, 1) := by decide +kernel
theorem d_Mod_laysRings_116 : decode prog_12_method_62_code 116 = .ok (.aload_n 0, 1) := by decide +kernel
theorem d_Mod_laysRings_117 : decode prog_12_method_62_code 117 = .ok (.invokevirtual 270, 3) := by decide +kernel
theorem d_Mod_laysRings_120 : decode prog_12_method_62_code 120 = .ok (.if_icmp .ge 37, 3) := by decide +kernel
theorem d_Mod_laysRings_123 : decode prog_12_method_62_code 123 = .ok (.aload_n 0, 1) := by decide +kernel
theorem d_Mod_laysRings_124 : decode prog_12_method_62_code 124 = .ok (.getfield 369, 3) := by decide +kernel
theorem d_Mod_laysRings_127 : decode prog_12_method_62_code 127 = .ok (.iload_n 2, 1) := by decide +kernel
theorem d_Mod_laysRings_128 : decode prog_12_method_62_code 128 = .ok (.iaload, 1) := by decide +kernel
theorem d_Mod_laysRings_129 : decode prog_12_method_62_code 129 = .ok (.iload_n 1, 1) := by decide +kernel
theorem d_Mod_laysRings_130 : decode prog_12_method_62_code 130 = .ok (.invokestatic 326, 3) := by decide +kernel
theorem d_Mod_laysRings_133 : decode prog_12_method_62_code 133 = .ok (.ifCond .eq 18, 3) := by decide +kernel
theorem d_Mod_laysRings_136 : decode prog_12_method_62_code 136 = .ok (.aload_n 0, 1) := by decide +kernel
theorem d_Mod_laysRings_137 : decode prog_12_method_62_code 137 = .ok (.getfield 369, 3) := by decide +kernel
theorem d_Mod_laysRings_140 : decode prog_12_method_62_code 140 = .ok (.iload_n 2, 1) := by decide +kernel
theorem d_Mod_laysRings_141 : decode prog_12_method_62_code 141 = .ok (.dup2, 1) := by decide +kernel
theorem d_Mod_laysRings_142 : decode prog_12_method_62_code 142 = .ok (.iaload, 1) := by decide +kernel
theorem d_Mod_laysRings_143 : decode prog_12_method_62_code 143 = .ok (.aload_n 0, 1) := by decide +kernel
theorem d_Mod_laysRings_144 : decode prog_12_method_62_code 144 = .ok (.getfield 369, 3) := by decide +kernel
theorem d_Mod_laysRings_147 : decode prog_12_method_62_code 147 = .ok (.iload_n 1, 1) := by decide +kernel
theorem d_Mod_laysRings_148 : decode prog_12_method_62_code 148 = .ok (.iaload, 1) := by decide +kernel
theorem d_Mod_laysRings_149 : decode prog_12_method_62_code 149 = .ok (.ior, 1) := by decide +kernel
theorem d_Mod_laysRings_150 : decode prog_12_method_62_code 150 = .ok (.iastore, 1) := by decide +kernel
theorem d_Mod_laysRings_151 : decode prog_12_method_62_code 151 = .ok (.iinc 2 1, 3) := by decide +kernel
theorem d_Mod_laysRings_154 : decode prog_12_method_62_code 154 = .ok (.goto (-39), 3) := by decide +kernel
theorem d_Mod_laysRings_157 : decode prog_12_method_62_code 157 = .ok (.iinc 1 1, 3) := by decide +kernel
theorem d_Mod_laysRings_160 : decode prog_12_method_62_code 160 = .ok (.goto (-55), 3) := by decide +kernel
theorem d_Mod_laysRings_163 : decode prog_12_method_62_code 163 = .ok (.aload_n 0, 1) := by decide +kernel
theorem d_Mod_laysRings_164 : decode prog_12_method_62_code 164 = .ok (.iconst 0, 1) := by decide +kernel
theorem d_Mod_laysRings_165 : decode prog_12_method_62_code 165 = .ok (.putfield 375, 3) := by decide +kernel
theorem d_Mod_laysRings_168 : decode prog_12_method_62_code 168 = .ok (.iconst 0, 1) := by decide +kernel
theorem d_Mod_laysRings_169 : decode prog_12_method_62_code 169 = .ok (.istore_n 1, 1) := by decide +kernel
theorem d_Mod_laysRings_170 : decode prog_12_method_62_code 170 = .ok (.iload_n 1, 1) := by decide +kernel
theorem d_Mod_laysRings_171 : decode prog_12_method_62_code 171 = .ok (.aload_n 0, 1) := by decide +kernel
theorem d_Mod_laysRings_172 : decode prog_12_method_62_code 172 = .ok (.invokevirtual 270, 3) := by decide +kernel
theorem d_Mod_laysRings_175 : decode prog_12_method_62_code 175 = .ok (.if_icmp .ge 125, 3) := by decide +kernel
theorem d_Mod_laysRings_178 : decode prog_12_method_62_code 178 = .ok (.aload_n 0, 1) := by decide +kernel
theorem d_Mod_laysRings_179 : decode prog_12_method_62_code 179 = .ok (.getfield 369, 3) := by decide +kernel
theorem d_Mod_laysRings_182 : decode prog_12_method_62_code 182 = .ok (.iload_n 1, 1) := by decide +kernel
theorem d_Mod_laysRings_183 : decode prog_12_method_62_code 183 = .ok (.iaload, 1) := by decide +kernel
theorem d_Mod_laysRings_184 : decode prog_12_method_62_code 184 = .ok (.iload_n 1, 1) := by decide +kernel
theorem d_Mod_laysRings_185 : decode prog_12_method_62_code 185 = .ok (.invokestatic 326, 3) := by decide +kernel
theorem d_Mod_laysRings_188 : decode prog_12_method_62_code 188 = .ok (.ifCond .eq 106, 3) := by decide +kernel
theorem d_Mod_laysRings_191 : decode prog_12_method_62_code 191 = .ok (.aload_n 0, 1) := by decide +kernel
theorem d_Mod_laysRings_192 : decode prog_12_method_62_code 192 = .ok (.getfield 372, 3) := by decide +kernel
theorem d_Mod_laysRings_195 : decode prog_12_method_62_code 195 = .ok (.iload_n 1, 1) := by decide +kernel
theorem d_Mod_laysRings_196 : decode prog_12_method_62_code 196 = .ok (.iaload, 1) := by decide +kernel
theorem d_Mod_laysRings_197 : decode prog_12_method_62_code 197 = .ok (.iconst (-1), 1) := by decide +kernel
theorem d_Mod_laysRings_198 : decode prog_12_method_62_code 198 = .ok (.if_icmp .eq 6, 3) := by decide +kernel
theorem d_Mod_laysRings_201 : decode prog_12_method_62_code 201 = .ok (.goto 93, 3) := by decide +kernel
theorem d_Mod_laysRings_204 : decode prog_12_method_62_code 204 = .ok (.aload_n 0, 1) := by decide +kernel
theorem d_Mod_laysRings_205 : decode prog_12_method_62_code 205 = .ok (.getfield 378, 3) := by decide +kernel
theorem d_Mod_laysRings_208 : decode prog_12_method_62_code 208 = .ok (.aload_n 0, 1) := by decide +kernel
theorem d_Mod_laysRings_209 : decode prog_12_method_62_code 209 = .ok (.getfield 375, 3) := by decide +kernel
theorem d_Mod_laysRings_212 : decode prog_12_method_62_code 212 = .ok (.iconst 0, 1) := by decide +kernel
theorem d_Mod_laysRings_213 : decode prog_12_method_62_code 213 = .ok (.iastore, 1) := by decide +kernel
theorem d_Mod_laysRings_214 : decode prog_12_method_62_code 214 = .ok (.iload_n 1, 1) := by decide +kernel
theorem d_Mod_laysRings_215 : decode prog_12_method_62_code 215 = .ok (.istore_n 2, 1) := by decide +kernel
theorem d_Mod_laysRings_216 : decode prog_12_method_62_code 216 = .ok (.iload_n 2, 1) := by decide +kernel
theorem d_Mod_laysRings_217 : decode prog_12_method_62_code 217 = .ok (.aload_n 0, 1) := by decide +kernel
theorem d_Mod_laysRings_218 : decode prog_12_method_62_code 218 = .ok (.invokevirtual 270, 3) := by decide +kernel
theorem d_Mod_laysRings_221 : decode prog_12_method_62_code 221 = .ok (.if_icmp .ge 63, 3) := by decide +kernel
theorem d_Mod_laysRings_224 : decode prog_12_method_62_code 224 = .ok (.aload_n 0, 1) := by decide +kernel
theorem d_Mod_laysRings_225 : decode prog_12_method_62_code 225 = .ok (.getfield 369, 3) := by decide +kernel
theorem d_Mod_laysRings_228 : decode prog_12_method_62_code 228 = .ok (.iload_n 1, 1) := by decide +kernel
theorem d_Mod_laysRings_229 : decode prog_12_method_62_code 229 = .ok (.iaload, 1) := by decide +kernel
theorem d_Mod_laysRings_230 : decode prog_12_method_62_code 230 = .ok (.iload_n 2, 1) := by decide +kernel
theorem d_Mod_laysRings_231 : decode prog_12_method_62_code 231 = .ok (.invokestatic 326, 3) := by decide +kernel
theorem d_Mod_laysRings_234 : decode prog_12_method_62_code 234 = .ok (.ifCond .eq 44, 3) := by decide +kernel
theorem d_Mod_laysRings_237 : decode prog_12_method_62_code 237 = .ok (.aload_n 0, 1) := by decide +kernel
theorem d_Mod_laysRings_238 : decode prog_12_method_62_code 238 = .ok (.getfield 369, 3) := by decide +kernel
theorem d_Mod_laysRings_241 : decode prog_12_method_62_code 241 = .ok (.iload_n 2, 1) := by decide +kernel
theorem d_Mod_laysRings_242 : decode prog_12_method_62_code 242 = .ok (.iaload, 1) := by decide +kernel
theorem d_Mod_laysRings_243 : decode prog_12_method_62_code 243 = .ok (.iload_n 1, 1) := by decide +kernel
theorem d_Mod_laysRings_244 : decode prog_12_method_62_code 244 = .ok (.invokestatic 326, 3) := by decide +kernel
theorem d_Mod_laysRings_247 : decode prog_12_method_62_code 247 = .ok (.ifCond .ne 6, 3) := by decide +kernel
theorem d_Mod_laysRings_250 : decode prog_12_method_62_code 250 = .ok (.goto 28, 3) := by decide +kernel
theorem d_Mod_laysRings_253 : decode prog_12_method_62_code 253 = .ok (.aload_n 0, 1) := by decide +kernel
theorem d_Mod_laysRings_254 : decode prog_12_method_62_code 254 = .ok (.getfield 372, 3) := by decide +kernel
theorem d_Mod_laysRings_257 : decode prog_12_method_62_code 257 = .ok (.iload_n 2, 1) := by decide +kernel
theorem d_Mod_laysRings_258 : decode prog_12_method_62_code 258 = .ok (.aload_n 0, 1) := by decide +kernel
theorem d_Mod_laysRings_259 : decode prog_12_method_62_code 259 = .ok (.getfield 375, 3) := by decide +kernel
theorem d_Mod_laysRings_262 : decode prog_12_method_62_code 262 = .ok (.iastore, 1) := by decide +kernel
theorem d_Mod_laysRings_263 : decode prog_12_method_62_code 263 = .ok (.aload_n 0, 1) := by decide +kernel
theorem d_Mod_laysRings_264 : decode prog_12_method_62_code 264 = .ok (.getfield 378, 3) := by decide +kernel
theorem d_Mod_laysRings_267 : decode prog_12_method_62_code 267 = .ok (.aload_n 0, 1) := by decide +kernel
theorem d_Mod_laysRings_268 : decode prog_12_method_62_code 268 = .ok (.getfield 375, 3) := by decide +kernel
theorem d_Mod_laysRings_271 : decode prog_12_method_62_code 271 = .ok (.dup2, 1) := by decide +kernel
theorem d_Mod_laysRings_272 : decode prog_12_method_62_code 272 = .ok (.iaload, 1) := by decide +kernel
theorem d_Mod_laysRings_273 : decode prog_12_method_62_code 273 = .ok (.iconst 1, 1) := by decide +kernel
theorem d_Mod_laysRings_274 : decode prog_12_method_62_code 274 = .ok (.iload_n 2, 1) := by decide +kernel
theorem d_Mod_laysRings_275 : decode prog_12_method_62_code 275 = .ok (.ishl, 1) := by decide +kernel
theorem d_Mod_laysRings_276 : decode prog_12_method_62_code 276 = .ok (.ior, 1) := by decide +kernel
theorem d_Mod_laysRings_277 : decode prog_12_method_62_code 277 = .ok (.iastore, 1) := by decide +kernel
theorem d_Mod_laysRings_278 : decode prog_12_method_62_code 278 = .ok (.iinc 2 1, 3) := by decide +kernel
theorem d_Mod_laysRings_281 : decode prog_12_method_62_code 281 = .ok (.goto (-65), 3) := by decide +kernel
theorem d_Mod_laysRings_284 : decode prog_12_method_62_code 284 = .ok (.aload_n 0, 1) := by decide +kernel
theorem d_Mod_laysRings_285 : decode prog_12_method_62_code 285 = .ok (.dup, 1) := by decide +kernel
theorem d_Mod_laysRings_286 : decode prog_12_method_62_code 286 = .ok (.getfield 375, 3) := by decide +kernel
theorem d_Mod_laysRings_289 : decode prog_12_method_62_code 289 = .ok (.iconst 1, 1) := by decide +kernel
theorem d_Mod_laysRings_290 : decode prog_12_method_62_code 290 = .ok (.iadd, 1) := by decide +kernel
theorem d_Mod_laysRings_291 : decode prog_12_method_62_code 291 = .ok (.putfield 375, 3) := by decide +kernel
theorem d_Mod_laysRings_294 : decode prog_12_method_62_code 294 = .ok (.iinc 1 1, 3) := by decide +kernel
theorem d_Mod_laysRings_297 : decode prog_12_method_62_code 297 = .ok (.goto (-127), 3) := by decide +kernel
theorem d_Mod_laysRings_300 : decode prog_12_method_62_code 300 = .ok (.return_, 1) := by decide +kernel
def fm_Mod_laysRings_l216 (k170 : Int → fa_W → Option fa_W) : Nat → Int → Int → fa_W → Option fa_W
  | 0, _, _, _ => none
  | n + 1, x1, x2, w => if fa_wr (fm_Mod_functions w) ≤ fa_wr x2 then
  (fa_let (fa_st w 181 64 ((w 181 64) + 1)) fun w18 =>
  fa_let (x1 + 1) fun x1_19 =>
  k170 x1_19 w18)
  else
  ((fa_ix x1 24).bind fun j20 =>
  if fm_Mod_holds (w 218 j20) x2 w = true then
  ((fa_ix x2 24).bind fun j24 =>
  if fm_Mod_holds (w 218 j24) x1 w = true then
  ((fa_ix x2 24).bind fun j27 =>
  fa_let (fa_st w 219 j27 (w 181 64)) fun w28 =>
  (fa_ix (w28 181 64) 24).bind fun j29 =>
  (fa_ix (w28 181 64) 24).bind fun j30 =>
  fa_let (fa_st w28 220 j30 (fa_ior (w28 220 j29) (fa_ishl 1 x2))) fun w31 =>
  fa_let (x2 + 1) fun x2_32 =>
  fm_Mod_laysRings_l216 k170 n x1 x2_32 w31)
  else
  (fa_let (x2 + 1) fun x2_33 =>
  fm_Mod_laysRings_l216 k170 n x1 x2_33 w))
  else
  (fa_let (x2 + 1) fun x2_23 =>
  fm_Mod_laysRings_l216 k170 n x1 x2_23 w))
set_option maxHeartbeats 4000000 in
set_option maxRecDepth 100000 in
theorem c_Mod_laysRings_l216 {p : Program} {l : Launch} {e : Env} {s : State} {m : MethodId} {args : Array Value} {below : List Frame} {meth : Method} {c : Code} {hh : Nat} {D : va_G} {b : Nat} {aC : Nat → ClassId} {H0 : Heap} {N T : Nat} (X : fa_GX p s m args meth c prog_12_method_62_code 3 ((Option.none : Option Jvm.ClassFile.FieldType)) y_Mod_laysRings.cls D b aC) (hle : 1 ≤ hh) (hN : fa_NM ≤ N) (hT : fa_TM ≤ T) {r : fa_W} (k170 : Int → fa_W → Option fa_W) (K170 : ∀ (x1 : Int) (w : fa_W), k170 x1 w = some r → fa_GJ p l e (fa_rm hh) s m args below meth c 0 0 (MQ below (fa_Qc D b aC H0 N T (none) r) args s 0 0 (fun q => b ≤ q)) D b aC H0 N T 3 w 170 [(0, .ref (b + 181)), (1, .int (fa_I x1))] []) : ∀ (n : Nat) (x1 : Int) (x2 : Int) (w : fa_W), fm_Mod_laysRings_l216 k170 n x1 x2 w = some r → fa_GJ p l e (fa_rm hh) s m args below meth c 0 0 (MQ below (fa_Qc D b aC H0 N T (none) r) args s 0 0 (fun q => b ≤ q)) D b aC H0 N T 3 w 216 [(0, .ref (b + 181)), (1, .int (fa_I x1)), (2, .int (fa_I x2))] [] := by
  intro n
  induction n with
  | zero => intro x1 x2 w hM; exact fa_no hM
  | succ n ih =>
    intro x1 x2 w hM
    rw [fm_Mod_laysRings_l216] at hM
    refine g_iload_n X 2 rfl d_Mod_laysRings_216 ?_
    refine g_aload_n X 0 rfl d_Mod_laysRings_217 ?_
    refine g_callV_i X ck_10 fo_181 (fn_181 hN) rfl mi_Mod_functions (c_Mod_functions hN hT w _ rfl) wd_1644 rfl (Nat.le_trans (Nat.le_of_ble_eq_true rfl) hle) (st := [.int (fa_I x2)]) (Nat.le_of_ble_eq_true rfl) rfl d_Mod_laysRings_218 ?_
    refine g_icmp_ge X 284 d_Mod_laysRings_221 (by decide) (fun hc17 => ?_) (fun hc17 => ?_)
    · have hM := fa_if_t hM hc17
      refine g_aload_n X 0 rfl d_Mod_laysRings_284 ?_
      refine g_dup X rfl d_Mod_laysRings_285 ?_
      refine g_get X ck_10 fo_181 (fn_181 hN) 64 (by decide) wd_1805 rfl (fa_fvI rfl) d_Mod_laysRings_286 ?_
      refine g_iconst X d_Mod_laysRings_289 ?_
      refine g_iadd X d_Mod_laysRings_290 ?_
      refine g_put X ck_10 fo_181 (fn_181 hN) 64 (z := ((w 181 64) + 1)) (by decide) wd_1805 rfl (fa_fvI' rfl) rfl rfl rfl d_Mod_laysRings_291 (fun w18 ew18 => ?_)
      have hM := fa_let_to hM ew18
      refine g_iinc X 1 (fun x1_19 => [(1, .int (fa_I x1_19)), (0, .ref (b + 181)), (2, .int (fa_I x2))]) d_Mod_laysRings_294 rfl (by decide) (fun _ => rfl) (fun x1_19 ex1_19 => ?_)
      have hM := fa_let_to hM ex1_19
      refine g_goto X 170 d_Mod_laysRings_297 (by decide) ?_
      exact g_lv [1, 0] rfl (K170 _ _ hM)
    · have hM := fa_if_f hM hc17
      refine g_aload_n X 0 rfl d_Mod_laysRings_224 ?_
      refine g_get X ck_10 fo_181 (fn_181 hN) 61 (by decide) wd_1802 rfl (fr_181_61 rfl hT) d_Mod_laysRings_225 ?_
      refine g_iload_n X 1 rfl d_Mod_laysRings_228 ?_
      obtain ⟨j20, ej20, hM⟩ := fa_ob hM
      refine g_iald X fs_218 (fn_218 hN) ej20 d_Mod_laysRings_229 ?_
      refine g_iload_n X 2 rfl d_Mod_laysRings_230 ?_
      refine g_callS_i X mi_Mod_holds (c_Mod_holds hN hT (w 218 j20) x2 w _ rfl) wd_1691 rfl (Nat.le_trans (Nat.le_of_ble_eq_true rfl) hle) (st := []) (Nat.le_of_ble_eq_true rfl) rfl d_Mod_laysRings_231 ?_
      refine g_ifb_eq X 278 d_Mod_laysRings_234 (by decide) (fun hc22 => ?_) (fun hc22 => ?_)
      · have hM := fa_ifb_f hM hc22
        refine g_iinc X 2 (fun x2_23 => [(2, .int (fa_I x2_23)), (0, .ref (b + 181)), (1, .int (fa_I x1))]) d_Mod_laysRings_278 rfl (by decide) (fun _ => rfl) (fun x2_23 ex2_23 => ?_)
        have hM := fa_let_to hM ex2_23
        refine g_goto X 216 d_Mod_laysRings_281 (by decide) ?_
        exact g_lv [1, 2, 0] rfl (ih _ _ _ hM)
      · have hM := fa_ifb_t hM hc22
        refine g_aload_n X 0 rfl d_Mod_laysRings_237 ?_
        refine g_get X ck_10 fo_181 (fn_181 hN) 61 (by decide) wd_1802 rfl (fr_181_61 rfl hT) d_Mod_laysRings_238 ?_
        refine g_iload_n X 2 rfl d_Mod_laysRings_241 ?_
        obtain ⟨j24, ej24, hM⟩ := fa_ob hM
        refine g_iald X fs_218 (fn_218 hN) ej24 d_Mod_laysRings_242 ?_
        refine g_iload_n X 1 rfl d_Mod_laysRings_243 ?_
        refine g_callS_i X mi_Mod_holds (c_Mod_holds hN hT (w 218 j24) x1 w _ rfl) wd_1691 rfl (Nat.le_trans (Nat.le_of_ble_eq_true rfl) hle) (st := []) (Nat.le_of_ble_eq_true rfl) rfl d_Mod_laysRings_244 ?_
        refine g_ifb_ne X 253 d_Mod_laysRings_247 (by decide) (fun hc26 => ?_) (fun hc26 => ?_)
        · have hM := fa_ifb_t hM hc26
          refine g_aload_n X 0 rfl d_Mod_laysRings_253 ?_
          refine g_get X ck_10 fo_181 (fn_181 hN) 62 (by decide) wd_1803 rfl (fr_181_62 rfl hT) d_Mod_laysRings_254 ?_
          refine g_iload_n X 2 rfl d_Mod_laysRings_257 ?_
          refine g_aload_n X 0 rfl d_Mod_laysRings_258 ?_
          refine g_get X ck_10 fo_181 (fn_181 hN) 64 (by decide) wd_1805 rfl (fa_fvI rfl) d_Mod_laysRings_259 ?_
          obtain ⟨j27, ej27, hM⟩ := fa_ob hM
          refine g_iast X fs_219 (fn_219 hN) ej27 d_Mod_laysRings_262 (fun w28 ew28 => ?_)
          have hM := fa_let_to hM ew28
          refine g_aload_n X 0 rfl d_Mod_laysRings_263 ?_
          refine g_get X ck_10 fo_181 (fn_181 hN) 63 (by decide) wd_1804 rfl (fr_181_63 rfl hT) d_Mod_laysRings_264 ?_
          refine g_aload_n X 0 rfl d_Mod_laysRings_267 ?_
          refine g_get X ck_10 fo_181 (fn_181 hN) 64 (by decide) wd_1805 rfl (fa_fvI rfl) d_Mod_laysRings_268 ?_
          refine g_dup2 X rfl rfl d_Mod_laysRings_271 ?_
          obtain ⟨j29, ej29, hM⟩ := fa_ob hM
          refine g_iald X fs_220 (fn_220 hN) ej29 d_Mod_laysRings_272 ?_
          refine g_iconst X d_Mod_laysRings_273 ?_
          refine g_iload_n X 2 rfl d_Mod_laysRings_274 ?_
          refine g_ishl X d_Mod_laysRings_275 ?_
          refine g_ior X d_Mod_laysRings_276 ?_
          obtain ⟨j30, ej30, hM⟩ := fa_ob hM
          refine g_iast X fs_220 (fn_220 hN) ej30 d_Mod_laysRings_277 (fun w31 ew31 => ?_)
          have hM := fa_let_to hM ew31
          refine g_iinc X 2 (fun x2_32 => [(2, .int (fa_I x2_32)), (0, .ref (b + 181)), (1, .int (fa_I x1))]) d_Mod_laysRings_278 rfl (by decide) (fun _ => rfl) (fun x2_32 ex2_32 => ?_)
          have hM := fa_let_to hM ex2_32
          refine g_goto X 216 d_Mod_laysRings_281 (by decide) ?_
          exact g_lv [1, 2, 0] rfl (ih _ _ _ hM)
        · have hM := fa_ifb_f hM hc26
          refine g_goto X 278 d_Mod_laysRings_250 (by decide) ?_
          refine g_iinc X 2 (fun x2_33 => [(2, .int (fa_I x2_33)), (0, .ref (b + 181)), (1, .int (fa_I x1))]) d_Mod_laysRings_278 rfl (by decide) (fun _ => rfl) (fun x2_33 ex2_33 => ?_)
          have hM := fa_let_to hM ex2_33
          refine g_goto X 216 d_Mod_laysRings_281 (by decide) ?_
          exact g_lv [1, 2, 0] rfl (ih _ _ _ hM)
def fm_Mod_laysRings_l170  : Nat → Int → fa_W → Option fa_W
  | 0, _, _ => none
  | n + 1, x1, w => if fa_wr (fm_Mod_functions w) ≤ fa_wr x1 then
  some w
  else
  ((fa_ix x1 24).bind fun j8 =>
  if fm_Mod_holds (w 218 j8) x1 w = true then
  ((fa_ix x1 24).bind fun j12 =>
  if fa_wr (w 219 j12) = (-1) then
  ((fa_ix (w 181 64) 24).bind fun j14 =>
  fa_let (fa_st w 220 j14 0) fun w15 =>
  fm_Mod_laysRings_l216 (fun x1 w9 => fm_Mod_laysRings_l170 n x1 w9) fa_FU x1 x1 w15)
  else
  (fa_let (x1 + 1) fun x1_34 =>
  fm_Mod_laysRings_l170 n x1_34 w))
  else
  (fa_let (x1 + 1) fun x1_11 =>
  fm_Mod_laysRings_l170 n x1_11 w))
set_option maxHeartbeats 4000000 in
set_option maxRecDepth 100000 in
theorem c_Mod_laysRings_l170 {p : Program} {l : Launch} {e : Env} {s : State} {m : MethodId} {args : Array Value} {below : List Frame} {meth : Method} {c : Code} {hh : Nat} {D : va_G} {b : Nat} {aC : Nat → ClassId} {H0 : Heap} {N T : Nat} (X : fa_GX p s m args meth c prog_12_method_62_code 3 ((Option.none : Option Jvm.ClassFile.FieldType)) y_Mod_laysRings.cls D b aC) (hle : 1 ≤ hh) (hN : fa_NM ≤ N) (hT : fa_TM ≤ T) {r : fa_W}  : ∀ (n : Nat) (x1 : Int) (w : fa_W), fm_Mod_laysRings_l170 n x1 w = some r → fa_GJ p l e (fa_rm hh) s m args below meth c 0 0 (MQ below (fa_Qc D b aC H0 N T (none) r) args s 0 0 (fun q => b ≤ q)) D b aC H0 N T 3 w 170 [(0, .ref (b + 181)), (1, .int (fa_I x1))] [] := by
  intro n
  induction n with
  | zero => intro x1 w hM; exact fa_no hM
  | succ n ih =>
    intro x1 w hM
    rw [fm_Mod_laysRings_l170] at hM
    refine g_iload_n X 1 rfl d_Mod_laysRings_170 ?_
    refine g_aload_n X 0 rfl d_Mod_laysRings_171 ?_
    refine g_callV_i X ck_10 fo_181 (fn_181 hN) rfl mi_Mod_functions (c_Mod_functions hN hT w _ rfl) wd_1644 rfl (Nat.le_trans (Nat.le_of_ble_eq_true rfl) hle) (st := [.int (fa_I x1)]) (Nat.le_of_ble_eq_true rfl) rfl d_Mod_laysRings_172 ?_
    refine g_icmp_ge X 300 d_Mod_laysRings_175 (by decide) (fun hc7 => ?_) (fun hc7 => ?_)
    · have hM := fa_if_t hM hc7
      cases hM
      exact g_vret X d_Mod_laysRings_300
    · have hM := fa_if_f hM hc7
      refine g_aload_n X 0 rfl d_Mod_laysRings_178 ?_
      refine g_get X ck_10 fo_181 (fn_181 hN) 61 (by decide) wd_1802 rfl (fr_181_61 rfl hT) d_Mod_laysRings_179 ?_
      refine g_iload_n X 1 rfl d_Mod_laysRings_182 ?_
      obtain ⟨j8, ej8, hM⟩ := fa_ob hM
      refine g_iald X fs_218 (fn_218 hN) ej8 d_Mod_laysRings_183 ?_
      refine g_iload_n X 1 rfl d_Mod_laysRings_184 ?_
      refine g_callS_i X mi_Mod_holds (c_Mod_holds hN hT (w 218 j8) x1 w _ rfl) wd_1691 rfl (Nat.le_trans (Nat.le_of_ble_eq_true rfl) hle) (st := []) (Nat.le_of_ble_eq_true rfl) rfl d_Mod_laysRings_185 ?_
      refine g_ifb_eq X 294 d_Mod_laysRings_188 (by decide) (fun hc10 => ?_) (fun hc10 => ?_)
      · have hM := fa_ifb_f hM hc10
        refine g_iinc X 1 (fun x1_11 => [(1, .int (fa_I x1_11)), (0, .ref (b + 181))]) d_Mod_laysRings_294 rfl (by decide) (fun _ => rfl) (fun x1_11 ex1_11 => ?_)
        have hM := fa_let_to hM ex1_11
        refine g_goto X 170 d_Mod_laysRings_297 (by decide) ?_
        exact g_lv [1, 0] rfl (ih _ _ hM)
      · have hM := fa_ifb_t hM hc10
        refine g_aload_n X 0 rfl d_Mod_laysRings_191 ?_
        refine g_get X ck_10 fo_181 (fn_181 hN) 62 (by decide) wd_1803 rfl (fr_181_62 rfl hT) d_Mod_laysRings_192 ?_
        refine g_iload_n X 1 rfl d_Mod_laysRings_195 ?_
        obtain ⟨j12, ej12, hM⟩ := fa_ob hM
        refine g_iald X fs_219 (fn_219 hN) ej12 d_Mod_laysRings_196 ?_
        refine g_iconst X d_Mod_laysRings_197 ?_
        refine g_icmp_eq X 204 d_Mod_laysRings_198 (by decide) (fun hc13 => ?_) (fun hc13 => ?_)
        · have hM := fa_if_t hM hc13
          refine g_aload_n X 0 rfl d_Mod_laysRings_204 ?_
          refine g_get X ck_10 fo_181 (fn_181 hN) 63 (by decide) wd_1804 rfl (fr_181_63 rfl hT) d_Mod_laysRings_205 ?_
          refine g_aload_n X 0 rfl d_Mod_laysRings_208 ?_
          refine g_get X ck_10 fo_181 (fn_181 hN) 64 (by decide) wd_1805 rfl (fa_fvI rfl) d_Mod_laysRings_209 ?_
          refine g_iconst X d_Mod_laysRings_212 ?_
          obtain ⟨j14, ej14, hM⟩ := fa_ob hM
          refine g_iast X fs_220 (fn_220 hN) ej14 d_Mod_laysRings_213 (fun w15 ew15 => ?_)
          have hM := fa_let_to hM ew15
          refine g_iload_n X 1 rfl d_Mod_laysRings_214 ?_
          refine g_istorec_n X [(2, .int (fa_I x1)), (0, .ref (b + 181)), (1, .int (fa_I x1))] d_Mod_laysRings_215 (by decide) rfl ?_
          exact g_lv [1, 2, 0] rfl (c_Mod_laysRings_l216 X hle hN hT  (fun x1 w9 => fm_Mod_laysRings_l170 n x1 w9) (fun _ _ h => ih _ _ h) fa_FU _ _ _ hM)
        · have hM := fa_if_f hM hc13
          refine g_goto X 294 d_Mod_laysRings_201 (by decide) ?_
          refine g_iinc X 1 (fun x1_34 => [(1, .int (fa_I x1_34)), (0, .ref (b + 181))]) d_Mod_laysRings_294 rfl (by decide) (fun _ => rfl) (fun x1_34 ex1_34 => ?_)
          have hM := fa_let_to hM ex1_34
          refine g_goto X 170 d_Mod_laysRings_297 (by decide) ?_
          exact g_lv [1, 0] rfl (ih _ _ hM)
def fm_Mod_laysRings_l115 (k105 : Int → fa_W → Option fa_W) : Nat → Int → Int → fa_W → Option fa_W
  | 0, _, _, _ => none
  | n + 1, x1, x2, w => if fa_wr (fm_Mod_functions w) ≤ fa_wr x2 then
  (fa_let (x1 + 1) fun x1_37 =>
  k105 x1_37 w)
  else
  ((fa_ix x2 24).bind fun j38 =>
  if fm_Mod_holds (w 218 j38) x1 w = true then
  ((fa_ix x2 24).bind fun j42 =>
  (fa_ix x1 24).bind fun j43 =>
  (fa_ix x2 24).bind fun j44 =>
  fa_let (fa_st w 218 j44 (fa_ior (w 218 j42) (w 218 j43))) fun w45 =>
  fa_let (x2 + 1) fun x2_46 =>
  fm_Mod_laysRings_l115 k105 n x1 x2_46 w45)
  else
  (fa_let (x2 + 1) fun x2_41 =>
  fm_Mod_laysRings_l115 k105 n x1 x2_41 w))
set_option maxHeartbeats 4000000 in
set_option maxRecDepth 100000 in
theorem c_Mod_laysRings_l115 {p : Program} {l : Launch} {e : Env} {s : State} {m : MethodId} {args : Array Value} {below : List Frame} {meth : Method} {c : Code} {hh : Nat} {D : va_G} {b : Nat} {aC : Nat → ClassId} {H0 : Heap} {N T : Nat} (X : fa_GX p s m args meth c prog_12_method_62_code 3 ((Option.none : Option Jvm.ClassFile.FieldType)) y_Mod_laysRings.cls D b aC) (hle : 1 ≤ hh) (hN : fa_NM ≤ N) (hT : fa_TM ≤ T) {r : fa_W} (k105 : Int → fa_W → Option fa_W) (K105 : ∀ (x1 : Int) (w : fa_W), k105 x1 w = some r → fa_GJ p l e (fa_rm hh) s m args below meth c 0 0 (MQ below (fa_Qc D b aC H0 N T (none) r) args s 0 0 (fun q => b ≤ q)) D b aC H0 N T 3 w 105 [(0, .ref (b + 181)), (1, .int (fa_I x1))] []) : ∀ (n : Nat) (x1 : Int) (x2 : Int) (w : fa_W), fm_Mod_laysRings_l115 k105 n x1 x2 w = some r → fa_GJ p l e (fa_rm hh) s m args below meth c 0 0 (MQ below (fa_Qc D b aC H0 N T (none) r) args s 0 0 (fun q => b ≤ q)) D b aC H0 N T 3 w 115 [(0, .ref (b + 181)), (1, .int (fa_I x1)), (2, .int (fa_I x2))] [] := by
  intro n
  induction n with
  | zero => intro x1 x2 w hM; exact fa_no hM
  | succ n ih =>
    intro x1 x2 w hM
    rw [fm_Mod_laysRings_l115] at hM
    refine g_iload_n X 2 rfl d_Mod_laysRings_115 ?_
    refine g_aload_n X 0 rfl d_Mod_laysRings_116 ?_
    refine g_callV_i X ck_10 fo_181 (fn_181 hN) rfl mi_Mod_functions (c_Mod_functions hN hT w _ rfl) wd_1644 rfl (Nat.le_trans (Nat.le_of_ble_eq_true rfl) hle) (st := [.int (fa_I x2)]) (Nat.le_of_ble_eq_true rfl) rfl d_Mod_laysRings_117 ?_
    refine g_icmp_ge X 157 d_Mod_laysRings_120 (by decide) (fun hc36 => ?_) (fun hc36 => ?_)
    · have hM := fa_if_t hM hc36
      refine g_iinc X 1 (fun x1_37 => [(1, .int (fa_I x1_37)), (0, .ref (b + 181)), (2, .int (fa_I x2))]) d_Mod_laysRings_157 rfl (by decide) (fun _ => rfl) (fun x1_37 ex1_37 => ?_)
      have hM := fa_let_to hM ex1_37
      refine g_goto X 105 d_Mod_laysRings_160 (by decide) ?_
      exact g_lv [1, 0] rfl (K105 _ _ hM)
    · have hM := fa_if_f hM hc36
      refine g_aload_n X 0 rfl d_Mod_laysRings_123 ?_
      refine g_get X ck_10 fo_181 (fn_181 hN) 61 (by decide) wd_1802 rfl (fr_181_61 rfl hT) d_Mod_laysRings_124 ?_
      refine g_iload_n X 2 rfl d_Mod_laysRings_127 ?_
      obtain ⟨j38, ej38, hM⟩ := fa_ob hM
      refine g_iald X fs_218 (fn_218 hN) ej38 d_Mod_laysRings_128 ?_
      refine g_iload_n X 1 rfl d_Mod_laysRings_129 ?_
      refine g_callS_i X mi_Mod_holds (c_Mod_holds hN hT (w 218 j38) x1 w _ rfl) wd_1691 rfl (Nat.le_trans (Nat.le_of_ble_eq_true rfl) hle) (st := []) (Nat.le_of_ble_eq_true rfl) rfl d_Mod_laysRings_130 ?_
      refine g_ifb_eq X 151 d_Mod_laysRings_133 (by decide) (fun hc40 => ?_) (fun hc40 => ?_)
      · have hM := fa_ifb_f hM hc40
        refine g_iinc X 2 (fun x2_41 => [(2, .int (fa_I x2_41)), (0, .ref (b + 181)), (1, .int (fa_I x1))]) d_Mod_laysRings_151 rfl (by decide) (fun _ => rfl) (fun x2_41 ex2_41 => ?_)
        have hM := fa_let_to hM ex2_41
        refine g_goto X 115 d_Mod_laysRings_154 (by decide) ?_
        exact g_lv [1, 2, 0] rfl (ih _ _ _ hM)
      · have hM := fa_ifb_t hM hc40
        refine g_aload_n X 0 rfl d_Mod_laysRings_136 ?_
        refine g_get X ck_10 fo_181 (fn_181 hN) 61 (by decide) wd_1802 rfl (fr_181_61 rfl hT) d_Mod_laysRings_137 ?_
        refine g_iload_n X 2 rfl d_Mod_laysRings_140 ?_
        refine g_dup2 X rfl rfl d_Mod_laysRings_141 ?_
        obtain ⟨j42, ej42, hM⟩ := fa_ob hM
        refine g_iald X fs_218 (fn_218 hN) ej42 d_Mod_laysRings_142 ?_
        refine g_aload_n X 0 rfl d_Mod_laysRings_143 ?_
        refine g_get X ck_10 fo_181 (fn_181 hN) 61 (by decide) wd_1802 rfl (fr_181_61 rfl hT) d_Mod_laysRings_144 ?_
        refine g_iload_n X 1 rfl d_Mod_laysRings_147 ?_
        obtain ⟨j43, ej43, hM⟩ := fa_ob hM
        refine g_iald X fs_218 (fn_218 hN) ej43 d_Mod_laysRings_148 ?_
        refine g_ior X d_Mod_laysRings_149 ?_
        obtain ⟨j44, ej44, hM⟩ := fa_ob hM
        refine g_iast X fs_218 (fn_218 hN) ej44 d_Mod_laysRings_150 (fun w45 ew45 => ?_)
        have hM := fa_let_to hM ew45
        refine g_iinc X 2 (fun x2_46 => [(2, .int (fa_I x2_46)), (0, .ref (b + 181)), (1, .int (fa_I x1))]) d_Mod_laysRings_151 rfl (by decide) (fun _ => rfl) (fun x2_46 ex2_46 => ?_)
        have hM := fa_let_to hM ex2_46
        refine g_goto X 115 d_Mod_laysRings_154 (by decide) ?_
        exact g_lv [1, 2, 0] rfl (ih _ _ _ hM)
def fm_Mod_laysRings_l105  : Nat → Int → fa_W → Option fa_W
  | 0, _, _ => none
  | n + 1, x1, w => if fa_wr (fm_Mod_functions w) ≤ fa_wr x1 then
  (fa_let (fa_st w 181 64 0) fun w5 =>
  fm_Mod_laysRings_l170 fa_FU 0 w5)
  else
  fm_Mod_laysRings_l115 (fun x1 w9 => fm_Mod_laysRings_l105 n x1 w9) fa_FU x1 0 w
set_option maxHeartbeats 4000000 in
set_option maxRecDepth 100000 in
theorem c_Mod_laysRings_l105 {p : Program} {l : Launch} {e : Env} {s : State} {m : MethodId} {args : Array Value} {below : List Frame} {meth : Method} {c : Code} {hh : Nat} {D : va_G} {b : Nat} {aC : Nat → ClassId} {H0 : Heap} {N T : Nat} (X : fa_GX p s m args meth c prog_12_method_62_code 3 ((Option.none : Option Jvm.ClassFile.FieldType)) y_Mod_laysRings.cls D b aC) (hle : 1 ≤ hh) (hN : fa_NM ≤ N) (hT : fa_TM ≤ T) {r : fa_W}  : ∀ (n : Nat) (x1 : Int) (w : fa_W), fm_Mod_laysRings_l105 n x1 w = some r → fa_GJ p l e (fa_rm hh) s m args below meth c 0 0 (MQ below (fa_Qc D b aC H0 N T (none) r) args s 0 0 (fun q => b ≤ q)) D b aC H0 N T 3 w 105 [(0, .ref (b + 181)), (1, .int (fa_I x1))] [] := by
  intro n
  induction n with
  | zero => intro x1 w hM; exact fa_no hM
  | succ n ih =>
    intro x1 w hM
    rw [fm_Mod_laysRings_l105] at hM
    refine g_iload_n X 1 rfl d_Mod_laysRings_105 ?_
    refine g_aload_n X 0 rfl d_Mod_laysRings_106 ?_
    refine g_callV_i X ck_10 fo_181 (fn_181 hN) rfl mi_Mod_functions (c_Mod_functions hN hT w _ rfl) wd_1644 rfl (Nat.le_trans (Nat.le_of_ble_eq_true rfl) hle) (st := [.int (fa_I x1)]) (Nat.le_of_ble_eq_true rfl) rfl d_Mod_laysRings_107 ?_
    refine g_icmp_ge X 163 d_Mod_laysRings_110 (by decide) (fun hc4 => ?_) (fun hc4 => ?_)
    · have hM := fa_if_t hM hc4
      refine g_aload_n X 0 rfl d_Mod_laysRings_163 ?_
      refine g_iconst X d_Mod_laysRings_164 ?_
      refine g_put X ck_10 fo_181 (fn_181 hN) 64 (z := 0) (by decide) wd_1805 rfl (fa_fvI' rfl) rfl rfl rfl d_Mod_laysRings_165 (fun w5 ew5 => ?_)
      have hM := fa_let_to hM ew5
      refine g_iconst X d_Mod_laysRings_168 ?_
      refine g_istorec_n X [(1, .int (fa_I 0)), (0, .ref (b + 181))] d_Mod_laysRings_169 (by decide) rfl ?_
      exact g_lv [1, 0] rfl (c_Mod_laysRings_l170 X hle hN hT   fa_FU _ _ hM)
    · have hM := fa_if_f hM hc4
      refine g_iconst X d_Mod_laysRings_113 ?_
      refine g_istorec_n X [(2, .int (fa_I 0)), (0, .ref (b + 181)), (1, .int (fa_I x1))] d_Mod_laysRings_114 (by decide) rfl ?_
      exact g_lv [1, 2, 0] rfl (c_Mod_laysRings_l115 X hle hN hT  (fun x1 w9 => fm_Mod_laysRings_l105 n x1 w9) (fun _ _ h => ih _ _ h) fa_FU _ _ _ hM)
def fm_Mod_laysRings_l19 (k2 : Int → fa_W → Option fa_W) : Nat → Int → Int → fa_W → Option fa_W
  | 0, _, _, _ => none
  | n + 1, x1, x2, w => if fa_wr (w 181 20) ≤ fa_wr x2 then
  ((fa_ix x1 24).bind fun j50 =>
  (fa_ix x1 24).bind fun j51 =>
  fa_let (fa_st w 218 j51 (w 217 j50)) fun w52 =>
  (fa_ix x1 24).bind fun j53 =>
  fa_let (fa_st w52 219 j53 (-1)) fun w54 =>
  fa_let (x1 + 1) fun x1_55 =>
  k2 x1_55 w54)
  else
  ((fa_ix x2 101).bind fun j56 =>
  if decide (w 212 j56 ≠ 0) = true then
  ((fa_ix x2 101).bind fun j59 =>
  if fa_wr (w 195 j59) = fa_wr x1 then
  (if fm_Mod_holds (w 181 53) x1 w = true then
  ((fa_ix x1 24).bind fun j65 =>
  (fa_ix x2 101).bind fun j66 =>
  (fa_ix x1 24).bind fun j67 =>
  fa_let (fa_st w 217 j67 (fa_ior (w 217 j65) (w 209 j66))) fun w68 =>
  fa_let (x2 + 1) fun x2_69 =>
  fm_Mod_laysRings_l19 k2 n x1 x2_69 w68)
  else
  (fa_let (x2 + 1) fun x2_64 =>
  fm_Mod_laysRings_l19 k2 n x1 x2_64 w))
  else
  (fa_let (x2 + 1) fun x2_61 =>
  fm_Mod_laysRings_l19 k2 n x1 x2_61 w))
  else
  (fa_let (x2 + 1) fun x2_58 =>
  fm_Mod_laysRings_l19 k2 n x1 x2_58 w))
set_option maxHeartbeats 4000000 in
set_option maxRecDepth 100000 in
theorem c_Mod_laysRings_l19 {p : Program} {l : Launch} {e : Env} {s : State} {m : MethodId} {args : Array Value} {below : List Frame} {meth : Method} {c : Code} {hh : Nat} {D : va_G} {b : Nat} {aC : Nat → ClassId} {H0 : Heap} {N T : Nat} (X : fa_GX p s m args meth c prog_12_method_62_code 3 ((Option.none : Option Jvm.ClassFile.FieldType)) y_Mod_laysRings.cls D b aC) (hle : 1 ≤ hh) (hN : fa_NM ≤ N) (hT : fa_TM ≤ T) {r : fa_W} (k2 : Int → fa_W → Option fa_W) (K2 : ∀ (x1 : Int) (w : fa_W), k2 x1 w = some r → fa_GJ p l e (fa_rm hh) s m args below meth c 0 0 (MQ below (fa_Qc D b aC H0 N T (none) r) args s 0 0 (fun q => b ≤ q)) D b aC H0 N T 3 w 2 [(0, .ref (b + 181)), (1, .int (fa_I x1))] []) : ∀ (n : Nat) (x1 : Int) (x2 : Int) (w : fa_W), fm_Mod_laysRings_l19 k2 n x1 x2 w = some r → fa_GJ p l e (fa_rm hh) s m args below meth c 0 0 (MQ below (fa_Qc D b aC H0 N T (none) r) args s 0 0 (fun q => b ≤ q)) D b aC H0 N T 3 w 19 [(0, .ref (b + 181)), (1, .int (fa_I x1)), (2, .int (fa_I x2))] [] := by
  intro n
  induction n with
  | zero => intro x1 x2 w hM; exact fa_no hM
  | succ n ih =>
    intro x1 x2 w hM
    rw [fm_Mod_laysRings_l19] at hM
    refine g_iload_n X 2 rfl d_Mod_laysRings_19 ?_
    refine g_aload_n X 0 rfl d_Mod_laysRings_20 ?_
    refine g_get X ck_10 fo_181 (fn_181 hN) 20 (by decide) wd_1762 rfl (fa_fvI rfl) d_Mod_laysRings_21 ?_
    refine g_icmp_ge X 78 d_Mod_laysRings_24 (by decide) (fun hc49 => ?_) (fun hc49 => ?_)
    · have hM := fa_if_t hM hc49
      refine g_aload_n X 0 rfl d_Mod_laysRings_78 ?_
      refine g_get X ck_10 fo_181 (fn_181 hN) 61 (by decide) wd_1802 rfl (fr_181_61 rfl hT) d_Mod_laysRings_79 ?_
      refine g_iload_n X 1 rfl d_Mod_laysRings_82 ?_
      refine g_aload_n X 0 rfl d_Mod_laysRings_83 ?_
      refine g_get X ck_10 fo_181 (fn_181 hN) 60 (by decide) wd_1801 rfl (fr_181_60 rfl hT) d_Mod_laysRings_84 ?_
      refine g_iload_n X 1 rfl d_Mod_laysRings_87 ?_
      obtain ⟨j50, ej50, hM⟩ := fa_ob hM
      refine g_iald X fs_217 (fn_217 hN) ej50 d_Mod_laysRings_88 ?_
      obtain ⟨j51, ej51, hM⟩ := fa_ob hM
      refine g_iast X fs_218 (fn_218 hN) ej51 d_Mod_laysRings_89 (fun w52 ew52 => ?_)
      have hM := fa_let_to hM ew52
      refine g_aload_n X 0 rfl d_Mod_laysRings_90 ?_
      refine g_get X ck_10 fo_181 (fn_181 hN) 62 (by decide) wd_1803 rfl (fr_181_62 rfl hT) d_Mod_laysRings_91 ?_
      refine g_iload_n X 1 rfl d_Mod_laysRings_94 ?_
      refine g_iconst X d_Mod_laysRings_95 ?_
      obtain ⟨j53, ej53, hM⟩ := fa_ob hM
      refine g_iast X fs_219 (fn_219 hN) ej53 d_Mod_laysRings_96 (fun w54 ew54 => ?_)
      have hM := fa_let_to hM ew54
      refine g_iinc X 1 (fun x1_55 => [(1, .int (fa_I x1_55)), (0, .ref (b + 181)), (2, .int (fa_I x2))]) d_Mod_laysRings_97 rfl (by decide) (fun _ => rfl) (fun x1_55 ex1_55 => ?_)
      have hM := fa_let_to hM ex1_55
      refine g_goto X 2 d_Mod_laysRings_100 (by decide) ?_
      exact g_lv [1, 0] rfl (K2 _ _ hM)
    · have hM := fa_if_f hM hc49
      refine g_aload_n X 0 rfl d_Mod_laysRings_27 ?_
      refine g_get X ck_10 fo_181 (fn_181 hN) 51 (by decide) wd_1792 rfl (fr_181_51 rfl hT) d_Mod_laysRings_28 ?_
      refine g_iload_n X 2 rfl d_Mod_laysRings_31 ?_
      obtain ⟨j56, ej56, hM⟩ := fa_ob hM
      refine g_zald X fs_212 (fn_212 hN) ej56 d_Mod_laysRings_32 ?_
      refine g_ifb_eq X 72 d_Mod_laysRings_33 (by decide) (fun hc57 => ?_) (fun hc57 => ?_)
      · have hM := fa_ifb_f hM hc57
        refine g_iinc X 2 (fun x2_58 => [(2, .int (fa_I x2_58)), (0, .ref (b + 181)), (1, .int (fa_I x1))]) d_Mod_laysRings_72 rfl (by decide) (fun _ => rfl) (fun x2_58 ex2_58 => ?_)
        have hM := fa_let_to hM ex2_58
        refine g_goto X 19 d_Mod_laysRings_75 (by decide) ?_
        exact g_lv [1, 2, 0] rfl (ih _ _ _ hM)
      · have hM := fa_ifb_t hM hc57
        refine g_aload_n X 0 rfl d_Mod_laysRings_36 ?_
        refine g_get X ck_10 fo_181 (fn_181 hN) 15 (by decide) wd_1757 rfl (fr_181_15 rfl hT) d_Mod_laysRings_37 ?_
        refine g_iload_n X 2 rfl d_Mod_laysRings_40 ?_
        obtain ⟨j59, ej59, hM⟩ := fa_ob hM
        refine g_iald X fs_195 (fn_195 hN) ej59 d_Mod_laysRings_41 ?_
        refine g_iload_n X 1 rfl d_Mod_laysRings_42 ?_
        refine g_icmp_ne X 72 d_Mod_laysRings_43 (by decide) (fun hc60 => ?_) (fun hc60 => ?_)
        · have hM := fa_if_f hM hc60
          refine g_iinc X 2 (fun x2_61 => [(2, .int (fa_I x2_61)), (0, .ref (b + 181)), (1, .int (fa_I x1))]) d_Mod_laysRings_72 rfl (by decide) (fun _ => rfl) (fun x2_61 ex2_61 => ?_)
          have hM := fa_let_to hM ex2_61
          refine g_goto X 19 d_Mod_laysRings_75 (by decide) ?_
          exact g_lv [1, 2, 0] rfl (ih _ _ _ hM)
        · have hM := fa_if_t hM hc60
          refine g_aload_n X 0 rfl d_Mod_laysRings_46 ?_
          refine g_get X ck_10 fo_181 (fn_181 hN) 53 (by decide) wd_1794 rfl (fa_fvI rfl) d_Mod_laysRings_47 ?_
          refine g_iload_n X 1 rfl d_Mod_laysRings_50 ?_
          refine g_callS_i X mi_Mod_holds (c_Mod_holds hN hT (w 181 53) x1 w _ rfl) wd_1691 rfl (Nat.le_trans (Nat.le_of_ble_eq_true rfl) hle) (st := []) (Nat.le_of_ble_eq_true rfl) rfl d_Mod_laysRings_51 ?_
          refine g_ifb_eq X 72 d_Mod_laysRings_54 (by decide) (fun hc63 => ?_) (fun hc63 => ?_)
          · have hM := fa_ifb_f hM hc63
            refine g_iinc X 2 (fun x2_64 => [(2, .int (fa_I x2_64)), (0, .ref (b + 181)), (1, .int (fa_I x1))]) d_Mod_laysRings_72 rfl (by decide) (fun _ => rfl) (fun x2_64 ex2_64 => ?_)
            have hM := fa_let_to hM ex2_64
            refine g_goto X 19 d_Mod_laysRings_75 (by decide) ?_
            exact g_lv [1, 2, 0] rfl (ih _ _ _ hM)
          · have hM := fa_ifb_t hM hc63
            refine g_aload_n X 0 rfl d_Mod_laysRings_57 ?_
            refine g_get X ck_10 fo_181 (fn_181 hN) 60 (by decide) wd_1801 rfl (fr_181_60 rfl hT) d_Mod_laysRings_58 ?_
            refine g_iload_n X 1 rfl d_Mod_laysRings_61 ?_
            refine g_dup2 X rfl rfl d_Mod_laysRings_62 ?_
            obtain ⟨j65, ej65, hM⟩ := fa_ob hM
            refine g_iald X fs_217 (fn_217 hN) ej65 d_Mod_laysRings_63 ?_
            refine g_aload_n X 0 rfl d_Mod_laysRings_64 ?_
            refine g_get X ck_10 fo_181 (fn_181 hN) 48 (by decide) wd_1789 rfl (fr_181_48 rfl hT) d_Mod_laysRings_65 ?_
            refine g_iload_n X 2 rfl d_Mod_laysRings_68 ?_
            obtain ⟨j66, ej66, hM⟩ := fa_ob hM
            refine g_iald X fs_209 (fn_209 hN) ej66 d_Mod_laysRings_69 ?_
            refine g_ior X d_Mod_laysRings_70 ?_
            obtain ⟨j67, ej67, hM⟩ := fa_ob hM
            refine g_iast X fs_217 (fn_217 hN) ej67 d_Mod_laysRings_71 (fun w68 ew68 => ?_)
            have hM := fa_let_to hM ew68
            refine g_iinc X 2 (fun x2_69 => [(2, .int (fa_I x2_69)), (0, .ref (b + 181)), (1, .int (fa_I x1))]) d_Mod_laysRings_72 rfl (by decide) (fun _ => rfl) (fun x2_69 ex2_69 => ?_)
            have hM := fa_let_to hM ex2_69
            refine g_goto X 19 d_Mod_laysRings_75 (by decide) ?_
            exact g_lv [1, 2, 0] rfl (ih _ _ _ hM)
def fm_Mod_laysRings_l2  : Nat → Int → fa_W → Option fa_W
  | 0, _, _ => none
  | n + 1, x1, w => if fa_wr (fm_Mod_functions w) ≤ fa_wr x1 then
  fm_Mod_laysRings_l105 fa_FU 0 w
  else
  ((fa_ix x1 24).bind fun j47 =>
  fa_let (fa_st w 217 j47 0) fun w48 =>
  fm_Mod_laysRings_l19 (fun x1 w9 => fm_Mod_laysRings_l2 n x1 w9) fa_FU x1 0 w48)
set_option maxHeartbeats 4000000 in
set_option maxRecDepth 100000 in
theorem c_Mod_laysRings_l2 {p : Program} {l : Launch} {e : Env} {s : State} {m : MethodId} {args : Array Value} {below : List Frame} {meth : Method} {c : Code} {hh : Nat} {D : va_G} {b : Nat} {aC : Nat → ClassId} {H0 : Heap} {N T : Nat} (X : fa_GX p s m args meth c prog_12_method_62_code 3 ((Option.none : Option Jvm.ClassFile.FieldType)) y_Mod_laysRings.cls D b aC) (hle : 1 ≤ hh) (hN : fa_NM ≤ N) (hT : fa_TM ≤ T) {r : fa_W}  : ∀ (n : Nat) (x1 : Int) (w : fa_W), fm_Mod_laysRings_l2 n x1 w = some r → fa_GJ p l e (fa_rm hh) s m args below meth c 0 0 (MQ below (fa_Qc D b aC H0 N T (none) r) args s 0 0 (fun q => b ≤ q)) D b aC H0 N T 3 w 2 [(0, .ref (b + 181)), (1, .int (fa_I x1))] [] := by
  intro n
  induction n with
  | zero => intro x1 w hM; exact fa_no hM
  | succ n ih =>
    intro x1 w hM
    rw [fm_Mod_laysRings_l2] at hM
    refine g_iload_n X 1 rfl d_Mod_laysRings_2 ?_
    refine g_aload_n X 0 rfl d_Mod_laysRings_3 ?_
    refine g_callV_i X ck_10 fo_181 (fn_181 hN) rfl mi_Mod_functions (c_Mod_functions hN hT w _ rfl) wd_1644 rfl (Nat.le_trans (Nat.le_of_ble_eq_true rfl) hle) (st := [.int (fa_I x1)]) (Nat.le_of_ble_eq_true rfl) rfl d_Mod_laysRings_4 ?_
    refine g_icmp_ge X 103 d_Mod_laysRings_7 (by decide) (fun hc2 => ?_) (fun hc2 => ?_)
    · have hM := fa_if_t hM hc2
      refine g_iconst X d_Mod_laysRings_103 ?_
      refine g_istorec_n X [(1, .int (fa_I 0)), (0, .ref (b + 181))] d_Mod_laysRings_104 (by decide) rfl ?_
      exact g_lv [1, 0] rfl (c_Mod_laysRings_l105 X hle hN hT   fa_FU _ _ hM)
    · have hM := fa_if_f hM hc2
      refine g_aload_n X 0 rfl d_Mod_laysRings_10 ?_
      refine g_get X ck_10 fo_181 (fn_181 hN) 60 (by decide) wd_1801 rfl (fr_181_60 rfl hT) d_Mod_laysRings_11 ?_
      refine g_iload_n X 1 rfl d_Mod_laysRings_14 ?_
      refine g_iconst X d_Mod_laysRings_15 ?_
      obtain ⟨j47, ej47, hM⟩ := fa_ob hM
      refine g_iast X fs_217 (fn_217 hN) ej47 d_Mod_laysRings_16 (fun w48 ew48 => ?_)
      have hM := fa_let_to hM ew48
      refine g_iconst X d_Mod_laysRings_17 ?_
      refine g_istorec_n X [(2, .int (fa_I 0)), (0, .ref (b + 181)), (1, .int (fa_I x1))] d_Mod_laysRings_18 (by decide) rfl ?_
      exact g_lv [1, 2, 0] rfl (c_Mod_laysRings_l19 X hle hN hT  (fun x1 w9 => fm_Mod_laysRings_l2 n x1 w9) (fun _ _ h => ih _ _ h) fa_FU _ _ _ hM)
def fm_Mod_laysRings (w : fa_W) : Option fa_W :=
  fm_Mod_laysRings_l2 fa_FU 0 w
set_option maxHeartbeats 4000000 in
set_option maxRecDepth 100000 in
theorem c_Mod_laysRings {l : Launch} {D : va_G} {b : Nat} {aC : Nat → ClassId} {H0 : Heap} {N T : Nat} (hN : fa_NM ≤ N) (hT : fa_TM ≤ T)   (w : fa_W) (r : fa_W) (hM : fm_Mod_laysRings w = some r) : fa_MC l D b aC H0 N T y_Mod_laysRings prog_12_method_62_code 3 ((Option.none : Option Jvm.ClassFile.FieldType)) (1) [.ref (b + 181)] w (none) r := by
  refine fa_enter (lv := [(0, .ref (b + 181))]) (by decide +kernel) (Nat.le_of_ble_eq_true rfl) rfl (fun hh hle hnm X => ?_)
  unfold fm_Mod_laysRings at hM
  refine g_iconst X d_Mod_laysRings_0 ?_
  refine g_istorec_n X [(1, .int (fa_I 0)), (0, .ref (b + 181))] d_Mod_laysRings_1 (by decide) rfl ?_
  exact g_lv [1, 0] rfl (c_Mod_laysRings_l2 X hle hN hT   fa_FU _ _ hM)
theorem d_Mod_lays_0 : decode prog_12_method_63_code 0 = .ok (.aload_n 0, 1) := by decide +kernel
theorem d_Mod_lays_1 : decode prog_12_method_63_code 1 = .ok (.getfield 381, 3) := by decide +kernel
theorem d_Mod_lays_4 : decode prog_12_method_63_code 4 = .ok (.aload_n 0, 1) := by decide +kernel
theorem d_Mod_lays_5 : decode prog_12_method_63_code 5 = .ok (.getfield 384, 3) := by decide +kernel
theorem d_Mod_lays_8 : decode prog_12_method_63_code 8 = .ok (.iload_n 1, 1) := by decide +kernel
theorem d_Mod_lays_9 : decode prog_12_method_63_code 9 = .ok (.iastore, 1) := by decide +kernel
theorem d_Mod_lays_10 : decode prog_12_method_63_code 10 = .ok (.aload_n 0, 1) := by decide +kernel
theorem d_Mod_lays_11 : decode prog_12_method_63_code 11 = .ok (.getfield 387, 3) := by decide +kernel
theorem d_Mod_lays_14 : decode prog_12_method_63_code 14 = .ok (.aload_n 0, 1) := by decide +kernel
theorem d_Mod_lays_15 : decode prog_12_method_63_code 15 = .ok (.getfield 384, 3) := by decide +kernel
theorem d_Mod_lays_18 : decode prog_12_method_63_code 18 = .ok (.iload_n 2, 1) := by decide +kernel
theorem d_Mod_lays_19 : decode prog_12_method_63_code 19 = .ok (.iastore, 1) := by decide +kernel
theorem d_Mod_lays_20 : decode prog_12_method_63_code 20 = .ok (.aload_n 0, 1) := by decide +kernel
theorem d_Mod_lays_21 : decode prog_12_method_63_code 21 = .ok (.dup, 1) := by decide +kernel
theorem d_Mod_lays_22 : decode prog_12_method_63_code 22 = .ok (.getfield 384, 3) := by decide +kernel
theorem d_Mod_lays_25 : decode prog_12_method_63_code 25 = .ok (.iconst 1, 1) := by decide +kernel
theorem d_Mod_lays_26 : decode prog_12_method_63_code 26 = .ok (.iadd, 1) := by decide +kernel
theorem d_Mod_lays_27 : decode prog_12_method_63_code 27 = .ok (.putfield 384, 3) := by decide +kernel
theorem d_Mod_lays_30 : decode prog_12_method_63_code 30 = .ok (.aload_n 0, 1) := by decide +kernel
theorem d_Mod_lays_31 : decode prog_12_method_63_code 31 = .ok (.getfield 384, 3) := by decide +kernel
theorem d_Mod_lays_34 : decode prog_12_method_63_code 34 = .ok (.iconst 1, 1) := by decide +kernel
theorem d_Mod_lays_35 : decode prog_12_method_63_code 35 = .ok (.isub, 1) := by decide +kernel
theorem d_Mod_lays_36 : decode prog_12_method_63_code 36 = .ok (.ireturn, 1) := by decide +kernel
def fm_Mod_lays (a1 : Int) (a2 : Int) (w : fa_W) : Option (Int × fa_W) :=
  (fa_ix (w 181 68) 500).bind fun j1 =>
  fa_let (fa_st w 221 j1 a1) fun w2 =>
  (fa_ix (w2 181 68) 500).bind fun j3 =>
  fa_let (fa_st w2 222 j3 a2) fun w4 =>
  fa_let (fa_st w4 181 68 ((w4 181 68) + 1)) fun w5 =>
  some ((w5 181 68) - 1, w5)
set_option maxHeartbeats 4000000 in
set_option maxRecDepth 100000 in
theorem c_Mod_lays {l : Launch} {D : va_G} {b : Nat} {aC : Nat → ClassId} {H0 : Heap} {N T : Nat} (hN : fa_NM ≤ N) (hT : fa_TM ≤ T) (a1 : Int) (a2 : Int)  (w : fa_W) (r : Int × fa_W) (hM : fm_Mod_lays a1 a2 w = some r) : fa_MC l D b aC H0 N T y_Mod_lays prog_12_method_63_code 3 ((Option.some Jvm.ClassFile.FieldType.int)) (0) [.ref (b + 181), .int (fa_I a1), .int (fa_I a2)] w (some (.int (fa_I r.1))) r.2 := by
  refine fa_enter (lv := [(0, .ref (b + 181)), (1, .int (fa_I a1)), (2, .int (fa_I a2))]) (by decide +kernel) (Nat.le_of_ble_eq_true rfl) rfl (fun hh hle hnm X => ?_)
  unfold fm_Mod_lays at hM
  refine g_aload_n X 0 rfl d_Mod_lays_0 ?_
  refine g_get X ck_10 fo_181 (fn_181 hN) 65 (by decide) wd_1806 rfl (fr_181_65 rfl hT) d_Mod_lays_1 ?_
  refine g_aload_n X 0 rfl d_Mod_lays_4 ?_
  refine g_get X ck_10 fo_181 (fn_181 hN) 68 (by decide) wd_1809 rfl (fa_fvI rfl) d_Mod_lays_5 ?_
  refine g_iload_n X 1 rfl d_Mod_lays_8 ?_
  obtain ⟨j1, ej1, hM⟩ := fa_ob hM
  refine g_iast X fs_221 (fn_221 hN) ej1 d_Mod_lays_9 (fun w2 ew2 => ?_)
  have hM := fa_let_to hM ew2
  refine g_aload_n X 0 rfl d_Mod_lays_10 ?_
  refine g_get X ck_10 fo_181 (fn_181 hN) 66 (by decide) wd_1807 rfl (fr_181_66 rfl hT) d_Mod_lays_11 ?_
  refine g_aload_n X 0 rfl d_Mod_lays_14 ?_
  refine g_get X ck_10 fo_181 (fn_181 hN) 68 (by decide) wd_1809 rfl (fa_fvI rfl) d_Mod_lays_15 ?_
  refine g_iload_n X 2 rfl d_Mod_lays_18 ?_
  obtain ⟨j3, ej3, hM⟩ := fa_ob hM
  refine g_iast X fs_222 (fn_222 hN) ej3 d_Mod_lays_19 (fun w4 ew4 => ?_)
  have hM := fa_let_to hM ew4
  refine g_aload_n X 0 rfl d_Mod_lays_20 ?_
  refine g_dup X rfl d_Mod_lays_21 ?_
  refine g_get X ck_10 fo_181 (fn_181 hN) 68 (by decide) wd_1809 rfl (fa_fvI rfl) d_Mod_lays_22 ?_
  refine g_iconst X d_Mod_lays_25 ?_
  refine g_iadd X d_Mod_lays_26 ?_
  refine g_put X ck_10 fo_181 (fn_181 hN) 68 (z := ((w4 181 68) + 1)) (by decide) wd_1809 rfl (fa_fvI' rfl) rfl rfl rfl d_Mod_lays_27 (fun w5 ew5 => ?_)
  have hM := fa_let_to hM ew5
  refine g_aload_n X 0 rfl d_Mod_lays_30 ?_
  refine g_get X ck_10 fo_181 (fn_181 hN) 68 (by decide) wd_1809 rfl (fa_fvI rfl) d_Mod_lays_31 ?_
  refine g_iconst X d_Mod_lays_34 ?_
  refine g_isub X d_Mod_lays_35 ?_
  cases hM
  exact g_iret X d_Mod_lays_36
theorem d_Mod_compiles_0 : decode prog_12_method_64_code 0 = .ok (.aload_n 0, 1) := by decide +kernel
theorem d_Mod_compiles_1 : decode prog_12_method_64_code 1 = .ok (.getfield 88, 3) := by decide +kernel
theorem d_Mod_compiles_4 : decode prog_12_method_64_code 4 = .ok (.iload_n 1, 1) := by decide +kernel
theorem d_Mod_compiles_5 : decode prog_12_method_64_code 5 = .ok (.iaload, 1) := by decide +kernel
theorem d_Mod_compiles_6 : decode prog_12_method_64_code 6 = .ok (.tableswitch 210 0 8 #[195, 210, 210, 210, 210, 50, 119, 155, 155], 50) := by decide +kernel
theorem d_Mod_compiles_56 : decode prog_12_method_64_code 56 = .ok (.aload_n 0, 1) := by decide +kernel
theorem d_Mod_compiles_57 : decode prog_12_method_64_code 57 = .ok (.aload_n 0, 1) := by decide +kernel
theorem d_Mod_compiles_58 : decode prog_12_method_64_code 58 = .ok (.getfield 94, 3) := by decide +kernel
theorem d_Mod_compiles_61 : decode prog_12_method_64_code 61 = .ok (.iload_n 1, 1) := by decide +kernel
theorem d_Mod_compiles_62 : decode prog_12_method_64_code 62 = .ok (.iaload, 1) := by decide +kernel
theorem d_Mod_compiles_63 : decode prog_12_method_64_code 63 = .ok (.invokevirtual 390, 3) := by decide +kernel
theorem d_Mod_compiles_66 : decode prog_12_method_64_code 66 = .ok (.aload_n 0, 1) := by decide +kernel
theorem d_Mod_compiles_67 : decode prog_12_method_64_code 67 = .ok (.bipush 9, 2) := by decide +kernel
theorem d_Mod_compiles_69 : decode prog_12_method_64_code 69 = .ok (.iconst 0, 1) := by decide +kernel
theorem d_Mod_compiles_70 : decode prog_12_method_64_code 70 = .ok (.invokevirtual 393, 3) := by decide +kernel
theorem d_Mod_compiles_73 : decode prog_12_method_64_code 73 = .ok (.istore_n 2, 1) := by decide +kernel
theorem d_Mod_compiles_74 : decode prog_12_method_64_code 74 = .ok (.aload_n 0, 1) := by decide +kernel
theorem d_Mod_compiles_75 : decode prog_12_method_64_code 75 = .ok (.aload_n 0, 1) := by decide +kernel
theorem d_Mod_compiles_76 : decode prog_12_method_64_code 76 = .ok (.getfield 97, 3) := by decide +kernel
theorem d_Mod_compiles_79 : decode prog_12_method_64_code 79 = .ok (.iload_n 1, 1) := by decide +kernel
theorem d_Mod_compiles_80 : decode prog_12_method_64_code 80 = .ok (.iaload, 1) := by decide +kernel
theorem d_Mod_compiles_81 : decode prog_12_method_64_code 81 = .ok (.invokevirtual 390, 3) := by decide +kernel
theorem d_Mod_compiles_84 : decode prog_12_method_64_code 84 = .ok (.aload_n 0, 1) := by decide +kernel
theorem d_Mod_compiles_85 : decode prog_12_method_64_code 85 = .ok (.bipush 10, 2) := by decide +kernel
theorem d_Mod_compiles_87 : decode prog_12_method_64_code 87 = .ok (.iconst 0, 1) := by decide +kernel
theorem d_Mod_compiles_88 : decode prog_12_method_64_code 88 = .ok (.invokevirtual 393, 3) := by decide +kernel
theorem d_Mod_compiles_91 : decode prog_12_method_64_code 91 = .ok (.istore_n 3, 1) := by decide +kernel
theorem d_Mod_compiles_92 : decode prog_12_method_64_code 92 = .ok (.aload_n 0, 1) := by decide +kernel
theorem d_Mod_compiles_93 : decode prog_12_method_64_code 93 = .ok (.getfield 387, 3) := by decide +kernel
theorem d_Mod_compiles_96 : decode prog_12_method_64_code 96 = .ok (.iload_n 2, 1) := by decide +kernel
theorem d_Mod_compiles_97 : decode prog_12_method_64_code 97 = .ok (.aload_n 0, 1) := by decide +kernel
theorem d_Mod_compiles_98 : decode prog_12_method_64_code 98 = .ok (.getfield 384, 3) := by decide +kernel
theorem d_Mod_compiles_101 : decode prog_12_method_64_code 101 = .ok (.iastore, 1) := by decide +kernel
theorem d_Mod_compiles_102 : decode prog_12_method_64_code 102 = .ok (.aload_n 0, 1) := by decide +kernel
theorem d_Mod_compiles_103 : decode prog_12_method_64_code 103 = .ok (.aload_n 0, 1) := by decide +kernel
theorem d_Mod_compiles_104 : decode prog_12_method_64_code 104 = .ok (.getfield 100, 3) := by decide +kernel
theorem d_Mod_compiles_107 : decode prog_12_method_64_code 107 = .ok (.iload_n 1, 1) := by decide +kernel
theorem d_Mod_compiles_108 : decode prog_12_method_64_code 108 = .ok (.iaload, 1) := by decide +kernel
theorem d_Mod_compiles_109 : decode prog_12_method_64_code 109 = .ok (.invokevirtual 390, 3) := by decide +kernel
theorem d_Mod_compiles_112 : decode prog_12_method_64_code 112 = .ok (.aload_n 0, 1) := by decide +kernel
theorem d_Mod_compiles_113 : decode prog_12_method_64_code 113 = .ok (.getfield 387, 3) := by decide +kernel
theorem d_Mod_compiles_116 : decode prog_12_method_64_code 116 = .ok (.iload_n 3, 1) := by decide +kernel
theorem d_Mod_compiles_117 : decode prog_12_method_64_code 117 = .ok (.aload_n 0, 1) := by decide +kernel
theorem d_Mod_compiles_118 : decode prog_12_method_64_code 118 = .ok (.getfield 384, 3) := by decide +kernel
theorem d_Mod_compiles_121 : decode prog_12_method_64_code 121 = .ok (.iastore, 1) := by decide +kernel
theorem d_Mod_compiles_122 : decode prog_12_method_64_code 122 = .ok (.goto 111, 3) := by decide +kernel
theorem d_Mod_compiles_125 : decode prog_12_method_64_code 125 = .ok (.aload_n 0, 1) := by decide +kernel
theorem d_Mod_compiles_126 : decode prog_12_method_64_code 126 = .ok (.aload_n 0, 1) := by decide +kernel
theorem d_Mod_compiles_127 : decode prog_12_method_64_code 127 = .ok (.getfield 94, 3) := by decide +kernel
theorem d_Mod_compiles_130 : decode prog_12_method_64_code 130 = .ok (.iload_n 1, 1) := by decide +kernel
theorem d_Mod_compiles_131 : decode prog_12_method_64_code 131 = .ok (.iaload, 1) := by decide +kernel
theorem d_Mod_compiles_132 : decode prog_12_method_64_code 132 = .ok (.invokevirtual 390, 3) := by decide +kernel
theorem d_Mod_compiles_135 : decode prog_12_method_64_code 135 = .ok (.aload_n 0, 1) := by decide +kernel
theorem d_Mod_compiles_136 : decode prog_12_method_64_code 136 = .ok (.bipush 6, 2) := by decide +kernel
theorem d_Mod_compiles_138 : decode prog_12_method_64_code 138 = .ok (.aload_n 0, 1) := by decide +kernel
theorem d_Mod_compiles_139 : decode prog_12_method_64_code 139 = .ok (.getfield 100, 3) := by decide +kernel
theorem d_Mod_compiles_142 : decode prog_12_method_64_code 142 = .ok (.iload_n 1, 1) := by decide +kernel
theorem d_Mod_compiles_143 : decode prog_12_method_64_code 143 = .ok (.iaload, 1) := by decide +kernel
theorem d_Mod_compiles_144 : decode prog_12_method_64_code 144 = .ok (.invokevirtual 393, 3) := by decide +kernel
theorem d_Mod_compiles_147 : decode prog_12_method_64_code 147 = .ok (.istore_n 2, 1) := by decide +kernel
theorem d_Mod_compiles_148 : decode prog_12_method_64_code 148 = .ok (.aload_n 0, 1) := by decide +kernel
theorem d_Mod_compiles_149 : decode prog_12_method_64_code 149 = .ok (.aload_n 0, 1) := by decide +kernel
theorem d_Mod_compiles_150 : decode prog_12_method_64_code 150 = .ok (.getfield 97, 3) := by decide +kernel
theorem d_Mod_compiles_153 : decode prog_12_method_64_code 153 = .ok (.iload_n 1, 1) := by decide +kernel
theorem d_Mod_compiles_154 : decode prog_12_method_64_code 154 = .ok (.iaload, 1) := by decide +kernel
theorem d_Mod_compiles_155 : decode prog_12_method_64_code 155 = .ok (.invokevirtual 390, 3) := by decide +kernel
theorem d_Mod_compiles_158 : decode prog_12_method_64_code 158 = .ok (.goto 75, 3) := by decide +kernel
theorem d_Mod_compiles_161 : decode prog_12_method_64_code 161 = .ok (.aload_n 0, 1) := by decide +kernel
theorem d_Mod_compiles_162 : decode prog_12_method_64_code 162 = .ok (.aload_n 0, 1) := by decide +kernel
theorem d_Mod_compiles_163 : decode prog_12_method_64_code 163 = .ok (.getfield 94, 3) := by decide +kernel
theorem d_Mod_compiles_166 : decode prog_12_method_64_code 166 = .ok (.iload_n 1, 1) := by decide +kernel
theorem d_Mod_compiles_167 : decode prog_12_method_64_code 167 = .ok (.iaload, 1) := by decide +kernel
theorem d_Mod_compiles_168 : decode prog_12_method_64_code 168 = .ok (.invokevirtual 390, 3) := by decide +kernel
theorem d_Mod_compiles_171 : decode prog_12_method_64_code 171 = .ok (.aload_n 0, 1) := by decide +kernel
theorem d_Mod_compiles_172 : decode prog_12_method_64_code 172 = .ok (.aload_n 0, 1) := by decide +kernel
theorem d_Mod_compiles_173 : decode prog_12_method_64_code 173 = .ok (.getfield 97, 3) := by decide +kernel
theorem d_Mod_compiles_176 : decode prog_12_method_64_code 176 = .ok (.iload_n 1, 1) := by decide +kernel
theorem d_Mod_compiles_177 : decode prog_12_method_64_code 177 = .ok (.iaload, 1) := by decide +kernel
theorem d_Mod_compiles_178 : decode prog_12_method_64_code 178 = .ok (.invokevirtual 390, 3) := by decide +kernel
theorem d_Mod_compiles_181 : decode prog_12_method_64_code 181 = .ok (.aload_n 0, 1) := by decide +kernel
theorem d_Mod_compiles_182 : decode prog_12_method_64_code 182 = .ok (.aload_n 0, 1) := by decide +kernel
theorem d_Mod_compiles_183 : decode prog_12_method_64_code 183 = .ok (.getfield 88, 3) := by decide +kernel
theorem d_Mod_compiles_186 : decode prog_12_method_64_code 186 = .ok (.iload_n 1, 1) := by decide +kernel
theorem d_Mod_compiles_187 : decode prog_12_method_64_code 187 = .ok (.iaload, 1) := by decide +kernel
theorem d_Mod_compiles_188 : decode prog_12_method_64_code 188 = .ok (.aload_n 0, 1) := by decide +kernel
theorem d_Mod_compiles_189 : decode prog_12_method_64_code 189 = .ok (.getfield 103, 3) := by decide +kernel
theorem d_Mod_compiles_192 : decode prog_12_method_64_code 192 = .ok (.iload_n 1, 1) := by decide +kernel
theorem d_Mod_compiles_193 : decode prog_12_method_64_code 193 = .ok (.iaload, 1) := by decide +kernel
theorem d_Mod_compiles_194 : decode prog_12_method_64_code 194 = .ok (.invokevirtual 393, 3) := by decide +kernel
theorem d_Mod_compiles_197 : decode prog_12_method_64_code 197 = .ok (.istore_n 2, 1) := by decide +kernel
theorem d_Mod_compiles_198 : decode prog_12_method_64_code 198 = .ok (.goto 35, 3) := by decide +kernel
theorem d_Mod_compiles_201 : decode prog_12_method_64_code 201 = .ok (.aload_n 0, 1) := by decide +kernel
theorem d_Mod_compiles_202 : decode prog_12_method_64_code 202 = .ok (.iconst 0, 1) := by decide +kernel
theorem d_Mod_compiles_203 : decode prog_12_method_64_code 203 = .ok (.aload_n 0, 1) := by decide +kernel
theorem d_Mod_compiles_204 : decode prog_12_method_64_code 204 = .ok (.getfield 103, 3) := by decide +kernel
theorem d_Mod_compiles_207 : decode prog_12_method_64_code 207 = .ok (.iload_n 1, 1) := by decide +kernel
theorem d_Mod_compiles_208 : decode prog_12_method_64_code 208 = .ok (.iaload, 1) := by decide +kernel
theorem d_Mod_compiles_209 : decode prog_12_method_64_code 209 = .ok (.invokevirtual 393, 3) := by decide +kernel
theorem d_Mod_compiles_212 : decode prog_12_method_64_code 212 = .ok (.istore_n 2, 1) := by decide +kernel
theorem d_Mod_compiles_213 : decode prog_12_method_64_code 213 = .ok (.goto 20, 3) := by decide +kernel
theorem d_Mod_compiles_216 : decode prog_12_method_64_code 216 = .ok (.aload_n 0, 1) := by decide +kernel
theorem d_Mod_compiles_217 : decode prog_12_method_64_code 217 = .ok (.aload_n 0, 1) := by decide +kernel
theorem d_Mod_compiles_218 : decode prog_12_method_64_code 218 = .ok (.getfield 88, 3) := by decide +kernel
theorem d_Mod_compiles_221 : decode prog_12_method_64_code 221 = .ok (.iload_n 1, 1) := by decide +kernel
theorem d_Mod_compiles_222 : decode prog_12_method_64_code 222 = .ok (.iaload, 1) := by decide +kernel
theorem d_Mod_compiles_223 : decode prog_12_method_64_code 223 = .ok (.aload_n 0, 1) := by decide +kernel
theorem d_Mod_compiles_224 : decode prog_12_method_64_code 224 = .ok (.getfield 94, 3) := by decide +kernel
theorem d_Mod_compiles_227 : decode prog_12_method_64_code 227 = .ok (.iload_n 1, 1) := by decide +kernel
theorem d_Mod_compiles_228 : decode prog_12_method_64_code 228 = .ok (.iaload, 1) := by decide +kernel
theorem d_Mod_compiles_229 : decode prog_12_method_64_code 229 = .ok (.invokevirtual 393, 3) := by decide +kernel
theorem d_Mod_compiles_232 : decode prog_12_method_64_code 232 = .ok (.istore_n 2, 1) := by decide +kernel
theorem d_Mod_compiles_233 : decode prog_12_method_64_code 233 = .ok (.return_, 1) := by decide +kernel
def fm_Mod_compiles_b (rc_compiles : Int → fa_W → Option fa_W) (a1 : Int) (w : fa_W) : Option fa_W :=
  (fa_ix a1 101).bind fun j1 =>
  if fa_wr (w 184 j1) = 0 then
  ((fa_ix a1 101).bind fun j3 =>
  fa_bd (fm_Mod_lays 0 (w 188 j3) w) fun v5 w6 =>
  some w6)
  else
  if fa_wr (w 184 j1) = 5 then
  ((fa_ix a1 101).bind fun j8 =>
  (rc_compiles (w 185 j8) w).bind fun w10 =>
  fa_bd (fm_Mod_lays 9 0 w10) fun v12 w13 =>
  (fa_ix a1 101).bind fun j14 =>
  (rc_compiles (w13 186 j14) w13).bind fun w16 =>
  fa_bd (fm_Mod_lays 10 0 w16) fun v18 w19 =>
  (fa_ix v12 500).bind fun j20 =>
  fa_let (fa_st w19 222 j20 (w19 181 68)) fun w21 =>
  (fa_ix a1 101).bind fun j22 =>
  (rc_compiles (w21 187 j22) w21).bind fun w24 =>
  (fa_ix v18 500).bind fun j25 =>
  fa_let (fa_st w24 222 j25 (w24 181 68)) fun w26 =>
  some w26)
  else
  if fa_wr (w 184 j1) = 6 then
  ((fa_ix a1 101).bind fun j28 =>
  (rc_compiles (w 185 j28) w).bind fun w30 =>
  (fa_ix a1 101).bind fun j31 =>
  fa_bd (fm_Mod_lays 6 (w30 187 j31) w30) fun v33 w34 =>
  (fa_ix a1 101).bind fun j35 =>
  (rc_compiles (w34 186 j35) w34).bind fun w37 =>
  some w37)
  else
  if fa_wr (w 184 j1) = 7 then
  ((fa_ix a1 101).bind fun j39 =>
  (rc_compiles (w 185 j39) w).bind fun w41 =>
  (fa_ix a1 101).bind fun j42 =>
  (rc_compiles (w41 186 j42) w41).bind fun w44 =>
  (fa_ix a1 101).bind fun j45 =>
  (fa_ix a1 101).bind fun j46 =>
  fa_bd (fm_Mod_lays (w44 184 j45) (w44 188 j46) w44) fun v48 w49 =>
  some w49)
  else
  if fa_wr (w 184 j1) = 8 then
  ((fa_ix a1 101).bind fun j51 =>
  (rc_compiles (w 185 j51) w).bind fun w53 =>
  (fa_ix a1 101).bind fun j54 =>
  (rc_compiles (w53 186 j54) w53).bind fun w56 =>
  (fa_ix a1 101).bind fun j57 =>
  (fa_ix a1 101).bind fun j58 =>
  fa_bd (fm_Mod_lays (w56 184 j57) (w56 188 j58) w56) fun v60 w61 =>
  some w61)
  else
  ((fa_ix a1 101).bind fun j62 =>
  (fa_ix a1 101).bind fun j63 =>
  fa_bd (fm_Mod_lays (w 184 j62) (w 185 j63) w) fun v65 w66 =>
  some w66)
set_option maxHeartbeats 4000000 in
set_option maxRecDepth 100000 in
theorem c_Mod_compiles_b {l : Launch} {D : va_G} {b : Nat} {aC : Nat → ClassId} {H0 : Heap} {N T : Nat} (hN : fa_NM ≤ N) (hT : fa_TM ≤ T) (dd : Nat) (rc_compiles : Int → fa_W → Option fa_W) (Rrc_compiles : ∀ (a1 : Int) (w : fa_W) (r : fa_W), rc_compiles a1 w = some r → fa_MC l D b aC H0 N T y_Mod_compiles prog_12_method_64_code 4 ((Option.none : Option Jvm.ClassFile.FieldType)) (1 + dd) [.ref (b + 181), .int (fa_I a1)] w (none) r) (a1 : Int)  (w : fa_W) (r : fa_W) (hM : fm_Mod_compiles_b rc_compiles a1 w = some r) : fa_MC l D b aC H0 N T y_Mod_compiles prog_12_method_64_code 4 ((Option.none : Option Jvm.ClassFile.FieldType)) (1 + dd + 1) [.ref (b + 181), .int (fa_I a1)] w (none) r := by
  refine fa_enter (lv := [(0, .ref (b + 181)), (1, .int (fa_I a1))]) (by decide +kernel) (Nat.le_of_ble_eq_true rfl) rfl (fun hh hle hnm X => ?_)
  unfold fm_Mod_compiles_b at hM
  refine g_aload_n X 0 rfl d_Mod_compiles_0 ?_
  refine g_get X ck_10 fo_181 (fn_181 hN) 4 (by decide) wd_1746 rfl (fr_181_4 rfl hT) d_Mod_compiles_1 ?_
  refine g_iload_n X 1 rfl d_Mod_compiles_4 ?_
  obtain ⟨j1, ej1, hM⟩ := fa_ob hM
  refine g_iald X fs_184 (fn_184 hN) ej1 d_Mod_compiles_5 ?_
  by_cases hc2 : fa_wr (w 184 j1) = 0
  · have hM := fa_if_t hM hc2
    refine g_tableIn X 0 201 d_Mod_compiles_6 hc2 (by decide) (by decide) rfl (by decide) ?_
    refine g_aload_n X 0 rfl d_Mod_compiles_201 ?_
    refine g_iconst X d_Mod_compiles_202 ?_
    refine g_aload_n X 0 rfl d_Mod_compiles_203 ?_
    refine g_get X ck_10 fo_181 (fn_181 hN) 8 (by decide) wd_1750 rfl (fr_181_8 rfl hT) d_Mod_compiles_204 ?_
    refine g_iload_n X 1 rfl d_Mod_compiles_207 ?_
    obtain ⟨j3, ej3, hM⟩ := fa_ob hM
    refine g_iald X fs_188 (fn_188 hN) ej3 d_Mod_compiles_208 ?_
    obtain ⟨v5, w6, e4, hM⟩ := fa_obd hM
    refine g_callV_i X ck_10 fo_181 (fn_181 hN) rfl mi_Mod_lays (c_Mod_lays hN hT 0 (w 188 j3) w _ e4) wd_1734 rfl (by omega) (st := []) (Nat.le_of_ble_eq_true rfl) rfl d_Mod_compiles_209 ?_
    refine g_istorec_n X [(2, .int (fa_I v5)), (0, .ref (b + 181)), (1, .int (fa_I a1))] d_Mod_compiles_212 (by decide) rfl ?_
    refine g_goto X 233 d_Mod_compiles_213 (by decide) ?_
    cases hM
    exact g_vret X d_Mod_compiles_233
  have hM := fa_if_f hM hc2
  by_cases hc7 : fa_wr (w 184 j1) = 5
  · have hM := fa_if_t hM hc7
    refine g_tableIn X 5 56 d_Mod_compiles_6 hc7 (by decide) (by decide) rfl (by decide) ?_
    refine g_aload_n X 0 rfl d_Mod_compiles_56 ?_
    refine g_aload_n X 0 rfl d_Mod_compiles_57 ?_
    refine g_get X ck_10 fo_181 (fn_181 hN) 5 (by decide) wd_1747 rfl (fr_181_5 rfl hT) d_Mod_compiles_58 ?_
    refine g_iload_n X 1 rfl d_Mod_compiles_61 ?_
    obtain ⟨j8, ej8, hM⟩ := fa_ob hM
    refine g_iald X fs_185 (fn_185 hN) ej8 d_Mod_compiles_62 ?_
    obtain ⟨w10, e9, hM⟩ := fa_ob hM
    refine g_callV_v X ck_10 fo_181 (fn_181 hN) rfl mi_Mod_compiles (Rrc_compiles (w 185 j8) w _ e9) wd_1730 rfl (by omega) (st := []) (Nat.le_of_ble_eq_true rfl) rfl d_Mod_compiles_63 ?_
    refine g_aload_n X 0 rfl d_Mod_compiles_66 ?_
    refine g_bipush X (by decide) d_Mod_compiles_67 ?_
    refine g_iconst X d_Mod_compiles_69 ?_
    obtain ⟨v12, w13, e11, hM⟩ := fa_obd hM
    refine g_callV_i X ck_10 fo_181 (fn_181 hN) rfl mi_Mod_lays (c_Mod_lays hN hT 9 0 w10 _ e11) wd_1734 rfl (by omega) (st := []) (Nat.le_of_ble_eq_true rfl) rfl d_Mod_compiles_70 ?_
    refine g_istorec_n X [(2, .int (fa_I v12)), (0, .ref (b + 181)), (1, .int (fa_I a1))] d_Mod_compiles_73 (by decide) rfl ?_
    refine g_aload_n X 1 rfl d_Mod_compiles_74 ?_
    refine g_aload_n X 1 rfl d_Mod_compiles_75 ?_
    refine g_get X ck_10 fo_181 (fn_181 hN) 6 (by decide) wd_1748 rfl (fr_181_6 rfl hT) d_Mod_compiles_76 ?_
    refine g_iload_n X 2 rfl d_Mod_compiles_79 ?_
    obtain ⟨j14, ej14, hM⟩ := fa_ob hM
    refine g_iald X fs_186 (fn_186 hN) ej14 d_Mod_compiles_80 ?_
    obtain ⟨w16, e15, hM⟩ := fa_ob hM
    refine g_callV_v X ck_10 fo_181 (fn_181 hN) rfl mi_Mod_compiles (Rrc_compiles (w13 186 j14) w13 _ e15) wd_1730 rfl (by omega) (st := []) (Nat.le_of_ble_eq_true rfl) rfl d_Mod_compiles_81 ?_
    refine g_aload_n X 1 rfl d_Mod_compiles_84 ?_
    refine g_bipush X (by decide) d_Mod_compiles_85 ?_
    refine g_iconst X d_Mod_compiles_87 ?_
    obtain ⟨v18, w19, e17, hM⟩ := fa_obd hM
    refine g_callV_i X ck_10 fo_181 (fn_181 hN) rfl mi_Mod_lays (c_Mod_lays hN hT 10 0 w16 _ e17) wd_1734 rfl (by omega) (st := []) (Nat.le_of_ble_eq_true rfl) rfl d_Mod_compiles_88 ?_
    refine g_istorec_n X [(3, .int (fa_I v18)), (2, .int (fa_I v12)), (0, .ref (b + 181)), (1, .int (fa_I a1))] d_Mod_compiles_91 (by decide) rfl ?_
    refine g_aload_n X 2 rfl d_Mod_compiles_92 ?_
    refine g_get X ck_10 fo_181 (fn_181 hN) 66 (by decide) wd_1807 rfl (fr_181_66 rfl hT) d_Mod_compiles_93 ?_
    refine g_iload_n X 1 rfl d_Mod_compiles_96 ?_
    refine g_aload_n X 2 rfl d_Mod_compiles_97 ?_
    refine g_get X ck_10 fo_181 (fn_181 hN) 68 (by decide) wd_1809 rfl (fa_fvI rfl) d_Mod_compiles_98 ?_
    obtain ⟨j20, ej20, hM⟩ := fa_ob hM
    refine g_iast X fs_222 (fn_222 hN) ej20 d_Mod_compiles_101 (fun w21 ew21 => ?_)
    have hM := fa_let_to hM ew21
    refine g_aload_n X 2 rfl d_Mod_compiles_102 ?_
    refine g_aload_n X 2 rfl d_Mod_compiles_103 ?_
    refine g_get X ck_10 fo_181 (fn_181 hN) 7 (by decide) wd_1749 rfl (fr_181_7 rfl hT) d_Mod_compiles_104 ?_
    refine g_iload_n X 3 rfl d_Mod_compiles_107 ?_
    obtain ⟨j22, ej22, hM⟩ := fa_ob hM
    refine g_iald X fs_187 (fn_187 hN) ej22 d_Mod_compiles_108 ?_
    obtain ⟨w24, e23, hM⟩ := fa_ob hM
    refine g_callV_v X ck_10 fo_181 (fn_181 hN) rfl mi_Mod_compiles (Rrc_compiles (w21 187 j22) w21 _ e23) wd_1730 rfl (by omega) (st := []) (Nat.le_of_ble_eq_true rfl) rfl d_Mod_compiles_109 ?_
    refine g_aload_n X 2 rfl d_Mod_compiles_112 ?_
    refine g_get X ck_10 fo_181 (fn_181 hN) 66 (by decide) wd_1807 rfl (fr_181_66 rfl hT) d_Mod_compiles_113 ?_
    refine g_iload_n X 0 rfl d_Mod_compiles_116 ?_
    refine g_aload_n X 2 rfl d_Mod_compiles_117 ?_
    refine g_get X ck_10 fo_181 (fn_181 hN) 68 (by decide) wd_1809 rfl (fa_fvI rfl) d_Mod_compiles_118 ?_
    obtain ⟨j25, ej25, hM⟩ := fa_ob hM
    refine g_iast X fs_222 (fn_222 hN) ej25 d_Mod_compiles_121 (fun w26 ew26 => ?_)
    have hM := fa_let_to hM ew26
    refine g_goto X 233 d_Mod_compiles_122 (by decide) ?_
    cases hM
    exact g_vret X d_Mod_compiles_233
  have hM := fa_if_f hM hc7
  by_cases hc27 : fa_wr (w 184 j1) = 6
  · have hM := fa_if_t hM hc27
    refine g_tableIn X 6 125 d_Mod_compiles_6 hc27 (by decide) (by decide) rfl (by decide) ?_
    refine g_aload_n X 0 rfl d_Mod_compiles_125 ?_
    refine g_aload_n X 0 rfl d_Mod_compiles_126 ?_
    refine g_get X ck_10 fo_181 (fn_181 hN) 5 (by decide) wd_1747 rfl (fr_181_5 rfl hT) d_Mod_compiles_127 ?_
    refine g_iload_n X 1 rfl d_Mod_compiles_130 ?_
    obtain ⟨j28, ej28, hM⟩ := fa_ob hM
    refine g_iald X fs_185 (fn_185 hN) ej28 d_Mod_compiles_131 ?_
    obtain ⟨w30, e29, hM⟩ := fa_ob hM
    refine g_callV_v X ck_10 fo_181 (fn_181 hN) rfl mi_Mod_compiles (Rrc_compiles (w 185 j28) w _ e29) wd_1730 rfl (by omega) (st := []) (Nat.le_of_ble_eq_true rfl) rfl d_Mod_compiles_132 ?_
    refine g_aload_n X 0 rfl d_Mod_compiles_135 ?_
    refine g_bipush X (by decide) d_Mod_compiles_136 ?_
    refine g_aload_n X 0 rfl d_Mod_compiles_138 ?_
    refine g_get X ck_10 fo_181 (fn_181 hN) 7 (by decide) wd_1749 rfl (fr_181_7 rfl hT) d_Mod_compiles_139 ?_
    refine g_iload_n X 1 rfl d_Mod_compiles_142 ?_
    obtain ⟨j31, ej31, hM⟩ := fa_ob hM
    refine g_iald X fs_187 (fn_187 hN) ej31 d_Mod_compiles_143 ?_
    obtain ⟨v33, w34, e32, hM⟩ := fa_obd hM
    refine g_callV_i X ck_10 fo_181 (fn_181 hN) rfl mi_Mod_lays (c_Mod_lays hN hT 6 (w30 187 j31) w30 _ e32) wd_1734 rfl (by omega) (st := []) (Nat.le_of_ble_eq_true rfl) rfl d_Mod_compiles_144 ?_
    refine g_istorec_n X [(2, .int (fa_I v33)), (0, .ref (b + 181)), (1, .int (fa_I a1))] d_Mod_compiles_147 (by decide) rfl ?_
    refine g_aload_n X 1 rfl d_Mod_compiles_148 ?_
    refine g_aload_n X 1 rfl d_Mod_compiles_149 ?_
    refine g_get X ck_10 fo_181 (fn_181 hN) 6 (by decide) wd_1748 rfl (fr_181_6 rfl hT) d_Mod_compiles_150 ?_
    refine g_iload_n X 2 rfl d_Mod_compiles_153 ?_
    obtain ⟨j35, ej35, hM⟩ := fa_ob hM
    refine g_iald X fs_186 (fn_186 hN) ej35 d_Mod_compiles_154 ?_
    obtain ⟨w37, e36, hM⟩ := fa_ob hM
    refine g_callV_v X ck_10 fo_181 (fn_181 hN) rfl mi_Mod_compiles (Rrc_compiles (w34 186 j35) w34 _ e36) wd_1730 rfl (by omega) (st := []) (Nat.le_of_ble_eq_true rfl) rfl d_Mod_compiles_155 ?_
    refine g_goto X 233 d_Mod_compiles_158 (by decide) ?_
    cases hM
    exact g_vret X d_Mod_compiles_233
  have hM := fa_if_f hM hc27
  by_cases hc38 : fa_wr (w 184 j1) = 7
  · have hM := fa_if_t hM hc38
    refine g_tableIn X 7 161 d_Mod_compiles_6 hc38 (by decide) (by decide) rfl (by decide) ?_
    refine g_aload_n X 0 rfl d_Mod_compiles_161 ?_
    refine g_aload_n X 0 rfl d_Mod_compiles_162 ?_
    refine g_get X ck_10 fo_181 (fn_181 hN) 5 (by decide) wd_1747 rfl (fr_181_5 rfl hT) d_Mod_compiles_163 ?_
    refine g_iload_n X 1 rfl d_Mod_compiles_166 ?_
    obtain ⟨j39, ej39, hM⟩ := fa_ob hM
    refine g_iald X fs_185 (fn_185 hN) ej39 d_Mod_compiles_167 ?_
    obtain ⟨w41, e40, hM⟩ := fa_ob hM
    refine g_callV_v X ck_10 fo_181 (fn_181 hN) rfl mi_Mod_compiles (Rrc_compiles (w 185 j39) w _ e40) wd_1730 rfl (by omega) (st := []) (Nat.le_of_ble_eq_true rfl) rfl d_Mod_compiles_168 ?_
    refine g_aload_n X 0 rfl d_Mod_compiles_171 ?_
    refine g_aload_n X 0 rfl d_Mod_compiles_172 ?_
    refine g_get X ck_10 fo_181 (fn_181 hN) 6 (by decide) wd_1748 rfl (fr_181_6 rfl hT) d_Mod_compiles_173 ?_
    refine g_iload_n X 1 rfl d_Mod_compiles_176 ?_
    obtain ⟨j42, ej42, hM⟩ := fa_ob hM
    refine g_iald X fs_186 (fn_186 hN) ej42 d_Mod_compiles_177 ?_
    obtain ⟨w44, e43, hM⟩ := fa_ob hM
    refine g_callV_v X ck_10 fo_181 (fn_181 hN) rfl mi_Mod_compiles (Rrc_compiles (w41 186 j42) w41 _ e43) wd_1730 rfl (by omega) (st := []) (Nat.le_of_ble_eq_true rfl) rfl d_Mod_compiles_178 ?_
    refine g_aload_n X 0 rfl d_Mod_compiles_181 ?_
    refine g_aload_n X 0 rfl d_Mod_compiles_182 ?_
    refine g_get X ck_10 fo_181 (fn_181 hN) 4 (by decide) wd_1746 rfl (fr_181_4 rfl hT) d_Mod_compiles_183 ?_
    refine g_iload_n X 1 rfl d_Mod_compiles_186 ?_
    obtain ⟨j45, ej45, hM⟩ := fa_ob hM
    refine g_iald X fs_184 (fn_184 hN) ej45 d_Mod_compiles_187 ?_
    refine g_aload_n X 0 rfl d_Mod_compiles_188 ?_
    refine g_get X ck_10 fo_181 (fn_181 hN) 8 (by decide) wd_1750 rfl (fr_181_8 rfl hT) d_Mod_compiles_189 ?_
    refine g_iload_n X 1 rfl d_Mod_compiles_192 ?_
    obtain ⟨j46, ej46, hM⟩ := fa_ob hM
    refine g_iald X fs_188 (fn_188 hN) ej46 d_Mod_compiles_193 ?_
    obtain ⟨v48, w49, e47, hM⟩ := fa_obd hM
    refine g_callV_i X ck_10 fo_181 (fn_181 hN) rfl mi_Mod_lays (c_Mod_lays hN hT (w44 184 j45) (w44 188 j46) w44 _ e47) wd_1734 rfl (by omega) (st := []) (Nat.le_of_ble_eq_true rfl) rfl d_Mod_compiles_194 ?_
    refine g_istorec_n X [(2, .int (fa_I v48)), (0, .ref (b + 181)), (1, .int (fa_I a1))] d_Mod_compiles_197 (by decide) rfl ?_
    refine g_goto X 233 d_Mod_compiles_198 (by decide) ?_
    cases hM
    exact g_vret X d_Mod_compiles_233
  have hM := fa_if_f hM hc38
  by_cases hc50 : fa_wr (w 184 j1) = 8
  · have hM := fa_if_t hM hc50
    refine g_tableIn X 8 161 d_Mod_compiles_6 hc50 (by decide) (by decide) rfl (by decide) ?_
    refine g_aload_n X 0 rfl d_Mod_compiles_161 ?_
    refine g_aload_n X 0 rfl d_Mod_compiles_162 ?_
    refine g_get X ck_10 fo_181 (fn_181 hN) 5 (by decide) wd_1747 rfl (fr_181_5 rfl hT) d_Mod_compiles_163 ?_
    refine g_iload_n X 1 rfl d_Mod_compiles_166 ?_
    obtain ⟨j51, ej51, hM⟩ := fa_ob hM
    refine g_iald X fs_185 (fn_185 hN) ej51 d_Mod_compiles_167 ?_
    obtain ⟨w53, e52, hM⟩ := fa_ob hM
    refine g_callV_v X ck_10 fo_181 (fn_181 hN) rfl mi_Mod_compiles (Rrc_compiles (w 185 j51) w _ e52) wd_1730 rfl (by omega) (st := []) (Nat.le_of_ble_eq_true rfl) rfl d_Mod_compiles_168 ?_
    refine g_aload_n X 0 rfl d_Mod_compiles_171 ?_
    refine g_aload_n X 0 rfl d_Mod_compiles_172 ?_
    refine g_get X ck_10 fo_181 (fn_181 hN) 6 (by decide) wd_1748 rfl (fr_181_6 rfl hT) d_Mod_compiles_173 ?_
    refine g_iload_n X 1 rfl d_Mod_compiles_176 ?_
    obtain ⟨j54, ej54, hM⟩ := fa_ob hM
    refine g_iald X fs_186 (fn_186 hN) ej54 d_Mod_compiles_177 ?_
    obtain ⟨w56, e55, hM⟩ := fa_ob hM
    refine g_callV_v X ck_10 fo_181 (fn_181 hN) rfl mi_Mod_compiles (Rrc_compiles (w53 186 j54) w53 _ e55) wd_1730 rfl (by omega) (st := []) (Nat.le_of_ble_eq_true rfl) rfl d_Mod_compiles_178 ?_
    refine g_aload_n X 0 rfl d_Mod_compiles_181 ?_
    refine g_aload_n X 0 rfl d_Mod_compiles_182 ?_
    refine g_get X ck_10 fo_181 (fn_181 hN) 4 (by decide) wd_1746 rfl (fr_181_4 rfl hT) d_Mod_compiles_183 ?_
    refine g_iload_n X 1 rfl d_Mod_compiles_186 ?_
    obtain ⟨j57, ej57, hM⟩ := fa_ob hM
    refine g_iald X fs_184 (fn_184 hN) ej57 d_Mod_compiles_187 ?_
    refine g_aload_n X 0 rfl d_Mod_compiles_188 ?_
    refine g_get X ck_10 fo_181 (fn_181 hN) 8 (by decide) wd_1750 rfl (fr_181_8 rfl hT) d_Mod_compiles_189 ?_
    refine g_iload_n X 1 rfl d_Mod_compiles_192 ?_
    obtain ⟨j58, ej58, hM⟩ := fa_ob hM
    refine g_iald X fs_188 (fn_188 hN) ej58 d_Mod_compiles_193 ?_
    obtain ⟨v60, w61, e59, hM⟩ := fa_obd hM
    refine g_callV_i X ck_10 fo_181 (fn_181 hN) rfl mi_Mod_lays (c_Mod_lays hN hT (w56 184 j57) (w56 188 j58) w56 _ e59) wd_1734 rfl (by omega) (st := []) (Nat.le_of_ble_eq_true rfl) rfl d_Mod_compiles_194 ?_
    refine g_istorec_n X [(2, .int (fa_I v60)), (0, .ref (b + 181)), (1, .int (fa_I a1))] d_Mod_compiles_197 (by decide) rfl ?_
    refine g_goto X 233 d_Mod_compiles_198 (by decide) ?_
    cases hM
    exact g_vret X d_Mod_compiles_233
  have hM := fa_if_f hM hc50
  refine g_tableDef X 216 d_Mod_compiles_6 (by
    by_cases h9 : fa_wr (w 184 j1) = 1
    · rw [h9]; exact Or.inr ⟨by decide, by decide, _, rfl, by decide⟩
    by_cases h9 : fa_wr (w 184 j1) = 2
    · rw [h9]; exact Or.inr ⟨by decide, by decide, _, rfl, by decide⟩
    by_cases h9 : fa_wr (w 184 j1) = 3
    · rw [h9]; exact Or.inr ⟨by decide, by decide, _, rfl, by decide⟩
    by_cases h9 : fa_wr (w 184 j1) = 4
    · rw [h9]; exact Or.inr ⟨by decide, by decide, _, rfl, by decide⟩
    exact Or.inl (by omega)) (by decide) ?_
  refine g_aload_n X 0 rfl d_Mod_compiles_216 ?_
  refine g_aload_n X 0 rfl d_Mod_compiles_217 ?_
  refine g_get X ck_10 fo_181 (fn_181 hN) 4 (by decide) wd_1746 rfl (fr_181_4 rfl hT) d_Mod_compiles_218 ?_
  refine g_iload_n X 1 rfl d_Mod_compiles_221 ?_
  obtain ⟨j62, ej62, hM⟩ := fa_ob hM
  refine g_iald X fs_184 (fn_184 hN) ej62 d_Mod_compiles_222 ?_
  refine g_aload_n X 0 rfl d_Mod_compiles_223 ?_
  refine g_get X ck_10 fo_181 (fn_181 hN) 5 (by decide) wd_1747 rfl (fr_181_5 rfl hT) d_Mod_compiles_224 ?_
  refine g_iload_n X 1 rfl d_Mod_compiles_227 ?_
  obtain ⟨j63, ej63, hM⟩ := fa_ob hM
  refine g_iald X fs_185 (fn_185 hN) ej63 d_Mod_compiles_228 ?_
  obtain ⟨v65, w66, e64, hM⟩ := fa_obd hM
  refine g_callV_i X ck_10 fo_181 (fn_181 hN) rfl mi_Mod_lays (c_Mod_lays hN hT (w 184 j62) (w 185 j63) w _ e64) wd_1734 rfl (by omega) (st := []) (Nat.le_of_ble_eq_true rfl) rfl d_Mod_compiles_229 ?_
  refine g_istorec_n X [(2, .int (fa_I v65)), (0, .ref (b + 181)), (1, .int (fa_I a1))] d_Mod_compiles_232 (by decide) rfl ?_
  cases hM
  exact g_vret X d_Mod_compiles_233
def fm_Mod_compiles : Nat → Int → fa_W → Option fa_W
  | 0, _, _ => none
  | n + 1, a1, w => fm_Mod_compiles_b (fm_Mod_compiles n) a1 w
set_option maxHeartbeats 4000000 in
set_option maxRecDepth 100000 in
theorem c_Mod_compiles {l : Launch} {D : va_G} {b : Nat} {aC : Nat → ClassId} {H0 : Heap} {N T : Nat} (hN : fa_NM ≤ N) (hT : fa_TM ≤ T) : ∀ (n : Nat) (a1 : Int) (w : fa_W) (r : fa_W), fm_Mod_compiles n a1 w = some r → fa_MC l D b aC H0 N T y_Mod_compiles prog_12_method_64_code 4 ((Option.none : Option Jvm.ClassFile.FieldType)) (1 + n) [.ref (b + 181), .int (fa_I a1)] w (none) r := by
  intro n
  induction n with
  | zero => intro a1 w r hM; exact fa_no hM
  | succ n ih => intro a1 w r hM; exact c_Mod_compiles_b hN hT n (fm_Mod_compiles n) ih a1 w r hM
theorem d_Mod_compilesAll_0 : decode prog_12_method_65_code 0 = .ok (.aload_n 0, 1) := by decide +kernel
theorem d_Mod_compilesAll_1 : decode prog_12_method_65_code 1 = .ok (.iconst 0, 1) := by decide +kernel
theorem d_Mod_compilesAll_2 : decode prog_12_method_65_code 2 = .ok (.putfield 384, 3) := by decide +kernel
theorem d_Mod_compilesAll_5 : decode prog_12_method_65_code 5 = .ok (.iconst 0, 1) := by decide +kernel
theorem d_Mod_compilesAll_6 : decode prog_12_method_65_code 6 = .ok (.istore_n 1, 1) := by decide +kernel
theorem d_Mod_compilesAll_7 : decode prog_12_method_65_code 7 = .ok (.iload_n 1, 1) := by decide +kernel
theorem d_Mod_compilesAll_8 : decode prog_12_method_65_code 8 = .ok (.aload_n 0, 1) := by decide +kernel
theorem d_Mod_compilesAll_9 : decode prog_12_method_65_code 9 = .ok (.invokevirtual 270, 3) := by decide +kernel
theorem d_Mod_compilesAll_12 : decode prog_12_method_65_code 12 = .ok (.if_icmp .gt 52, 3) := by decide +kernel
theorem d_Mod_compilesAll_15 : decode prog_12_method_65_code 15 = .ok (.aload_n 0, 1) := by decide +kernel
theorem d_Mod_compilesAll_16 : decode prog_12_method_65_code 16 = .ok (.getfield 396, 3) := by decide +kernel
theorem d_Mod_compilesAll_19 : decode prog_12_method_65_code 19 = .ok (.iload_n 1, 1) := by decide +kernel
theorem d_Mod_compilesAll_20 : decode prog_12_method_65_code 20 = .ok (.aload_n 0, 1) := by decide +kernel
theorem d_Mod_compilesAll_21 : decode prog_12_method_65_code 21 = .ok (.getfield 384, 3) := by decide +kernel
theorem d_Mod_compilesAll_24 : decode prog_12_method_65_code 24 = .ok (.iastore, 1) := by decide +kernel
theorem d_Mod_compilesAll_25 : decode prog_12_method_65_code 25 = .ok (.aload_n 0, 1) := by decide +kernel
theorem d_Mod_compilesAll_26 : decode prog_12_method_65_code 26 = .ok (.iload_n 1, 1) := by decide +kernel
theorem d_Mod_compilesAll_27 : decode prog_12_method_65_code 27 = .ok (.aload_n 0, 1) := by decide +kernel
theorem d_Mod_compilesAll_28 : decode prog_12_method_65_code 28 = .ok (.invokevirtual 270, 3) := by decide +kernel
theorem d_Mod_compilesAll_31 : decode prog_12_method_65_code 31 = .ok (.if_icmp .ge 12, 3) := by decide +kernel
theorem d_Mod_compilesAll_34 : decode prog_12_method_65_code 34 = .ok (.aload_n 0, 1) := by decide +kernel
theorem d_Mod_compilesAll_35 : decode prog_12_method_65_code 35 = .ok (.getfield 166, 3) := by decide +kernel
theorem d_Mod_compilesAll_38 : decode prog_12_method_65_code 38 = .ok (.iload_n 1, 1) := by decide +kernel
theorem d_Mod_compilesAll_39 : decode prog_12_method_65_code 39 = .ok (.iaload, 1) := by decide +kernel
theorem d_Mod_compilesAll_40 : decode prog_12_method_65_code 40 = .ok (.goto 7, 3) := by decide +kernel
theorem d_Mod_compilesAll_43 : decode prog_12_method_65_code 43 = .ok (.aload_n 0, 1) := by decide +kernel
theorem d_Mod_compilesAll_44 : decode prog_12_method_65_code 44 = .ok (.getfield 218, 3) := by decide +kernel
theorem d_Mod_compilesAll_47 : decode prog_12_method_65_code 47 = .ok (.invokevirtual 390, 3) := by decide +kernel
theorem d_Mod_compilesAll_50 : decode prog_12_method_65_code 50 = .ok (.aload_n 0, 1) := by decide +kernel
theorem d_Mod_compilesAll_51 : decode prog_12_method_65_code 51 = .ok (.bipush 11, 2) := by decide +kernel
theorem d_Mod_compilesAll_53 : decode prog_12_method_65_code 53 = .ok (.iconst 0, 1) := by decide +kernel
theorem d_Mod_compilesAll_54 : decode prog_12_method_65_code 54 = .ok (.invokevirtual 393, 3) := by decide +kernel
theorem d_Mod_compilesAll_57 : decode prog_12_method_65_code 57 = .ok (.istore_n 2, 1) := by decide +kernel
theorem d_Mod_compilesAll_58 : decode prog_12_method_65_code 58 = .ok (.iinc 1 1, 3) := by decide +kernel
theorem d_Mod_compilesAll_61 : decode prog_12_method_65_code 61 = .ok (.goto (-54), 3) := by decide +kernel
theorem d_Mod_compilesAll_64 : decode prog_12_method_65_code 64 = .ok (.return_, 1) := by decide +kernel
def fm_Mod_compilesAll_j47 (k7 : Int → fa_W → Option fa_W) (x1 : Int) (s0 : Int) (w : fa_W) : Option fa_W :=
  (fm_Mod_compiles 900 s0 w).bind fun w9 =>
  fa_bd (fm_Mod_lays 11 0 w9) fun v11 w12 =>
  fa_let (x1 + 1) fun x1_13 =>
  k7 x1_13 w12
set_option maxHeartbeats 4000000 in
set_option maxRecDepth 100000 in
theorem c_Mod_compilesAll_j47 {p : Program} {l : Launch} {e : Env} {s : State} {m : MethodId} {args : Array Value} {below : List Frame} {meth : Method} {c : Code} {hh : Nat} {D : va_G} {b : Nat} {aC : Nat → ClassId} {H0 : Heap} {N T : Nat} (X : fa_GX p s m args meth c prog_12_method_65_code 3 ((Option.none : Option Jvm.ClassFile.FieldType)) y_Mod_compilesAll.cls D b aC) (hle : 902 ≤ hh) (hN : fa_NM ≤ N) (hT : fa_TM ≤ T) {r : fa_W} (k7 : Int → fa_W → Option fa_W) (K7 : ∀ (x1 : Int) (w : fa_W), k7 x1 w = some r → fa_GJ p l e (fa_rm hh) s m args below meth c 0 0 (MQ below (fa_Qc D b aC H0 N T (none) r) args s 0 0 (fun q => b ≤ q)) D b aC H0 N T 3 w 7 [(0, .ref (b + 181)), (1, .int (fa_I x1))] []) : ∀ (x1 : Int) (s0 : Int) (w : fa_W) (_ : fm_Mod_compilesAll_j47 k7 x1 s0 w = some r), fa_GJ p l e (fa_rm hh) s m args below meth c 0 0 (MQ below (fa_Qc D b aC H0 N T (none) r) args s 0 0 (fun q => b ≤ q)) D b aC H0 N T 3 w 47 [(0, .ref (b + 181)), (1, .int (fa_I x1))] [.int (fa_I s0), .ref (b + 181)] := by
  intro x1 s0 w hM
  unfold fm_Mod_compilesAll_j47 at hM
  obtain ⟨w9, e8, hM⟩ := fa_ob hM
  refine g_callV_v X ck_10 fo_181 (fn_181 hN) rfl mi_Mod_compiles (c_Mod_compiles hN hT 900 s0 w _ e8) wd_1730 rfl (Nat.le_trans (Nat.le_of_ble_eq_true rfl) hle) (st := []) (Nat.le_of_ble_eq_true rfl) rfl d_Mod_compilesAll_47 ?_
  refine g_aload_n X 0 rfl d_Mod_compilesAll_50 ?_
  refine g_bipush X (by decide) d_Mod_compilesAll_51 ?_
  refine g_iconst X d_Mod_compilesAll_53 ?_
  obtain ⟨v11, w12, e10, hM⟩ := fa_obd hM
  refine g_callV_i X ck_10 fo_181 (fn_181 hN) rfl mi_Mod_lays (c_Mod_lays hN hT 11 0 w9 _ e10) wd_1734 rfl (Nat.le_trans (Nat.le_of_ble_eq_true rfl) hle) (st := []) (Nat.le_of_ble_eq_true rfl) rfl d_Mod_compilesAll_54 ?_
  refine g_istorec_n X [(2, .int (fa_I v11)), (0, .ref (b + 181)), (1, .int (fa_I x1))] d_Mod_compilesAll_57 (by decide) rfl ?_
  refine g_iinc X 2 (fun x1_13 => [(1, .int (fa_I x1_13)), (2, .int (fa_I v11)), (0, .ref (b + 181))]) d_Mod_compilesAll_58 rfl (by decide) (fun _ => rfl) (fun x1_13 ex1_13 => ?_)
  have hM := fa_let_to hM ex1_13
  refine g_goto X 7 d_Mod_compilesAll_61 (by decide) ?_
  exact g_lv [2, 0] rfl (K7 _ _ hM)
def fm_Mod_compilesAll_l7  : Nat → Int → fa_W → Option fa_W
  | 0, _, _ => none
  | n + 1, x1, w => if fa_wr (fm_Mod_functions w) < fa_wr x1 then
  some w
  else
  ((fa_ix x1 25).bind fun j4 =>
  fa_let (fa_st w 223 j4 (w 181 68)) fun w5 =>
  if fa_wr (fm_Mod_functions w5) ≤ fa_wr x1 then
  fm_Mod_compilesAll_j47 (fun x1 w9 => fm_Mod_compilesAll_l7 n x1 w9) x1 (w5 181 21) w5
  else
  ((fa_ix x1 24).bind fun j14 =>
  fm_Mod_compilesAll_j47 (fun x1 w9 => fm_Mod_compilesAll_l7 n x1 w9) x1 (w5 189 j14) w5))
set_option maxHeartbeats 4000000 in
set_option maxRecDepth 100000 in
theorem c_Mod_compilesAll_l7 {p : Program} {l : Launch} {e : Env} {s : State} {m : MethodId} {args : Array Value} {below : List Frame} {meth : Method} {c : Code} {hh : Nat} {D : va_G} {b : Nat} {aC : Nat → ClassId} {H0 : Heap} {N T : Nat} (X : fa_GX p s m args meth c prog_12_method_65_code 3 ((Option.none : Option Jvm.ClassFile.FieldType)) y_Mod_compilesAll.cls D b aC) (hle : 902 ≤ hh) (hN : fa_NM ≤ N) (hT : fa_TM ≤ T) {r : fa_W}  : ∀ (n : Nat) (x1 : Int) (w : fa_W), fm_Mod_compilesAll_l7 n x1 w = some r → fa_GJ p l e (fa_rm hh) s m args below meth c 0 0 (MQ below (fa_Qc D b aC H0 N T (none) r) args s 0 0 (fun q => b ≤ q)) D b aC H0 N T 3 w 7 [(0, .ref (b + 181)), (1, .int (fa_I x1))] [] := by
  intro n
  induction n with
  | zero => intro x1 w hM; exact fa_no hM
  | succ n ih =>
    intro x1 w hM
    rw [fm_Mod_compilesAll_l7] at hM
    refine g_iload_n X 1 rfl d_Mod_compilesAll_7 ?_
    refine g_aload_n X 0 rfl d_Mod_compilesAll_8 ?_
    refine g_callV_i X ck_10 fo_181 (fn_181 hN) rfl mi_Mod_functions (c_Mod_functions hN hT w _ rfl) wd_1644 rfl (Nat.le_trans (Nat.le_of_ble_eq_true rfl) hle) (st := [.int (fa_I x1)]) (Nat.le_of_ble_eq_true rfl) rfl d_Mod_compilesAll_9 ?_
    refine g_icmp_gt X 64 d_Mod_compilesAll_12 (by decide) (fun hc3 => ?_) (fun hc3 => ?_)
    · have hM := fa_if_t hM hc3
      cases hM
      exact g_vret X d_Mod_compilesAll_64
    · have hM := fa_if_f hM hc3
      refine g_aload_n X 0 rfl d_Mod_compilesAll_15 ?_
      refine g_get X ck_10 fo_181 (fn_181 hN) 67 (by decide) wd_1808 rfl (fr_181_67 rfl hT) d_Mod_compilesAll_16 ?_
      refine g_iload_n X 1 rfl d_Mod_compilesAll_19 ?_
      refine g_aload_n X 0 rfl d_Mod_compilesAll_20 ?_
      refine g_get X ck_10 fo_181 (fn_181 hN) 68 (by decide) wd_1809 rfl (fa_fvI rfl) d_Mod_compilesAll_21 ?_
      obtain ⟨j4, ej4, hM⟩ := fa_ob hM
      refine g_iast X fs_223 (fn_223 hN) ej4 d_Mod_compilesAll_24 (fun w5 ew5 => ?_)
      have hM := fa_let_to hM ew5
      refine g_aload_n X 0 rfl d_Mod_compilesAll_25 ?_
      refine g_iload_n X 1 rfl d_Mod_compilesAll_26 ?_
      refine g_aload_n X 0 rfl d_Mod_compilesAll_27 ?_
      refine g_callV_i X ck_10 fo_181 (fn_181 hN) rfl mi_Mod_functions (c_Mod_functions hN hT w5 _ rfl) wd_1644 rfl (Nat.le_trans (Nat.le_of_ble_eq_true rfl) hle) (st := [.int (fa_I x1), .ref (b + 181)]) (Nat.le_of_ble_eq_true rfl) rfl d_Mod_compilesAll_28 ?_
      refine g_icmp_ge X 43 d_Mod_compilesAll_31 (by decide) (fun hc7 => ?_) (fun hc7 => ?_)
      · have hM := fa_if_t hM hc7
        refine g_aload_n X 0 rfl d_Mod_compilesAll_43 ?_
        refine g_get X ck_10 fo_181 (fn_181 hN) 21 (by decide) wd_1763 rfl (fa_fvI rfl) d_Mod_compilesAll_44 ?_
        exact g_lv [0, 1] rfl (c_Mod_compilesAll_j47 X hle hN hT  (fun x1 w9 => fm_Mod_compilesAll_l7 n x1 w9) (fun _ _ h => ih _ _ h)  _ _ _ hM)
      · have hM := fa_if_f hM hc7
        refine g_aload_n X 0 rfl d_Mod_compilesAll_34 ?_
        refine g_get X ck_10 fo_181 (fn_181 hN) 9 (by decide) wd_1751 rfl (fr_181_9 rfl hT) d_Mod_compilesAll_35 ?_
        refine g_iload_n X 1 rfl d_Mod_compilesAll_38 ?_
        obtain ⟨j14, ej14, hM⟩ := fa_ob hM
        refine g_iald X fs_189 (fn_189 hN) ej14 d_Mod_compilesAll_39 ?_
        refine g_goto X 47 d_Mod_compilesAll_40 (by decide) ?_
        exact g_lv [0, 1] rfl (c_Mod_compilesAll_j47 X hle hN hT  (fun x1 w9 => fm_Mod_compilesAll_l7 n x1 w9) (fun _ _ h => ih _ _ h)  _ _ _ hM)
def fm_Mod_compilesAll (w : fa_W) : Option fa_W :=
  fa_let (fa_st w 181 68 0) fun w1 =>
  fm_Mod_compilesAll_l7 fa_FU 0 w1
set_option maxHeartbeats 4000000 in
set_option maxRecDepth 100000 in
theorem c_Mod_compilesAll {l : Launch} {D : va_G} {b : Nat} {aC : Nat → ClassId} {H0 : Heap} {N T : Nat} (hN : fa_NM ≤ N) (hT : fa_TM ≤ T)   (w : fa_W) (r : fa_W) (hM : fm_Mod_compilesAll w = some r) : fa_MC l D b aC H0 N T y_Mod_compilesAll prog_12_method_65_code 3 ((Option.none : Option Jvm.ClassFile.FieldType)) (902) [.ref (b + 181)] w (none) r := by
  refine fa_enter (lv := [(0, .ref (b + 181))]) (by decide +kernel) (Nat.le_of_ble_eq_true rfl) rfl (fun hh hle hnm X => ?_)
  unfold fm_Mod_compilesAll at hM
  refine g_aload_n X 0 rfl d_Mod_compilesAll_0 ?_
  refine g_iconst X d_Mod_compilesAll_1 ?_
  refine g_put X ck_10 fo_181 (fn_181 hN) 68 (z := 0) (by decide) wd_1809 rfl (fa_fvI' rfl) rfl rfl rfl d_Mod_compilesAll_2 (fun w1 ew1 => ?_)
  have hM := fa_let_to hM ew1
  refine g_iconst X d_Mod_compilesAll_5 ?_
  refine g_istorec_n X [(1, .int (fa_I 0)), (0, .ref (b + 181))] d_Mod_compilesAll_6 (by decide) rfl ?_
  exact g_lv [1, 0] rfl (c_Mod_compilesAll_l7 X hle hN hT   fa_FU _ _ hM)
theorem d_Mod_analyses_0 : decode prog_12_method_66_code 0 = .ok (.aload_n 0, 1) := by decide +kernel
theorem d_Mod_analyses_1 : decode prog_12_method_66_code 1 = .ok (.invokevirtual 399, 3) := by decide +kernel
theorem d_Mod_analyses_4 : decode prog_12_method_66_code 4 = .ok (.iconst 0, 1) := by decide +kernel
theorem d_Mod_analyses_5 : decode prog_12_method_66_code 5 = .ok (.istore_n 1, 1) := by decide +kernel
theorem d_Mod_analyses_6 : decode prog_12_method_66_code 6 = .ok (.iload_n 1, 1) := by decide +kernel
theorem d_Mod_analyses_7 : decode prog_12_method_66_code 7 = .ok (.aload_n 0, 1) := by decide +kernel
theorem d_Mod_analyses_8 : decode prog_12_method_66_code 8 = .ok (.invokevirtual 270, 3) := by decide +kernel
theorem d_Mod_analyses_11 : decode prog_12_method_66_code 11 = .ok (.if_icmp .ge 27, 3) := by decide +kernel
theorem d_Mod_analyses_14 : decode prog_12_method_66_code 14 = .ok (.aload_n 0, 1) := by decide +kernel
theorem d_Mod_analyses_15 : decode prog_12_method_66_code 15 = .ok (.getfield 347, 3) := by decide +kernel
theorem d_Mod_analyses_18 : decode prog_12_method_66_code 18 = .ok (.iload_n 1, 1) := by decide +kernel
theorem d_Mod_analyses_19 : decode prog_12_method_66_code 19 = .ok (.iconst 0, 1) := by decide +kernel
theorem d_Mod_analyses_20 : decode prog_12_method_66_code 20 = .ok (.iastore, 1) := by decide +kernel
theorem d_Mod_analyses_21 : decode prog_12_method_66_code 21 = .ok (.aload_n 0, 1) := by decide +kernel
theorem d_Mod_analyses_22 : decode prog_12_method_66_code 22 = .ok (.iload_n 1, 1) := by decide +kernel
theorem d_Mod_analyses_23 : decode prog_12_method_66_code 23 = .ok (.aload_n 0, 1) := by decide +kernel
theorem d_Mod_analyses_24 : decode prog_12_method_66_code 24 = .ok (.getfield 166, 3) := by decide +kernel
theorem d_Mod_analyses_27 : decode prog_12_method_66_code 27 = .ok (.iload_n 1, 1) := by decide +kernel
theorem d_Mod_analyses_28 : decode prog_12_method_66_code 28 = .ok (.iaload, 1) := by decide +kernel
theorem d_Mod_analyses_29 : decode prog_12_method_66_code 29 = .ok (.invokevirtual 344, 3) := by decide +kernel
theorem d_Mod_analyses_32 : decode prog_12_method_66_code 32 = .ok (.iinc 1 1, 3) := by decide +kernel
theorem d_Mod_analyses_35 : decode prog_12_method_66_code 35 = .ok (.goto (-29), 3) := by decide +kernel
theorem d_Mod_analyses_38 : decode prog_12_method_66_code 38 = .ok (.iconst 0, 1) := by decide +kernel
theorem d_Mod_analyses_39 : decode prog_12_method_66_code 39 = .ok (.istore_n 1, 1) := by decide +kernel
theorem d_Mod_analyses_40 : decode prog_12_method_66_code 40 = .ok (.iload_n 1, 1) := by decide +kernel
theorem d_Mod_analyses_41 : decode prog_12_method_66_code 41 = .ok (.iconst 3, 1) := by decide +kernel
theorem d_Mod_analyses_42 : decode prog_12_method_66_code 42 = .ok (.if_icmp .ge 14, 3) := by decide +kernel
theorem d_Mod_analyses_45 : decode prog_12_method_66_code 45 = .ok (.aload_n 0, 1) := by decide +kernel
theorem d_Mod_analyses_46 : decode prog_12_method_66_code 46 = .ok (.iload_n 1, 1) := by decide +kernel
theorem d_Mod_analyses_47 : decode prog_12_method_66_code 47 = .ok (.invokevirtual 402, 3) := by decide +kernel
theorem d_Mod_analyses_50 : decode prog_12_method_66_code 50 = .ok (.iinc 1 1, 3) := by decide +kernel
theorem d_Mod_analyses_53 : decode prog_12_method_66_code 53 = .ok (.goto (-13), 3) := by decide +kernel
theorem d_Mod_analyses_56 : decode prog_12_method_66_code 56 = .ok (.aload_n 0, 1) := by decide +kernel
theorem d_Mod_analyses_57 : decode prog_12_method_66_code 57 = .ok (.invokevirtual 405, 3) := by decide +kernel
theorem d_Mod_analyses_60 : decode prog_12_method_66_code 60 = .ok (.aload_n 0, 1) := by decide +kernel
theorem d_Mod_analyses_61 : decode prog_12_method_66_code 61 = .ok (.invokevirtual 408, 3) := by decide +kernel
theorem d_Mod_analyses_64 : decode prog_12_method_66_code 64 = .ok (.return_, 1) := by decide +kernel
def fm_Mod_analyses_l40  : Nat → Int → fa_W → Option fa_W
  | 0, _, _ => none
  | n + 1, x1, w => if 3 ≤ fa_wr x1 then
  ((fm_Mod_laysRings w).bind fun w7 =>
  (fm_Mod_compilesAll w7).bind fun w9 =>
  some w9)
  else
  ((fm_Mod_laysGroups x1 w).bind fun w11 =>
  fa_let (x1 + 1) fun x1_12 =>
  fm_Mod_analyses_l40 n x1_12 w11)
set_option maxHeartbeats 4000000 in
set_option maxRecDepth 100000 in
theorem c_Mod_analyses_l40 {p : Program} {l : Launch} {e : Env} {s : State} {m : MethodId} {args : Array Value} {below : List Frame} {meth : Method} {c : Code} {hh : Nat} {D : va_G} {b : Nat} {aC : Nat → ClassId} {H0 : Heap} {N T : Nat} (X : fa_GX p s m args meth c prog_12_method_66_code 2 ((Option.none : Option Jvm.ClassFile.FieldType)) y_Mod_analyses.cls D b aC) (hle : 905 ≤ hh) (hN : fa_NM ≤ N) (hT : fa_TM ≤ T) {r : fa_W}  : ∀ (n : Nat) (x1 : Int) (w : fa_W), fm_Mod_analyses_l40 n x1 w = some r → fa_GJ p l e (fa_rm hh) s m args below meth c 0 0 (MQ below (fa_Qc D b aC H0 N T (none) r) args s 0 0 (fun q => b ≤ q)) D b aC H0 N T 2 w 40 [(0, .ref (b + 181)), (1, .int (fa_I x1))] [] := by
  intro n
  induction n with
  | zero => intro x1 w hM; exact fa_no hM
  | succ n ih =>
    intro x1 w hM
    rw [fm_Mod_analyses_l40] at hM
    refine g_iload_n X 1 rfl d_Mod_analyses_40 ?_
    refine g_iconst X d_Mod_analyses_41 ?_
    refine g_icmp_ge X 56 d_Mod_analyses_42 (by decide) (fun hc5 => ?_) (fun hc5 => ?_)
    · have hM := fa_if_t hM hc5
      refine g_aload_n X 0 rfl d_Mod_analyses_56 ?_
      obtain ⟨w7, e6, hM⟩ := fa_ob hM
      refine g_callV_v X ck_10 fo_181 (fn_181 hN) rfl mi_Mod_laysRings (c_Mod_laysRings hN hT w _ e6) wd_1722 rfl (Nat.le_trans (Nat.le_of_ble_eq_true rfl) hle) (st := []) (Nat.le_of_ble_eq_true rfl) rfl d_Mod_analyses_57 ?_
      refine g_aload_n X 0 rfl d_Mod_analyses_60 ?_
      obtain ⟨w9, e8, hM⟩ := fa_ob hM
      refine g_callV_v X ck_10 fo_181 (fn_181 hN) rfl mi_Mod_compilesAll (c_Mod_compilesAll hN hT w7 _ e8) wd_1726 rfl (Nat.le_trans (Nat.le_of_ble_eq_true rfl) hle) (st := []) (Nat.le_of_ble_eq_true rfl) rfl d_Mod_analyses_61 ?_
      cases hM
      exact g_vret X d_Mod_analyses_64
    · have hM := fa_if_f hM hc5
      refine g_aload_n X 0 rfl d_Mod_analyses_45 ?_
      refine g_iload_n X 1 rfl d_Mod_analyses_46 ?_
      obtain ⟨w11, e10, hM⟩ := fa_ob hM
      refine g_callV_v X ck_10 fo_181 (fn_181 hN) rfl mi_Mod_laysGroups (c_Mod_laysGroups hN hT x1 w _ e10) wd_1706 rfl (Nat.le_trans (Nat.le_of_ble_eq_true rfl) hle) (st := []) (Nat.le_of_ble_eq_true rfl) rfl d_Mod_analyses_47 ?_
      refine g_iinc X 1 (fun x1_12 => [(1, .int (fa_I x1_12)), (0, .ref (b + 181))]) d_Mod_analyses_50 rfl (by decide) (fun _ => rfl) (fun x1_12 ex1_12 => ?_)
      have hM := fa_let_to hM ex1_12
      refine g_goto X 40 d_Mod_analyses_53 (by decide) ?_
      exact g_lv [1, 0] rfl (ih _ _ hM)
def fm_Mod_analyses_l6  : Nat → Int → fa_W → Option fa_W
  | 0, _, _ => none
  | n + 1, x1, w => if fa_wr (fm_Mod_functions w) ≤ fa_wr x1 then
  fm_Mod_analyses_l40 fa_FU 0 w
  else
  ((fa_ix x1 24).bind fun j13 =>
  fa_let (fa_st w 214 j13 0) fun w14 =>
  (fa_ix x1 24).bind fun j15 =>
  (fm_Mod_collects 900 x1 (w14 189 j15) w14).bind fun w17 =>
  fa_let (x1 + 1) fun x1_18 =>
  fm_Mod_analyses_l6 n x1_18 w17)
set_option maxHeartbeats 4000000 in
set_option maxRecDepth 100000 in
theorem c_Mod_analyses_l6 {p : Program} {l : Launch} {e : Env} {s : State} {m : MethodId} {args : Array Value} {below : List Frame} {meth : Method} {c : Code} {hh : Nat} {D : va_G} {b : Nat} {aC : Nat → ClassId} {H0 : Heap} {N T : Nat} (X : fa_GX p s m args meth c prog_12_method_66_code 2 ((Option.none : Option Jvm.ClassFile.FieldType)) y_Mod_analyses.cls D b aC) (hle : 905 ≤ hh) (hN : fa_NM ≤ N) (hT : fa_TM ≤ T) {r : fa_W}  : ∀ (n : Nat) (x1 : Int) (w : fa_W), fm_Mod_analyses_l6 n x1 w = some r → fa_GJ p l e (fa_rm hh) s m args below meth c 0 0 (MQ below (fa_Qc D b aC H0 N T (none) r) args s 0 0 (fun q => b ≤ q)) D b aC H0 N T 2 w 6 [(0, .ref (b + 181)), (1, .int (fa_I x1))] [] := by
  intro n
  induction n with
  | zero => intro x1 w hM; exact fa_no hM
  | succ n ih =>
    intro x1 w hM
    rw [fm_Mod_analyses_l6] at hM
    refine g_iload_n X 1 rfl d_Mod_analyses_6 ?_
    refine g_aload_n X 0 rfl d_Mod_analyses_7 ?_
    refine g_callV_i X ck_10 fo_181 (fn_181 hN) rfl mi_Mod_functions (c_Mod_functions hN hT w _ rfl) wd_1644 rfl (Nat.le_trans (Nat.le_of_ble_eq_true rfl) hle) (st := [.int (fa_I x1)]) (Nat.le_of_ble_eq_true rfl) rfl d_Mod_analyses_8 ?_
    refine g_icmp_ge X 38 d_Mod_analyses_11 (by decide) (fun hc4 => ?_) (fun hc4 => ?_)
    · have hM := fa_if_t hM hc4
      refine g_iconst X d_Mod_analyses_38 ?_
      refine g_istorec_n X [(1, .int (fa_I 0)), (0, .ref (b + 181))] d_Mod_analyses_39 (by decide) rfl ?_
      exact g_lv [1, 0] rfl (c_Mod_analyses_l40 X hle hN hT   fa_FU _ _ hM)
    · have hM := fa_if_f hM hc4
      refine g_aload_n X 0 rfl d_Mod_analyses_14 ?_
      refine g_get X ck_10 fo_181 (fn_181 hN) 57 (by decide) wd_1798 rfl (fr_181_57 rfl hT) d_Mod_analyses_15 ?_
      refine g_iload_n X 1 rfl d_Mod_analyses_18 ?_
      refine g_iconst X d_Mod_analyses_19 ?_
      obtain ⟨j13, ej13, hM⟩ := fa_ob hM
      refine g_iast X fs_214 (fn_214 hN) ej13 d_Mod_analyses_20 (fun w14 ew14 => ?_)
      have hM := fa_let_to hM ew14
      refine g_aload_n X 0 rfl d_Mod_analyses_21 ?_
      refine g_iload_n X 1 rfl d_Mod_analyses_22 ?_
      refine g_aload_n X 0 rfl d_Mod_analyses_23 ?_
      refine g_get X ck_10 fo_181 (fn_181 hN) 9 (by decide) wd_1751 rfl (fr_181_9 rfl hT) d_Mod_analyses_24 ?_
      refine g_iload_n X 1 rfl d_Mod_analyses_27 ?_
      obtain ⟨j15, ej15, hM⟩ := fa_ob hM
      refine g_iald X fs_189 (fn_189 hN) ej15 d_Mod_analyses_28 ?_
      obtain ⟨w17, e16, hM⟩ := fa_ob hM
      refine g_callV_v X ck_10 fo_181 (fn_181 hN) rfl mi_Mod_collects (c_Mod_collects hN hT 900 x1 (w14 189 j15) w14 _ e16) wd_1694 rfl (Nat.le_trans (Nat.le_of_ble_eq_true rfl) hle) (st := []) (Nat.le_of_ble_eq_true rfl) rfl d_Mod_analyses_29 ?_
      refine g_iinc X 1 (fun x1_18 => [(1, .int (fa_I x1_18)), (0, .ref (b + 181))]) d_Mod_analyses_32 rfl (by decide) (fun _ => rfl) (fun x1_18 ex1_18 => ?_)
      have hM := fa_let_to hM ex1_18
      refine g_goto X 6 d_Mod_analyses_35 (by decide) ?_
      exact g_lv [1, 0] rfl (ih _ _ hM)
def fm_Mod_analyses (w : fa_W) : Option fa_W :=
  (fm_Mod_comesAll w).bind fun w2 =>
  fm_Mod_analyses_l6 fa_FU 0 w2
set_option maxHeartbeats 4000000 in
set_option maxRecDepth 100000 in
theorem c_Mod_analyses {l : Launch} {D : va_G} {b : Nat} {aC : Nat → ClassId} {H0 : Heap} {N T : Nat} (hN : fa_NM ≤ N) (hT : fa_TM ≤ T)   (w : fa_W) (r : fa_W) (hM : fm_Mod_analyses w = some r) : fa_MC l D b aC H0 N T y_Mod_analyses prog_12_method_66_code 2 ((Option.none : Option Jvm.ClassFile.FieldType)) (905) [.ref (b + 181)] w (none) r := by
  refine fa_enter (lv := [(0, .ref (b + 181))]) (by decide +kernel) (Nat.le_of_ble_eq_true rfl) rfl (fun hh hle hnm X => ?_)
  unfold fm_Mod_analyses at hM
  refine g_aload_n X 0 rfl d_Mod_analyses_0 ?_
  obtain ⟨w2, e1, hM⟩ := fa_ob hM
  refine g_callV_v X ck_10 fo_181 (fn_181 hN) rfl mi_Mod_comesAll (c_Mod_comesAll hN hT w _ e1) wd_1672 rfl (Nat.le_trans (Nat.le_of_ble_eq_true rfl) hle) (st := []) (Nat.le_of_ble_eq_true rfl) rfl d_Mod_analyses_1 ?_
  refine g_iconst X d_Mod_analyses_4 ?_
  refine g_istorec_n X [(1, .int (fa_I 0)), (0, .ref (b + 181))] d_Mod_analyses_5 (by decide) rfl ?_
  exact g_lv [1, 0] rfl (c_Mod_analyses_l6 X hle hN hT   fa_FU _ _ hM)
theorem d_Mod_readsAll_0 : decode prog_12_method_68_code 0 = .ok (.aload_n 0, 1) := by decide +kernel
theorem d_Mod_readsAll_1 : decode prog_12_method_68_code 1 = .ok (.iload_n 1, 1) := by decide +kernel
theorem d_Mod_readsAll_2 : decode prog_12_method_68_code 2 = .ok (.putfield 112, 3) := by decide +kernel
theorem d_Mod_readsAll_5 : decode prog_12_method_68_code 5 = .ok (.aload_n 0, 1) := by decide +kernel
theorem d_Mod_readsAll_6 : decode prog_12_method_68_code 6 = .ok (.invokevirtual 470, 3) := by decide +kernel
theorem d_Mod_readsAll_9 : decode prog_12_method_68_code 9 = .ok (.ifCond .ne 5, 3) := by decide +kernel
theorem d_Mod_readsAll_12 : decode prog_12_method_68_code 12 = .ok (.iconst 0, 1) := by decide +kernel
theorem d_Mod_readsAll_13 : decode prog_12_method_68_code 13 = .ok (.ireturn, 1) := by decide +kernel
theorem d_Mod_readsAll_14 : decode prog_12_method_68_code 14 = .ok (.aload_n 0, 1) := by decide +kernel
theorem d_Mod_readsAll_15 : decode prog_12_method_68_code 15 = .ok (.invokevirtual 473, 3) := by decide +kernel
theorem d_Mod_readsAll_18 : decode prog_12_method_68_code 18 = .ok (.aload_n 0, 1) := by decide +kernel
theorem d_Mod_readsAll_19 : decode prog_12_method_68_code 19 = .ok (.getfield 251, 3) := by decide +kernel
theorem d_Mod_readsAll_22 : decode prog_12_method_68_code 22 = .ok (.ifCond .eq 7, 3) := by decide +kernel
theorem d_Mod_readsAll_25 : decode prog_12_method_68_code 25 = .ok (.aload_n 0, 1) := by decide +kernel
theorem d_Mod_readsAll_26 : decode prog_12_method_68_code 26 = .ok (.invokevirtual 476, 3) := by decide +kernel
theorem d_Mod_readsAll_29 : decode prog_12_method_68_code 29 = .ok (.aload_n 0, 1) := by decide +kernel
theorem d_Mod_readsAll_30 : decode prog_12_method_68_code 30 = .ok (.getfield 251, 3) := by decide +kernel
theorem d_Mod_readsAll_33 : decode prog_12_method_68_code 33 = .ok (.ireturn, 1) := by decide +kernel
def fm_Mod_readsAll_j29 (a1 : Bool) (w : fa_W) : Option (Bool × fa_W) :=
  some (decide (w 181 44 ≠ 0), w)
set_option maxHeartbeats 4000000 in
set_option maxRecDepth 100000 in
theorem c_Mod_readsAll_j29 {p : Program} {l : Launch} {e : Env} {s : State} {m : MethodId} {args : Array Value} {below : List Frame} {meth : Method} {c : Code} {hh : Nat} {D : va_G} {b : Nat} {aC : Nat → ClassId} {H0 : Heap} {N T : Nat} (X : fa_GX p s m args meth c prog_12_method_68_code 2 ((Option.some Jvm.ClassFile.FieldType.boolean)) y_Mod_readsAll.cls D b aC) (hle : 908 ≤ hh) (hN : fa_NM ≤ N) (hT : fa_TM ≤ T) (a1 : Bool) {r : Bool × fa_W}  : ∀ (w : fa_W) (_ : fm_Mod_readsAll_j29 a1 w = some r), fa_GJ p l e (fa_rm hh) s m args below meth c 0 0 (MQ below (fa_Qc D b aC H0 N T (some (.int (fa_I (fa_bi r.1)))) r.2) args s 0 0 (fun q => b ≤ q)) D b aC H0 N T 2 w 29 [(0, .ref (b + 181))] [] := by
  intro w hM
  unfold fm_Mod_readsAll_j29 at hM
  refine g_aload_n X 0 rfl d_Mod_readsAll_29 ?_
  refine g_get X ck_10 fo_181 (fn_181 hN) 44 (by decide) wd_1785 rfl (fa_fvB rfl) d_Mod_readsAll_30 ?_
  cases hM
  exact g_zret X rfl d_Mod_readsAll_33
def fm_Mod_readsAll (a1 : Bool) (w : fa_W) : Option (Bool × fa_W) :=
  fa_let (fa_st w 181 31 (fa_bi a1)) fun w1 =>
  fa_bd (fm_Mod_reads w1) fun v3 w4 =>
  if v3 = true then
  ((fm_Mod_typesAll w4).bind fun w7 =>
  if decide (w7 181 44 ≠ 0) = true then
  ((fm_Mod_analyses w7).bind fun w10 =>
  fm_Mod_readsAll_j29 a1 w10)
  else
  fm_Mod_readsAll_j29 a1 w7)
  else
  some (false, w4)
set_option maxHeartbeats 4000000 in
set_option maxRecDepth 100000 in
theorem c_Mod_readsAll {l : Launch} {D : va_G} {b : Nat} {aC : Nat → ClassId} {H0 : Heap} {N T : Nat} (hN : fa_NM ≤ N) (hT : fa_TM ≤ T) (a1 : Bool)  (w : fa_W) (r : Bool × fa_W) (hM : fm_Mod_readsAll a1 w = some r) : fa_MC l D b aC H0 N T y_Mod_readsAll prog_12_method_68_code 2 ((Option.some Jvm.ClassFile.FieldType.boolean)) (908) [.ref (b + 181), .int (fa_I (fa_bi a1))] w (some (.int (fa_I (fa_bi r.1)))) r.2 := by
  refine fa_enter (lv := [(0, .ref (b + 181)), (1, .int (fa_I (fa_bi a1)))]) (by decide +kernel) (Nat.le_of_ble_eq_true rfl) rfl (fun hh hle hnm X => ?_)
  unfold fm_Mod_readsAll at hM
  refine g_aload_n X 0 rfl d_Mod_readsAll_0 ?_
  refine g_iload_n X 1 rfl d_Mod_readsAll_1 ?_
  refine g_put X ck_10 fo_181 (fn_181 hN) 31 (z := (fa_bi a1)) (by decide) wd_1772 rfl (fa_fvB' rfl) rfl (fa_nb a1).1 (fa_nb a1).2 d_Mod_readsAll_2 (fun w1 ew1 => ?_)
  have hM := fa_let_to hM ew1
  refine g_aload_n X 0 rfl d_Mod_readsAll_5 ?_
  obtain ⟨v3, w4, e2, hM⟩ := fa_obd hM
  refine g_callV_i X ck_10 fo_181 (fn_181 hN) rfl mi_Mod_reads (c_Mod_reads hN hT w1 _ e2) wd_1490 rfl (Nat.le_trans (Nat.le_of_ble_eq_true rfl) hle) (st := []) (Nat.le_of_ble_eq_true rfl) rfl d_Mod_readsAll_6 ?_
  refine g_ifb_ne X 14 d_Mod_readsAll_9 (by decide) (fun hc5 => ?_) (fun hc5 => ?_)
  · have hM := fa_ifb_t hM hc5
    refine g_aload_n X 0 rfl d_Mod_readsAll_14 ?_
    obtain ⟨w7, e6, hM⟩ := fa_ob hM
    refine g_callV_v X ck_10 fo_181 (fn_181 hN) rfl mi_Mod_typesAll (c_Mod_typesAll hN hT w4 _ e6) wd_1632 rfl (Nat.le_trans (Nat.le_of_ble_eq_true rfl) hle) (st := []) (Nat.le_of_ble_eq_true rfl) rfl d_Mod_readsAll_15 ?_
    refine g_aload_n X 0 rfl d_Mod_readsAll_18 ?_
    refine g_get X ck_10 fo_181 (fn_181 hN) 44 (by decide) wd_1785 rfl (fa_fvB rfl) d_Mod_readsAll_19 ?_
    refine g_ifb_eq X 29 d_Mod_readsAll_22 (by decide) (fun hc8 => ?_) (fun hc8 => ?_)
    · have hM := fa_ifb_f hM hc8
      exact g_lv [0] rfl (c_Mod_readsAll_j29 X hle hN hT a1    _ hM)
    · have hM := fa_ifb_t hM hc8
      refine g_aload_n X 0 rfl d_Mod_readsAll_25 ?_
      obtain ⟨w10, e9, hM⟩ := fa_ob hM
      refine g_callV_v X ck_10 fo_181 (fn_181 hN) rfl mi_Mod_analyses (c_Mod_analyses hN hT w7 _ e9) wd_1668 rfl (Nat.le_trans (Nat.le_of_ble_eq_true rfl) hle) (st := []) (Nat.le_of_ble_eq_true rfl) rfl d_Mod_readsAll_26 ?_
      exact g_lv [0] rfl (c_Mod_readsAll_j29 X hle hN hT a1    _ hM)
  · have hM := fa_ifb_f hM hc5
    refine g_iconst X d_Mod_readsAll_12 ?_
    cases hM
    exact g_zret X rfl d_Mod_readsAll_13
theorem d_Mod_keeps_0 : decode prog_12_method_69_code 0 = .ok (.aload_n 0, 1) := by decide +kernel
theorem d_Mod_keeps_1 : decode prog_12_method_69_code 1 = .ok (.aload_n 0, 1) := by decide +kernel
theorem d_Mod_keeps_2 : decode prog_12_method_69_code 2 = .ok (.getfield 21, 3) := by decide +kernel
theorem d_Mod_keeps_5 : decode prog_12_method_69_code 5 = .ok (.putfield 479, 3) := by decide +kernel
theorem d_Mod_keeps_8 : decode prog_12_method_69_code 8 = .ok (.iconst 0, 1) := by decide +kernel
theorem d_Mod_keeps_9 : decode prog_12_method_69_code 9 = .ok (.istore_n 1, 1) := by decide +kernel
theorem d_Mod_keeps_10 : decode prog_12_method_69_code 10 = .ok (.iload_n 1, 1) := by decide +kernel
theorem d_Mod_keeps_11 : decode prog_12_method_69_code 11 = .ok (.aload_n 0, 1) := by decide +kernel
theorem d_Mod_keeps_12 : decode prog_12_method_69_code 12 = .ok (.getfield 21, 3) := by decide +kernel
theorem d_Mod_keeps_15 : decode prog_12_method_69_code 15 = .ok (.if_icmp .ge 21, 3) := by decide +kernel
theorem d_Mod_keeps_18 : decode prog_12_method_69_code 18 = .ok (.aload_n 0, 1) := by decide +kernel
theorem d_Mod_keeps_19 : decode prog_12_method_69_code 19 = .ok (.getfield 423, 3) := by decide +kernel
theorem d_Mod_keeps_22 : decode prog_12_method_69_code 22 = .ok (.iload_n 1, 1) := by decide +kernel
theorem d_Mod_keeps_23 : decode prog_12_method_69_code 23 = .ok (.aload_n 0, 1) := by decide +kernel
theorem d_Mod_keeps_24 : decode prog_12_method_69_code 24 = .ok (.getfield 24, 3) := by decide +kernel
theorem d_Mod_keeps_27 : decode prog_12_method_69_code 27 = .ok (.iload_n 1, 1) := by decide +kernel
theorem d_Mod_keeps_28 : decode prog_12_method_69_code 28 = .ok (.baload, 1) := by decide +kernel
theorem d_Mod_keeps_29 : decode prog_12_method_69_code 29 = .ok (.bastore, 1) := by decide +kernel
theorem d_Mod_keeps_30 : decode prog_12_method_69_code 30 = .ok (.iinc 1 1, 3) := by decide +kernel
theorem d_Mod_keeps_33 : decode prog_12_method_69_code 33 = .ok (.goto (-23), 3) := by decide +kernel
theorem d_Mod_keeps_36 : decode prog_12_method_69_code 36 = .ok (.aload_n 0, 1) := by decide +kernel
theorem d_Mod_keeps_37 : decode prog_12_method_69_code 37 = .ok (.iconst 0, 1) := by decide +kernel
theorem d_Mod_keeps_38 : decode prog_12_method_69_code 38 = .ok (.putfield 482, 3) := by decide +kernel
theorem d_Mod_keeps_41 : decode prog_12_method_69_code 41 = .ok (.return_, 1) := by decide +kernel
def fm_Mod_keeps_l10  : Nat → Int → fa_W → Option fa_W
  | 0, _, _ => none
  | n + 1, x1, w => if fa_wr (w 181 25) ≤ fa_wr x1 then
  (fa_let (fa_st w 181 70 0) fun w3 =>
  some w3)
  else
  ((fa_ix x1 40000).bind fun j4 =>
  (fa_ix x1 40000).bind fun j5 =>
  fa_let (fa_st w 224 j5 (fa_i2b (w 196 j4))) fun w6 =>
  fa_let (x1 + 1) fun x1_7 =>
  fm_Mod_keeps_l10 n x1_7 w6)
set_option maxHeartbeats 4000000 in
set_option maxRecDepth 100000 in
theorem c_Mod_keeps_l10 {p : Program} {l : Launch} {e : Env} {s : State} {m : MethodId} {args : Array Value} {below : List Frame} {meth : Method} {c : Code} {hh : Nat} {D : va_G} {b : Nat} {aC : Nat → ClassId} {H0 : Heap} {N T : Nat} (X : fa_GX p s m args meth c prog_12_method_69_code 2 ((Option.none : Option Jvm.ClassFile.FieldType)) y_Mod_keeps.cls D b aC) (hle : 0 ≤ hh) (hN : fa_NM ≤ N) (hT : fa_TM ≤ T) {r : fa_W}  : ∀ (n : Nat) (x1 : Int) (w : fa_W), fm_Mod_keeps_l10 n x1 w = some r → fa_GJ p l e (fa_rm hh) s m args below meth c 0 0 (MQ below (fa_Qc D b aC H0 N T (none) r) args s 0 0 (fun q => b ≤ q)) D b aC H0 N T 2 w 10 [(0, .ref (b + 181)), (1, .int (fa_I x1))] [] := by
  intro n
  induction n with
  | zero => intro x1 w hM; exact fa_no hM
  | succ n ih =>
    intro x1 w hM
    rw [fm_Mod_keeps_l10] at hM
    refine g_iload_n X 1 rfl d_Mod_keeps_10 ?_
    refine g_aload_n X 0 rfl d_Mod_keeps_11 ?_
    refine g_get X ck_10 fo_181 (fn_181 hN) 25 (by decide) wd_1766 rfl (fa_fvI rfl) d_Mod_keeps_12 ?_
    refine g_icmp_ge X 36 d_Mod_keeps_15 (by decide) (fun hc2 => ?_) (fun hc2 => ?_)
    · have hM := fa_if_t hM hc2
      refine g_aload_n X 0 rfl d_Mod_keeps_36 ?_
      refine g_iconst X d_Mod_keeps_37 ?_
      refine g_put X ck_10 fo_181 (fn_181 hN) 70 (z := 0) (by decide) wd_1811 rfl (fa_fvI' rfl) rfl rfl rfl d_Mod_keeps_38 (fun w3 ew3 => ?_)
      have hM := fa_let_to hM ew3
      cases hM
      exact g_vret X d_Mod_keeps_41
    · have hM := fa_if_f hM hc2
      refine g_aload_n X 0 rfl d_Mod_keeps_18 ?_
      refine g_get X ck_10 fo_181 (fn_181 hN) 71 (by decide) wd_1812 rfl (fr_181_71 rfl hT) d_Mod_keeps_19 ?_
      refine g_iload_n X 1 rfl d_Mod_keeps_22 ?_
      refine g_aload_n X 0 rfl d_Mod_keeps_23 ?_
      refine g_get X ck_10 fo_181 (fn_181 hN) 22 (by decide) wd_1764 rfl (fr_181_22 rfl hT) d_Mod_keeps_24 ?_
      refine g_iload_n X 1 rfl d_Mod_keeps_27 ?_
      obtain ⟨j4, ej4, hM⟩ := fa_ob hM
      refine g_bald X fs_196 (fn_196 hN) ej4 d_Mod_keeps_28 ?_
      obtain ⟨j5, ej5, hM⟩ := fa_ob hM
      refine g_bast X fs_224 (fn_224 hN) ej5 d_Mod_keeps_29 (fun w6 ew6 => ?_)
      have hM := fa_let_to hM ew6
      refine g_iinc X 1 (fun x1_7 => [(1, .int (fa_I x1_7)), (0, .ref (b + 181))]) d_Mod_keeps_30 rfl (by decide) (fun _ => rfl) (fun x1_7 ex1_7 => ?_)
      have hM := fa_let_to hM ex1_7
      refine g_goto X 10 d_Mod_keeps_33 (by decide) ?_
      exact g_lv [1, 0] rfl (ih _ _ hM)
def fm_Mod_keeps (w : fa_W) : Option fa_W :=
  fa_let (fa_st w 181 72 (w 181 25)) fun w1 =>
  fm_Mod_keeps_l10 fa_FU 0 w1
set_option maxHeartbeats 4000000 in
set_option maxRecDepth 100000 in
theorem c_Mod_keeps {l : Launch} {D : va_G} {b : Nat} {aC : Nat → ClassId} {H0 : Heap} {N T : Nat} (hN : fa_NM ≤ N) (hT : fa_TM ≤ T)   (w : fa_W) (r : fa_W) (hM : fm_Mod_keeps w = some r) : fa_MC l D b aC H0 N T y_Mod_keeps prog_12_method_69_code 2 ((Option.none : Option Jvm.ClassFile.FieldType)) (0) [.ref (b + 181)] w (none) r := by
  refine fa_enter (lv := [(0, .ref (b + 181))]) (by decide +kernel) (Nat.le_of_ble_eq_true rfl) rfl (fun hh hle hnm X => ?_)
  unfold fm_Mod_keeps at hM
  refine g_aload_n X 0 rfl d_Mod_keeps_0 ?_
  refine g_aload_n X 0 rfl d_Mod_keeps_1 ?_
  refine g_get X ck_10 fo_181 (fn_181 hN) 25 (by decide) wd_1766 rfl (fa_fvI rfl) d_Mod_keeps_2 ?_
  refine g_put X ck_10 fo_181 (fn_181 hN) 72 (z := (w 181 25)) (by decide) wd_1813 rfl (fa_fvI' rfl) rfl rfl rfl d_Mod_keeps_5 (fun w1 ew1 => ?_)
  have hM := fa_let_to hM ew1
  refine g_iconst X d_Mod_keeps_8 ?_
  refine g_istorec_n X [(1, .int (fa_I 0)), (0, .ref (b + 181))] d_Mod_keeps_9 (by decide) rfl ?_
  exact g_lv [1, 0] rfl (c_Mod_keeps_l10 X hle hN hT   fa_FU _ _ hM)
theorem d_Mod_goesBack_0 : decode prog_12_method_70_code 0 = .ok (.aload_n 0, 1) := by decide +kernel
theorem d_Mod_goesBack_1 : decode prog_12_method_70_code 1 = .ok (.aload_n 0, 1) := by decide +kernel
theorem d_Mod_goesBack_2 : decode prog_12_method_70_code 2 = .ok (.getfield 479, 3) := by decide +kernel
theorem d_Mod_goesBack_5 : decode prog_12_method_70_code 5 = .ok (.putfield 21, 3) := by decide +kernel
theorem d_Mod_goesBack_8 : decode prog_12_method_70_code 8 = .ok (.iconst 0, 1) := by decide +kernel
theorem d_Mod_goesBack_9 : decode prog_12_method_70_code 9 = .ok (.istore_n 1, 1) := by decide +kernel
theorem d_Mod_goesBack_10 : decode prog_12_method_70_code 10 = .ok (.iload_n 1, 1) := by decide +kernel
theorem d_Mod_goesBack_11 : decode prog_12_method_70_code 11 = .ok (.aload_n 0, 1) := by decide +kernel
theorem d_Mod_goesBack_12 : decode prog_12_method_70_code 12 = .ok (.getfield 21, 3) := by decide +kernel
theorem d_Mod_goesBack_15 : decode prog_12_method_70_code 15 = .ok (.if_icmp .ge 21, 3) := by decide +kernel
theorem d_Mod_goesBack_18 : decode prog_12_method_70_code 18 = .ok (.aload_n 0, 1) := by decide +kernel
theorem d_Mod_goesBack_19 : decode prog_12_method_70_code 19 = .ok (.getfield 24, 3) := by decide +kernel
theorem d_Mod_goesBack_22 : decode prog_12_method_70_code 22 = .ok (.iload_n 1, 1) := by decide +kernel
theorem d_Mod_goesBack_23 : decode prog_12_method_70_code 23 = .ok (.aload_n 0, 1) := by decide +kernel
theorem d_Mod_goesBack_24 : decode prog_12_method_70_code 24 = .ok (.getfield 423, 3) := by decide +kernel
theorem d_Mod_goesBack_27 : decode prog_12_method_70_code 27 = .ok (.iload_n 1, 1) := by decide +kernel
theorem d_Mod_goesBack_28 : decode prog_12_method_70_code 28 = .ok (.baload, 1) := by decide +kernel
theorem d_Mod_goesBack_29 : decode prog_12_method_70_code 29 = .ok (.bastore, 1) := by decide +kernel
theorem d_Mod_goesBack_30 : decode prog_12_method_70_code 30 = .ok (.iinc 1 1, 3) := by decide +kernel
theorem d_Mod_goesBack_33 : decode prog_12_method_70_code 33 = .ok (.goto (-23), 3) := by decide +kernel
theorem d_Mod_goesBack_36 : decode prog_12_method_70_code 36 = .ok (.aload_n 0, 1) := by decide +kernel
theorem d_Mod_goesBack_37 : decode prog_12_method_70_code 37 = .ok (.iconst 1, 1) := by decide +kernel
theorem d_Mod_goesBack_38 : decode prog_12_method_70_code 38 = .ok (.invokevirtual 463, 3) := by decide +kernel
theorem d_Mod_goesBack_41 : decode prog_12_method_70_code 41 = .ok (.istore_n 1, 1) := by decide +kernel
theorem d_Mod_goesBack_42 : decode prog_12_method_70_code 42 = .ok (.return_, 1) := by decide +kernel
def fm_Mod_goesBack_l10  : Nat → Int → fa_W → Option fa_W
  | 0, _, _ => none
  | n + 1, x1, w => if fa_wr (w 181 25) ≤ fa_wr x1 then
  (fa_bd (fm_Mod_readsAll true w) fun v4 w5 =>
  some w5)
  else
  ((fa_ix x1 40000).bind fun j6 =>
  (fa_ix x1 40000).bind fun j7 =>
  fa_let (fa_st w 196 j7 (fa_i2b (w 224 j6))) fun w8 =>
  fa_let (x1 + 1) fun x1_9 =>
  fm_Mod_goesBack_l10 n x1_9 w8)
set_option maxHeartbeats 4000000 in
set_option maxRecDepth 100000 in
theorem c_Mod_goesBack_l10 {p : Program} {l : Launch} {e : Env} {s : State} {m : MethodId} {args : Array Value} {below : List Frame} {meth : Method} {c : Code} {hh : Nat} {D : va_G} {b : Nat} {aC : Nat → ClassId} {H0 : Heap} {N T : Nat} (X : fa_GX p s m args meth c prog_12_method_70_code 2 ((Option.none : Option Jvm.ClassFile.FieldType)) y_Mod_goesBack.cls D b aC) (hle : 909 ≤ hh) (hN : fa_NM ≤ N) (hT : fa_TM ≤ T) {r : fa_W}  : ∀ (n : Nat) (x1 : Int) (w : fa_W), fm_Mod_goesBack_l10 n x1 w = some r → fa_GJ p l e (fa_rm hh) s m args below meth c 0 0 (MQ below (fa_Qc D b aC H0 N T (none) r) args s 0 0 (fun q => b ≤ q)) D b aC H0 N T 2 w 10 [(0, .ref (b + 181)), (1, .int (fa_I x1))] [] := by
  intro n
  induction n with
  | zero => intro x1 w hM; exact fa_no hM
  | succ n ih =>
    intro x1 w hM
    rw [fm_Mod_goesBack_l10] at hM
    refine g_iload_n X 1 rfl d_Mod_goesBack_10 ?_
    refine g_aload_n X 0 rfl d_Mod_goesBack_11 ?_
    refine g_get X ck_10 fo_181 (fn_181 hN) 25 (by decide) wd_1766 rfl (fa_fvI rfl) d_Mod_goesBack_12 ?_
    refine g_icmp_ge X 36 d_Mod_goesBack_15 (by decide) (fun hc2 => ?_) (fun hc2 => ?_)
    · have hM := fa_if_t hM hc2
      refine g_aload_n X 0 rfl d_Mod_goesBack_36 ?_
      refine g_iconst X d_Mod_goesBack_37 ?_
      obtain ⟨v4, w5, e3, hM⟩ := fa_obd hM
      refine g_callV_i X ck_10 fo_181 (fn_181 hN) rfl mi_Mod_readsAll (c_Mod_readsAll hN hT true w _ e3) wd_1486 rfl (Nat.le_trans (Nat.le_of_ble_eq_true rfl) hle) (st := []) (Nat.le_of_ble_eq_true rfl) rfl d_Mod_goesBack_38 ?_
      refine g_istorec_n X [(1, .int (fa_I (fa_bi v4))), (0, .ref (b + 181))] d_Mod_goesBack_41 (by decide) rfl ?_
      cases hM
      exact g_vret X d_Mod_goesBack_42
    · have hM := fa_if_f hM hc2
      refine g_aload_n X 0 rfl d_Mod_goesBack_18 ?_
      refine g_get X ck_10 fo_181 (fn_181 hN) 22 (by decide) wd_1764 rfl (fr_181_22 rfl hT) d_Mod_goesBack_19 ?_
      refine g_iload_n X 1 rfl d_Mod_goesBack_22 ?_
      refine g_aload_n X 0 rfl d_Mod_goesBack_23 ?_
      refine g_get X ck_10 fo_181 (fn_181 hN) 71 (by decide) wd_1812 rfl (fr_181_71 rfl hT) d_Mod_goesBack_24 ?_
      refine g_iload_n X 1 rfl d_Mod_goesBack_27 ?_
      obtain ⟨j6, ej6, hM⟩ := fa_ob hM
      refine g_bald X fs_224 (fn_224 hN) ej6 d_Mod_goesBack_28 ?_
      obtain ⟨j7, ej7, hM⟩ := fa_ob hM
      refine g_bast X fs_196 (fn_196 hN) ej7 d_Mod_goesBack_29 (fun w8 ew8 => ?_)
      have hM := fa_let_to hM ew8
      refine g_iinc X 1 (fun x1_9 => [(1, .int (fa_I x1_9)), (0, .ref (b + 181))]) d_Mod_goesBack_30 rfl (by decide) (fun _ => rfl) (fun x1_9 ex1_9 => ?_)
      have hM := fa_let_to hM ex1_9
      refine g_goto X 10 d_Mod_goesBack_33 (by decide) ?_
      exact g_lv [1, 0] rfl (ih _ _ hM)
def fm_Mod_goesBack (w : fa_W) : Option fa_W :=
  fa_let (fa_st w 181 25 (w 181 72)) fun w1 =>
  fm_Mod_goesBack_l10 fa_FU 0 w1
set_option maxHeartbeats 4000000 in
set_option maxRecDepth 100000 in
theorem c_Mod_goesBack {l : Launch} {D : va_G} {b : Nat} {aC : Nat → ClassId} {H0 : Heap} {N T : Nat} (hN : fa_NM ≤ N) (hT : fa_TM ≤ T)   (w : fa_W) (r : fa_W) (hM : fm_Mod_goesBack w = some r) : fa_MC l D b aC H0 N T y_Mod_goesBack prog_12_method_70_code 2 ((Option.none : Option Jvm.ClassFile.FieldType)) (909) [.ref (b + 181)] w (none) r := by
  refine fa_enter (lv := [(0, .ref (b + 181))]) (by decide +kernel) (Nat.le_of_ble_eq_true rfl) rfl (fun hh hle hnm X => ?_)
  unfold fm_Mod_goesBack at hM
  refine g_aload_n X 0 rfl d_Mod_goesBack_0 ?_
  refine g_aload_n X 0 rfl d_Mod_goesBack_1 ?_
  refine g_get X ck_10 fo_181 (fn_181 hN) 72 (by decide) wd_1813 rfl (fa_fvI rfl) d_Mod_goesBack_2 ?_
  refine g_put X ck_10 fo_181 (fn_181 hN) 25 (z := (w 181 72)) (by decide) wd_1766 rfl (fa_fvI' rfl) rfl rfl rfl d_Mod_goesBack_5 (fun w1 ew1 => ?_)
  have hM := fa_let_to hM ew1
  refine g_iconst X d_Mod_goesBack_8 ?_
  refine g_istorec_n X [(1, .int (fa_I 0)), (0, .ref (b + 181))] d_Mod_goesBack_9 (by decide) rfl ?_
  exact g_lv [1, 0] rfl (c_Mod_goesBack_l10 X hle hN hT   fa_FU _ _ hM)
theorem d_Mod_read_0 : decode prog_12_method_71_code 0 = .ok (.aload_n 0, 1) := by decide +kernel
theorem d_Mod_read_1 : decode prog_12_method_71_code 1 = .ok (.iconst 0, 1) := by decide +kernel
theorem d_Mod_read_2 : decode prog_12_method_71_code 2 = .ok (.putfield 1, 3) := by decide +kernel
theorem d_Mod_read_5 : decode prog_12_method_71_code 5 = .ok (.aload_n 0, 1) := by decide +kernel
theorem d_Mod_read_6 : decode prog_12_method_71_code 6 = .ok (.aload_n 0, 1) := by decide +kernel
theorem d_Mod_read_7 : decode prog_12_method_71_code 7 = .ok (.getfield 7, 3) := by decide +kernel
theorem d_Mod_read_10 : decode prog_12_method_71_code 10 = .ok (.putfield 21, 3) := by decide +kernel
theorem d_Mod_read_13 : decode prog_12_method_71_code 13 = .ok (.iconst 0, 1) := by decide +kernel
theorem d_Mod_read_14 : decode prog_12_method_71_code 14 = .ok (.istore_n 1, 1) := by decide +kernel
theorem d_Mod_read_15 : decode prog_12_method_71_code 15 = .ok (.iload_n 1, 1) := by decide +kernel
theorem d_Mod_read_16 : decode prog_12_method_71_code 16 = .ok (.aload_n 0, 1) := by decide +kernel
theorem d_Mod_read_17 : decode prog_12_method_71_code 17 = .ok (.getfield 7, 3) := by decide +kernel
theorem d_Mod_read_20 : decode prog_12_method_71_code 20 = .ok (.if_icmp .ge 21, 3) := by decide +kernel
theorem d_Mod_read_23 : decode prog_12_method_71_code 23 = .ok (.aload_n 0, 1) := by decide +kernel
theorem d_Mod_read_24 : decode prog_12_method_71_code 24 = .ok (.getfield 24, 3) := by decide +kernel
theorem d_Mod_read_27 : decode prog_12_method_71_code 27 = .ok (.iload_n 1, 1) := by decide +kernel
theorem d_Mod_read_28 : decode prog_12_method_71_code 28 = .ok (.aload_n 0, 1) := by decide +kernel
theorem d_Mod_read_29 : decode prog_12_method_71_code 29 = .ok (.getfield 14, 3) := by decide +kernel
theorem d_Mod_read_32 : decode prog_12_method_71_code 32 = .ok (.iload_n 1, 1) := by decide +kernel
theorem d_Mod_read_33 : decode prog_12_method_71_code 33 = .ok (.baload, 1) := by decide +kernel
theorem d_Mod_read_34 : decode prog_12_method_71_code 34 = .ok (.bastore, 1) := by decide +kernel
theorem d_Mod_read_35 : decode prog_12_method_71_code 35 = .ok (.iinc 1 1, 3) := by decide +kernel
theorem d_Mod_read_38 : decode prog_12_method_71_code 38 = .ok (.goto (-23), 3) := by decide +kernel
theorem d_Mod_read_41 : decode prog_12_method_71_code 41 = .ok (.aload_n 0, 1) := by decide +kernel
theorem d_Mod_read_42 : decode prog_12_method_71_code 42 = .ok (.iconst 0, 1) := by decide +kernel
theorem d_Mod_read_43 : decode prog_12_method_71_code 43 = .ok (.putfield 7, 3) := by decide +kernel
theorem d_Mod_read_46 : decode prog_12_method_71_code 46 = .ok (.aload_n 0, 1) := by decide +kernel
theorem d_Mod_read_47 : decode prog_12_method_71_code 47 = .ok (.iconst 0, 1) := by decide +kernel
theorem d_Mod_read_48 : decode prog_12_method_71_code 48 = .ok (.invokevirtual 463, 3) := by decide +kernel
theorem d_Mod_read_51 : decode prog_12_method_71_code 51 = .ok (.istore_n 1, 1) := by decide +kernel
theorem d_Mod_read_52 : decode prog_12_method_71_code 52 = .ok (.aload_n 0, 1) := by decide +kernel
theorem d_Mod_read_53 : decode prog_12_method_71_code 53 = .ok (.aload_n 0, 1) := by decide +kernel
theorem d_Mod_read_54 : decode prog_12_method_71_code 54 = .ok (.getfield 34, 3) := by decide +kernel
theorem d_Mod_read_57 : decode prog_12_method_71_code 57 = .ok (.putfield 420, 3) := by decide +kernel
theorem d_Mod_read_60 : decode prog_12_method_71_code 60 = .ok (.iload_n 1, 1) := by decide +kernel
theorem d_Mod_read_61 : decode prog_12_method_71_code 61 = .ok (.ifCond .ne 26, 3) := by decide +kernel
theorem d_Mod_read_64 : decode prog_12_method_71_code 64 = .ok (.aload_n 0, 1) := by decide +kernel
theorem d_Mod_read_65 : decode prog_12_method_71_code 65 = .ok (.aload_n 0, 1) := by decide +kernel
theorem d_Mod_read_66 : decode prog_12_method_71_code 66 = .ok (.getfield 420, 3) := by decide +kernel
theorem d_Mod_read_69 : decode prog_12_method_71_code 69 = .ok (.iconst (-1), 1) := by decide +kernel
theorem d_Mod_read_70 : decode prog_12_method_71_code 70 = .ok (.if_icmp .ne 7, 3) := by decide +kernel
theorem d_Mod_read_73 : decode prog_12_method_71_code 73 = .ok (.iconst 2, 1) := by decide +kernel
theorem d_Mod_read_74 : decode prog_12_method_71_code 74 = .ok (.goto 4, 3) := by decide +kernel
theorem d_Mod_read_77 : decode prog_12_method_71_code 77 = .ok (.iconst 1, 1) := by decide +kernel
theorem d_Mod_read_78 : decode prog_12_method_71_code 78 = .ok (.putfield 1, 3) := by decide +kernel
theorem d_Mod_read_81 : decode prog_12_method_71_code 81 = .ok (.aload_n 0, 1) := by decide +kernel
theorem d_Mod_read_82 : decode prog_12_method_71_code 82 = .ok (.invokevirtual 485, 3) := by decide +kernel
theorem d_Mod_read_85 : decode prog_12_method_71_code 85 = .ok (.iconst 0, 1) := by decide +kernel
theorem d_Mod_read_86 : decode prog_12_method_71_code 86 = .ok (.ireturn, 1) := by decide +kernel
theorem d_Mod_read_87 : decode prog_12_method_71_code 87 = .ok (.aload_n 0, 1) := by decide +kernel
theorem d_Mod_read_88 : decode prog_12_method_71_code 88 = .ok (.invokevirtual 467, 3) := by decide +kernel
theorem d_Mod_read_91 : decode prog_12_method_71_code 91 = .ok (.aload_n 0, 1) := by decide +kernel
theorem d_Mod_read_92 : decode prog_12_method_71_code 92 = .ok (.invokevirtual 270, 3) := by decide +kernel
theorem d_Mod_read_95 : decode prog_12_method_71_code 95 = .ok (.ireturn, 1) := by decide +kernel
def fm_Mod_read_j78 (s0 : Int) (w : fa_W) : Option (Int × fa_W) :=
  fa_let (fa_st w 181 0 s0) fun w14 =>
  (fm_Mod_goesBack w14).bind fun w16 =>
  some (0, w16)
set_option maxHeartbeats 4000000 in
set_option maxRecDepth 100000 in
theorem c_Mod_read_j78 {p : Program} {l : Launch} {e : Env} {s : State} {m : MethodId} {args : Array Value} {below : List Frame} {meth : Method} {c : Code} {hh : Nat} {D : va_G} {b : Nat} {aC : Nat → ClassId} {H0 : Heap} {N T : Nat} (X : fa_GX p s m args meth c prog_12_method_71_code 2 ((Option.some Jvm.ClassFile.FieldType.int)) y_Mod_read.cls D b aC) (hle : 910 ≤ hh) (hN : fa_NM ≤ N) (hT : fa_TM ≤ T) {r : Int × fa_W}  : ∀ (s0 : Int) (w : fa_W) (_ : fm_Mod_read_j78 s0 w = some r), fa_GJ p l e (fa_rm hh) s m args below meth c 0 0 (MQ below (fa_Qc D b aC H0 N T (some (.int (fa_I r.1))) r.2) args s 0 0 (fun q => b ≤ q)) D b aC H0 N T 2 w 78 [(0, .ref (b + 181))] [.int (fa_I s0), .ref (b + 181)] := by
  intro s0 w hM
  unfold fm_Mod_read_j78 at hM
  refine g_put X ck_10 fo_181 (fn_181 hN) 0 (z := s0) (by decide) wd_1742 rfl (fa_fvI' rfl) rfl rfl rfl d_Mod_read_78 (fun w14 ew14 => ?_)
  have hM := fa_let_to hM ew14
  refine g_aload_n X 0 rfl d_Mod_read_81 ?_
  obtain ⟨w16, e15, hM⟩ := fa_ob hM
  refine g_callV_v X ck_10 fo_181 (fn_181 hN) rfl mi_Mod_goesBack (c_Mod_goesBack hN hT w14 _ e15) wd_2029 rfl (Nat.le_trans (Nat.le_of_ble_eq_true rfl) hle) (st := []) (Nat.le_of_ble_eq_true rfl) rfl d_Mod_read_82 ?_
  refine g_iconst X d_Mod_read_85 ?_
  cases hM
  exact g_iret X d_Mod_read_86
def fm_Mod_read_l15  : Nat → Int → fa_W → Option (Int × fa_W)
  | 0, _, _ => none
  | n + 1, x1, w => if fa_wr (w 181 2) ≤ fa_wr x1 then
  (fa_let (fa_st w 181 2 0) fun w4 =>
  fa_bd (fm_Mod_readsAll false w4) fun v6 w7 =>
  fa_let (fa_st w7 181 69 (w7 181 28)) fun w8 =>
  if v6 = true then
  ((fm_Mod_keeps w8).bind fun w11 =>
  some (fm_Mod_functions w11, w11))
  else
  (if fa_wr (w8 181 69) = (-1) then
  fm_Mod_read_j78 2 w8
  else
  fm_Mod_read_j78 1 w8))
  else
  ((fa_ix x1 400).bind fun j17 =>
  (fa_ix x1 40000).bind fun j18 =>
  fa_let (fa_st w 196 j18 (fa_i2b (w 182 j17))) fun w19 =>
  fa_let (x1 + 1) fun x1_20 =>
  fm_Mod_read_l15 n x1_20 w19)
set_option maxHeartbeats 4000000 in
set_option maxRecDepth 100000 in
theorem c_Mod_read_l15 {p : Program} {l : Launch} {e : Env} {s : State} {m : MethodId} {args : Array Value} {below : List Frame} {meth : Method} {c : Code} {hh : Nat} {D : va_G} {b : Nat} {aC : Nat → ClassId} {H0 : Heap} {N T : Nat} (X : fa_GX p s m args meth c prog_12_method_71_code 2 ((Option.some Jvm.ClassFile.FieldType.int)) y_Mod_read.cls D b aC) (hle : 910 ≤ hh) (hN : fa_NM ≤ N) (hT : fa_TM ≤ T) {r : Int × fa_W}  : ∀ (n : Nat) (x1 : Int) (w : fa_W), fm_Mod_read_l15 n x1 w = some r → fa_GJ p l e (fa_rm hh) s m args below meth c 0 0 (MQ below (fa_Qc D b aC H0 N T (some (.int (fa_I r.1))) r.2) args s 0 0 (fun q => b ≤ q)) D b aC H0 N T 2 w 15 [(0, .ref (b + 181)), (1, .int (fa_I x1))] [] := by
  intro n
  induction n with
  | zero => intro x1 w hM; exact fa_no hM
  | succ n ih =>
    intro x1 w hM
    rw [fm_Mod_read_l15] at hM
    refine g_iload_n X 1 rfl d_Mod_read_15 ?_
    refine g_aload_n X 0 rfl d_Mod_read_16 ?_
    refine g_get X ck_10 fo_181 (fn_181 hN) 2 (by decide) wd_1744 rfl (fa_fvI rfl) d_Mod_read_17 ?_
    refine g_icmp_ge X 41 d_Mod_read_20 (by decide) (fun hc3 => ?_) (fun hc3 => ?_)
    · have hM := fa_if_t hM hc3
      refine g_aload_n X 0 rfl d_Mod_read_41 ?_
      refine g_iconst X d_Mod_read_42 ?_
      refine g_put X ck_10 fo_181 (fn_181 hN) 2 (z := 0) (by decide) wd_1744 rfl (fa_fvI' rfl) rfl rfl rfl d_Mod_read_43 (fun w4 ew4 => ?_)
      have hM := fa_let_to hM ew4
      refine g_aload_n X 0 rfl d_Mod_read_46 ?_
      refine g_iconst X d_Mod_read_47 ?_
      obtain ⟨v6, w7, e5, hM⟩ := fa_obd hM
      refine g_callV_i X ck_10 fo_181 (fn_181 hN) rfl mi_Mod_readsAll (c_Mod_readsAll hN hT false w4 _ e5) wd_1486 rfl (Nat.le_trans (Nat.le_of_ble_eq_true rfl) hle) (st := []) (Nat.le_of_ble_eq_true rfl) rfl d_Mod_read_48 ?_
      refine g_istorec_n X [(1, .int (fa_I (fa_bi v6))), (0, .ref (b + 181))] d_Mod_read_51 (by decide) rfl ?_
      refine g_aload_n X 1 rfl d_Mod_read_52 ?_
      refine g_aload_n X 1 rfl d_Mod_read_53 ?_
      refine g_get X ck_10 fo_181 (fn_181 hN) 28 (by decide) wd_1769 rfl (fa_fvI rfl) d_Mod_read_54 ?_
      refine g_put X ck_10 fo_181 (fn_181 hN) 69 (z := (w7 181 28)) (by decide) wd_1810 rfl (fa_fvI' rfl) rfl rfl rfl d_Mod_read_57 (fun w8 ew8 => ?_)
      have hM := fa_let_to hM ew8
      refine g_iload_n X 0 rfl d_Mod_read_60 ?_
      refine g_ifb_ne X 87 d_Mod_read_61 (by decide) (fun hc9 => ?_) (fun hc9 => ?_)
      · have hM := fa_ifb_t hM hc9
        refine g_aload_n X 1 rfl d_Mod_read_87 ?_
        obtain ⟨w11, e10, hM⟩ := fa_ob hM
        refine g_callV_v X ck_10 fo_181 (fn_181 hN) rfl mi_Mod_keeps (c_Mod_keeps hN hT w8 _ e10) wd_1738 rfl (Nat.le_trans (Nat.le_of_ble_eq_true rfl) hle) (st := []) (Nat.le_of_ble_eq_true rfl) rfl d_Mod_read_88 ?_
        refine g_aload_n X 1 rfl d_Mod_read_91 ?_
        refine g_callV_i X ck_10 fo_181 (fn_181 hN) rfl mi_Mod_functions (c_Mod_functions hN hT w11 _ rfl) wd_1644 rfl (Nat.le_trans (Nat.le_of_ble_eq_true rfl) hle) (st := []) (Nat.le_of_ble_eq_true rfl) rfl d_Mod_read_92 ?_
        cases hM
        exact g_iret X d_Mod_read_95
      · have hM := fa_ifb_f hM hc9
        refine g_aload_n X 1 rfl d_Mod_read_64 ?_
        refine g_aload_n X 1 rfl d_Mod_read_65 ?_
        refine g_get X ck_10 fo_181 (fn_181 hN) 69 (by decide) wd_1810 rfl (fa_fvI rfl) d_Mod_read_66 ?_
        refine g_iconst X d_Mod_read_69 ?_
        refine g_icmp_ne X 77 d_Mod_read_70 (by decide) (fun hc13 => ?_) (fun hc13 => ?_)
        · have hM := fa_if_f hM hc13
          refine g_iconst X d_Mod_read_77 ?_
          exact g_lv [1] rfl (c_Mod_read_j78 X hle hN hT    _ _ hM)
        · have hM := fa_if_t hM hc13
          refine g_iconst X d_Mod_read_73 ?_
          refine g_goto X 78 d_Mod_read_74 (by decide) ?_
          exact g_lv [1] rfl (c_Mod_read_j78 X hle hN hT    _ _ hM)
    · have hM := fa_if_f hM hc3
      refine g_aload_n X 0 rfl d_Mod_read_23 ?_
      refine g_get X ck_10 fo_181 (fn_181 hN) 22 (by decide) wd_1764 rfl (fr_181_22 rfl hT) d_Mod_read_24 ?_
      refine g_iload_n X 1 rfl d_Mod_read_27 ?_
      refine g_aload_n X 0 rfl d_Mod_read_28 ?_
      refine g_get X ck_10 fo_181 (fn_181 hN) 1 (by decide) wd_1743 rfl (fr_181_1 rfl hT) d_Mod_read_29 ?_
      refine g_iload_n X 1 rfl d_Mod_read_32 ?_
      obtain ⟨j17, ej17, hM⟩ := fa_ob hM
      refine g_bald X fs_182 (fn_182 hN) ej17 d_Mod_read_33 ?_
      obtain ⟨j18, ej18, hM⟩ := fa_ob hM
      refine g_bast X fs_196 (fn_196 hN) ej18 d_Mod_read_34 (fun w19 ew19 => ?_)
      have hM := fa_let_to hM ew19
      refine g_iinc X 1 (fun x1_20 => [(1, .int (fa_I x1_20)), (0, .ref (b + 181))]) d_Mod_read_35 rfl (by decide) (fun _ => rfl) (fun x1_20 ex1_20 => ?_)
      have hM := fa_let_to hM ex1_20
      refine g_goto X 15 d_Mod_read_38 (by decide) ?_
      exact g_lv [1, 0] rfl (ih _ _ hM)
def fm_Mod_read (w : fa_W) : Option (Int × fa_W) :=
  fa_let (fa_st w 181 0 0) fun w1 =>
  fa_let (fa_st w1 181 25 (w1 181 2)) fun w2 =>
  fm_Mod_read_l15 fa_FU 0 w2
set_option maxHeartbeats 4000000 in
set_option maxRecDepth 100000 in
theorem c_Mod_read {l : Launch} {D : va_G} {b : Nat} {aC : Nat → ClassId} {H0 : Heap} {N T : Nat} (hN : fa_NM ≤ N) (hT : fa_TM ≤ T)   (w : fa_W) (r : Int × fa_W) (hM : fm_Mod_read w = some r) : fa_MC l D b aC H0 N T y_Mod_read prog_12_method_71_code 2 ((Option.some Jvm.ClassFile.FieldType.int)) (910) [.ref (b + 181)] w (some (.int (fa_I r.1))) r.2 := by
  refine fa_enter (lv := [(0, .ref (b + 181))]) (by decide +kernel) (Nat.le_of_ble_eq_true rfl) rfl (fun hh hle hnm X => ?_)
  unfold fm_Mod_read at hM
  refine g_aload_n X 0 rfl d_Mod_read_0 ?_
  refine g_iconst X d_Mod_read_1 ?_
  refine g_put X ck_10 fo_181 (fn_181 hN) 0 (z := 0) (by decide) wd_1742 rfl (fa_fvI' rfl) rfl rfl rfl d_Mod_read_2 (fun w1 ew1 => ?_)
  have hM := fa_let_to hM ew1
  refine g_aload_n X 0 rfl d_Mod_read_5 ?_
  refine g_aload_n X 0 rfl d_Mod_read_6 ?_
  refine g_get X ck_10 fo_181 (fn_181 hN) 2 (by decide) wd_1744 rfl (fa_fvI rfl) d_Mod_read_7 ?_
  refine g_put X ck_10 fo_181 (fn_181 hN) 25 (z := (w1 181 2)) (by decide) wd_1766 rfl (fa_fvI' rfl) rfl rfl rfl d_Mod_read_10 (fun w2 ew2 => ?_)
  have hM := fa_let_to hM ew2
  refine g_iconst X d_Mod_read_13 ?_
  refine g_istorec_n X [(1, .int (fa_I 0)), (0, .ref (b + 181))] d_Mod_read_14 (by decide) rfl ?_
  exact g_lv [1, 0] rfl (c_Mod_read_l15 X hle hN hT   fa_FU _ _ hM)
theorem d_Mod_fault_0 : decode prog_12_method_72_code 0 = .ok (.aload_n 0, 1) := by decide +kernel
theorem d_Mod_fault_1 : decode prog_12_method_72_code 1 = .ok (.iconst 0, 1) := by decide +kernel
theorem d_Mod_fault_2 : decode prog_12_method_72_code 2 = .ok (.putfield 1, 3) := by decide +kernel
theorem d_Mod_fault_5 : decode prog_12_method_72_code 5 = .ok (.aload_n 0, 1) := by decide +kernel
theorem d_Mod_fault_6 : decode prog_12_method_72_code 6 = .ok (.getfield 420, 3) := by decide +kernel
theorem d_Mod_fault_9 : decode prog_12_method_72_code 9 = .ok (.ireturn, 1) := by decide +kernel
def fm_Mod_fault (w : fa_W) : Int × fa_W :=
  fa_let (fa_st w 181 0 0) fun w1 =>
  (w1 181 69, w1)
set_option maxHeartbeats 4000000 in
set_option maxRecDepth 100000 in
theorem c_Mod_fault {l : Launch} {D : va_G} {b : Nat} {aC : Nat → ClassId} {H0 : Heap} {N T : Nat} (hN : fa_NM ≤ N) (hT : fa_TM ≤ T)   (w : fa_W) (r : Int × fa_W) (hM : fm_Mod_fault w = r) : fa_MC l D b aC H0 N T y_Mod_fault prog_12_method_72_code 1 ((Option.some Jvm.ClassFile.FieldType.int)) (0) [.ref (b + 181)] w (some (.int (fa_I r.1))) r.2 := by
  refine fa_enter (lv := [(0, .ref (b + 181))]) (by decide +kernel) (Nat.le_of_ble_eq_true rfl) rfl (fun hh hle hnm X => ?_)
  unfold fm_Mod_fault at hM
  refine g_aload_n X 0 rfl d_Mod_fault_0 ?_
  refine g_iconst X d_Mod_fault_1 ?_
  refine g_put X ck_10 fo_181 (fn_181 hN) 0 (z := 0) (by decide) wd_1742 rfl (fa_fvI' rfl) rfl rfl rfl d_Mod_fault_2 (fun w1 ew1 => ?_)
  have hM := fa_let_to hM ew1
  refine g_aload_n X 0 rfl d_Mod_fault_5 ?_
  refine g_get X ck_10 fo_181 (fn_181 hN) 69 (by decide) wd_1810 rfl (fa_fvI rfl) d_Mod_fault_6 ?_
  subst hM
  exact g_iret X d_Mod_fault_9
theorem d_Mod_says_0 : decode prog_12_method_74_code 0 = .ok (.aload_n 0, 1) := by decide +kernel
theorem d_Mod_says_1 : decode prog_12_method_74_code 1 = .ok (.getfield 417, 3) := by decide +kernel
theorem d_Mod_says_4 : decode prog_12_method_74_code 4 = .ok (.aload_n 0, 1) := by decide +kernel
theorem d_Mod_says_5 : decode prog_12_method_74_code 5 = .ok (.getfield 482, 3) := by decide +kernel
theorem d_Mod_says_8 : decode prog_12_method_74_code 8 = .ok (.iload_n 1, 1) := by decide +kernel
theorem d_Mod_says_9 : decode prog_12_method_74_code 9 = .ok (.i2b, 1) := by decide +kernel
theorem d_Mod_says_10 : decode prog_12_method_74_code 10 = .ok (.bastore, 1) := by decide +kernel
theorem d_Mod_says_11 : decode prog_12_method_74_code 11 = .ok (.aload_n 0, 1) := by decide +kernel
theorem d_Mod_says_12 : decode prog_12_method_74_code 12 = .ok (.dup, 1) := by decide +kernel
theorem d_Mod_says_13 : decode prog_12_method_74_code 13 = .ok (.getfield 482, 3) := by decide +kernel
theorem d_Mod_says_16 : decode prog_12_method_74_code 16 = .ok (.iconst 1, 1) := by decide +kernel
theorem d_Mod_says_17 : decode prog_12_method_74_code 17 = .ok (.iadd, 1) := by decide +kernel
theorem d_Mod_says_18 : decode prog_12_method_74_code 18 = .ok (.putfield 482, 3) := by decide +kernel
theorem d_Mod_says_21 : decode prog_12_method_74_code 21 = .ok (.return_, 1) := by decide +kernel
def fm_Mod_says (a1 : Int) (w : fa_W) : Option fa_W :=
  (fa_ix (w 181 70) 40000).bind fun j1 =>
  fa_let (fa_st w 197 j1 (fa_i2b (fa_i2b a1))) fun w2 =>
  fa_let (fa_st w2 181 70 ((w2 181 70) + 1)) fun w3 =>
  some w3
set_option maxHeartbeats 4000000 in
set_option maxRecDepth 100000 in
theorem c_Mod_says {l : Launch} {D : va_G} {b : Nat} {aC : Nat → ClassId} {H0 : Heap} {N T : Nat} (hN : fa_NM ≤ N) (hT : fa_TM ≤ T) (a1 : Int)  (w : fa_W) (r : fa_W) (hM : fm_Mod_says a1 w = some r) : fa_MC l D b aC H0 N T y_Mod_says prog_12_method_74_code 2 ((Option.none : Option Jvm.ClassFile.FieldType)) (0) [.ref (b + 181), .int (fa_I a1)] w (none) r := by
  refine fa_enter (lv := [(0, .ref (b + 181)), (1, .int (fa_I a1))]) (by decide +kernel) (Nat.le_of_ble_eq_true rfl) rfl (fun hh hle hnm X => ?_)
  unfold fm_Mod_says at hM
  refine g_aload_n X 0 rfl d_Mod_says_0 ?_
  refine g_get X ck_10 fo_181 (fn_181 hN) 23 (by decide) wd_1765 rfl (fr_181_23 rfl hT) d_Mod_says_1 ?_
  refine g_aload_n X 0 rfl d_Mod_says_4 ?_
  refine g_get X ck_10 fo_181 (fn_181 hN) 70 (by decide) wd_1811 rfl (fa_fvI rfl) d_Mod_says_5 ?_
  refine g_iload_n X 1 rfl d_Mod_says_8 ?_
  refine g_i2b X d_Mod_says_9 ?_
  obtain ⟨j1, ej1, hM⟩ := fa_ob hM
  refine g_bast X fs_197 (fn_197 hN) ej1 d_Mod_says_10 (fun w2 ew2 => ?_)
  have hM := fa_let_to hM ew2
  refine g_aload_n X 0 rfl d_Mod_says_11 ?_
  refine g_dup X rfl d_Mod_says_12 ?_
  refine g_get X ck_10 fo_181 (fn_181 hN) 70 (by decide) wd_1811 rfl (fa_fvI rfl) d_Mod_says_13 ?_
  refine g_iconst X d_Mod_says_16 ?_
  refine g_iadd X d_Mod_says_17 ?_
  refine g_put X ck_10 fo_181 (fn_181 hN) 70 (z := ((w2 181 70) + 1)) (by decide) wd_1811 rfl (fa_fvI' rfl) rfl rfl rfl d_Mod_says_18 (fun w3 ew3 => ?_)
  have hM := fa_let_to hM ew3
  cases hM
  exact g_vret X d_Mod_says_21
theorem d_Mod_saysWord_0 : decode prog_12_method_75_code 0 = .ok (.iload_n 1, 1) := by decide +kernel
theorem d_Mod_saysWord_1 : decode prog_12_method_75_code 1 = .ok (.bipush 27, 2) := by decide +kernel
theorem d_Mod_saysWord_3 : decode prog_12_method_75_code 3 = .ok (.if_icmp .lt 11, 3) := by decide +kernel
theorem d_Mod_saysWord_6 : decode prog_12_method_75_code 6 = .ok (.aload_n 0, 1) := by decide +kernel
theorem d_Mod_saysWord_7 : decode prog_12_method_75_code 7 = .ok (.iload_n 1, 1) := by decide +kernel
theorem d_Mod_saysWord_8 : decode prog_12_method_75_code 8 = .ok (.bipush 27, 2) := by decide +kernel
theorem d_Mod_saysWord_10 : decode prog_12_method_75_code 10 = .ok (.idiv, 1) := by decide +kernel
theorem d_Mod_saysWord_11 : decode prog_12_method_75_code 11 = .ok (.invokevirtual 491, 3) := by decide +kernel
theorem d_Mod_saysWord_14 : decode prog_12_method_75_code 14 = .ok (.aload_n 0, 1) := by decide +kernel
theorem d_Mod_saysWord_15 : decode prog_12_method_75_code 15 = .ok (.bipush 97, 2) := by decide +kernel
theorem d_Mod_saysWord_17 : decode prog_12_method_75_code 17 = .ok (.iload_n 1, 1) := by decide +kernel
theorem d_Mod_saysWord_18 : decode prog_12_method_75_code 18 = .ok (.bipush 27, 2) := by decide +kernel
theorem d_Mod_saysWord_20 : decode prog_12_method_75_code 20 = .ok (.irem, 1) := by decide +kernel
theorem d_Mod_saysWord_21 : decode prog_12_method_75_code 21 = .ok (.iadd, 1) := by decide +kernel
theorem d_Mod_saysWord_22 : decode prog_12_method_75_code 22 = .ok (.iconst 1, 1) := by decide +kernel
theorem d_Mod_saysWord_23 : decode prog_12_method_75_code 23 = .ok (.isub, 1) := by decide +kernel
theorem d_Mod_saysWord_24 : decode prog_12_method_75_code 24 = .ok (.invokevirtual 494, 3) := by decide +kernel
theorem d_Mod_saysWord_27 : decode prog_12_method_75_code 27 = .ok (.return_, 1) := by decide +kernel
def fm_Mod_saysWord_j14 (a1 : Int) (rc_saysWord : Int → fa_W → Option fa_W) (w : fa_W) : Option fa_W :=
  (fm_Mod_says ((97 + (fa_irem a1 27)) - 1) w).bind fun w3 =>
  some w3
set_option maxHeartbeats 4000000 in
set_option maxRecDepth 100000 in
theorem c_Mod_saysWord_j14 {p : Program} {l : Launch} {e : Env} {s : State} {m : MethodId} {args : Array Value} {below : List Frame} {meth : Method} {c : Code} {hh : Nat} {D : va_G} {b : Nat} {aC : Nat → ClassId} {H0 : Heap} {N T : Nat} {dd : Nat} (X : fa_GX p s m args meth c prog_12_method_75_code 2 ((Option.none : Option Jvm.ClassFile.FieldType)) y_Mod_saysWord.cls D b aC) (hle : 1 + dd + 1 ≤ hh) (hN : fa_NM ≤ N) (hT : fa_TM ≤ T) (a1 : Int) {r : fa_W} (rc_saysWord : Int → fa_W → Option fa_W) (Rrc_saysWord : ∀ (a1 : Int) (w : fa_W) (r : fa_W), rc_saysWord a1 w = some r → fa_MC l D b aC H0 N T y_Mod_saysWord prog_12_method_75_code 2 ((Option.none : Option Jvm.ClassFile.FieldType)) (1 + dd) [.ref (b + 181), .int (fa_I a1)] w (none) r) : ∀ (w : fa_W) (_ : fm_Mod_saysWord_j14 a1 rc_saysWord w = some r), fa_GJ p l e (fa_rm hh) s m args below meth c 0 0 (MQ below (fa_Qc D b aC H0 N T (none) r) args s 0 0 (fun q => b ≤ q)) D b aC H0 N T 2 w 14 [(0, .ref (b + 181)), (1, .int (fa_I a1))] [] := by
  intro w hM
  unfold fm_Mod_saysWord_j14 at hM
  refine g_aload_n X 0 rfl d_Mod_saysWord_14 ?_
  refine g_bipush X (by decide) d_Mod_saysWord_15 ?_
  refine g_iload_n X 1 rfl d_Mod_saysWord_17 ?_
  refine g_bipush X (by decide) d_Mod_saysWord_18 ?_
  refine g_irem X (by decide) d_Mod_saysWord_20 ?_
  refine g_iadd X d_Mod_saysWord_21 ?_
  refine g_iconst X d_Mod_saysWord_22 ?_
  refine g_isub X d_Mod_saysWord_23 ?_
  obtain ⟨w3, e2, hM⟩ := fa_ob hM
  refine g_callV_v X ck_10 fo_181 (fn_181 hN) rfl mi_Mod_says (c_Mod_says hN hT ((97 + (fa_irem a1 27)) - 1) w _ e2) wd_2053 rfl (by omega) (st := []) (Nat.le_of_ble_eq_true rfl) rfl d_Mod_saysWord_24 ?_
  cases hM
  exact g_vret X d_Mod_saysWord_27
def fm_Mod_saysWord_b (rc_saysWord : Int → fa_W → Option fa_W) (a1 : Int) (w : fa_W) : Option fa_W :=
  if fa_wr a1 < 27 then
  fm_Mod_saysWord_j14 a1 rc_saysWord w
  else
  ((rc_saysWord (fa_idiv a1 27) w).bind fun w5 =>
  fm_Mod_saysWord_j14 a1 rc_saysWord w5)
set_option maxHeartbeats 4000000 in
set_option maxRecDepth 100000 in
theorem c_Mod_saysWord_b {l : Launch} {D : va_G} {b : Nat} {aC : Nat → ClassId} {H0 : Heap} {N T : Nat} (hN : fa_NM ≤ N) (hT : fa_TM ≤ T) (dd : Nat) (rc_saysWord : Int → fa_W → Option fa_W) (Rrc_saysWord : ∀ (a1 : Int) (w : fa_W) (r : fa_W), rc_saysWord a1 w = some r → fa_MC l D b aC H0 N T y_Mod_saysWord prog_12_method_75_code 2 ((Option.none : Option Jvm.ClassFile.FieldType)) (1 + dd) [.ref (b + 181), .int (fa_I a1)] w (none) r) (a1 : Int)  (w : fa_W) (r : fa_W) (hM : fm_Mod_saysWord_b rc_saysWord a1 w = some r) : fa_MC l D b aC H0 N T y_Mod_saysWord prog_12_method_75_code 2 ((Option.none : Option Jvm.ClassFile.FieldType)) (1 + dd + 1) [.ref (b + 181), .int (fa_I a1)] w (none) r := by
  refine fa_enter (lv := [(0, .ref (b + 181)), (1, .int (fa_I a1))]) (by decide +kernel) (Nat.le_of_ble_eq_true rfl) rfl (fun hh hle hnm X => ?_)
  unfold fm_Mod_saysWord_b at hM
  refine g_iload_n X 1 rfl d_Mod_saysWord_0 ?_
  refine g_bipush X (by decide) d_Mod_saysWord_1 ?_
  refine g_icmp_lt X 14 d_Mod_saysWord_3 (by decide) (fun hc1 => ?_) (fun hc1 => ?_)
  · have hM := fa_if_t hM hc1
    exact g_lv [0, 1] rfl (c_Mod_saysWord_j14 X hle hN hT a1 rc_saysWord Rrc_saysWord   _ hM)
  · have hM := fa_if_f hM hc1
    refine g_aload_n X 0 rfl d_Mod_saysWord_6 ?_
    refine g_iload_n X 1 rfl d_Mod_saysWord_7 ?_
    refine g_bipush X (by decide) d_Mod_saysWord_8 ?_
    refine g_idiv X (by decide) d_Mod_saysWord_10 ?_
    obtain ⟨w5, e4, hM⟩ := fa_ob hM
    refine g_callV_v X ck_10 fo_181 (fn_181 hN) rfl mi_Mod_saysWord (Rrc_saysWord (fa_idiv a1 27) w _ e4) wd_2049 rfl (by omega) (st := []) (Nat.le_of_ble_eq_true rfl) rfl d_Mod_saysWord_11 ?_
    exact g_lv [0, 1] rfl (c_Mod_saysWord_j14 X hle hN hT a1 rc_saysWord Rrc_saysWord   _ hM)
def fm_Mod_saysWord : Nat → Int → fa_W → Option fa_W
  | 0, _, _ => none
  | n + 1, a1, w => fm_Mod_saysWord_b (fm_Mod_saysWord n) a1 w
set_option maxHeartbeats 4000000 in
set_option maxRecDepth 100000 in
theorem c_Mod_saysWord {l : Launch} {D : va_G} {b : Nat} {aC : Nat → ClassId} {H0 : Heap} {N T : Nat} (hN : fa_NM ≤ N) (hT : fa_TM ≤ T) : ∀ (n : Nat) (a1 : Int) (w : fa_W) (r : fa_W), fm_Mod_saysWord n a1 w = some r → fa_MC l D b aC H0 N T y_Mod_saysWord prog_12_method_75_code 2 ((Option.none : Option Jvm.ClassFile.FieldType)) (1 + n) [.ref (b + 181), .int (fa_I a1)] w (none) r := by
  intro n
  induction n with
  | zero => intro a1 w r hM; exact fa_no hM
  | succ n ih => intro a1 w r hM; exact c_Mod_saysWord_b hN hT n (fm_Mod_saysWord n) ih a1 w r hM
theorem d_Mod_saysNumber_0 : decode prog_12_method_76_code 0 = .ok (.iload_n 1, 1) := by decide +kernel
theorem d_Mod_saysNumber_1 : decode prog_12_method_76_code 1 = .ok (.bipush 9, 2) := by decide +kernel
theorem d_Mod_saysNumber_3 : decode prog_12_method_76_code 3 = .ok (.if_icmp .le 11, 3) := by decide +kernel
theorem d_Mod_saysNumber_6 : decode prog_12_method_76_code 6 = .ok (.aload_n 0, 1) := by decide +kernel
theorem d_Mod_saysNumber_7 : decode prog_12_method_76_code 7 = .ok (.iload_n 1, 1) := by decide +kernel
theorem d_Mod_saysNumber_8 : decode prog_12_method_76_code 8 = .ok (.bipush 10, 2) := by decide +kernel
theorem d_Mod_saysNumber_10 : decode prog_12_method_76_code 10 = .ok (.idiv, 1) := by decide +kernel
theorem d_Mod_saysNumber_11 : decode prog_12_method_76_code 11 = .ok (.invokevirtual 497, 3) := by decide +kernel
theorem d_Mod_saysNumber_14 : decode prog_12_method_76_code 14 = .ok (.aload_n 0, 1) := by decide +kernel
theorem d_Mod_saysNumber_15 : decode prog_12_method_76_code 15 = .ok (.bipush 48, 2) := by decide +kernel
theorem d_Mod_saysNumber_17 : decode prog_12_method_76_code 17 = .ok (.iload_n 1, 1) := by decide +kernel
theorem d_Mod_saysNumber_18 : decode prog_12_method_76_code 18 = .ok (.bipush 10, 2) := by decide +kernel
theorem d_Mod_saysNumber_20 : decode prog_12_method_76_code 20 = .ok (.irem, 1) := by decide +kernel
theorem d_Mod_saysNumber_21 : decode prog_12_method_76_code 21 = .ok (.iadd, 1) := by decide +kernel
theorem d_Mod_saysNumber_22 : decode prog_12_method_76_code 22 = .ok (.invokevirtual 494, 3) := by decide +kernel
theorem d_Mod_saysNumber_25 : decode prog_12_method_76_code 25 = .ok (.return_, 1) := by decide +kernel
def fm_Mod_saysNumber_j14 (a1 : Int) (rc_saysNumber : Int → fa_W → Option fa_W) (w : fa_W) : Option fa_W :=
  (fm_Mod_says (48 + (fa_irem a1 10)) w).bind fun w3 =>
  some w3
set_option maxHeartbeats 4000000 in
set_option maxRecDepth 100000 in
theorem c_Mod_saysNumber_j14 {p : Program} {l : Launch} {e : Env} {s : State} {m : MethodId} {args : Array Value} {below : List Frame} {meth : Method} {c : Code} {hh : Nat} {D : va_G} {b : Nat} {aC : Nat → ClassId} {H0 : Heap} {N T : Nat} {dd : Nat} (X : fa_GX p s m args meth c prog_12_method_76_code 2 ((Option.none : Option Jvm.ClassFile.FieldType)) y_Mod_saysNumber.cls D b aC) (hle : 1 + dd + 1 ≤ hh) (hN : fa_NM ≤ N) (hT : fa_TM ≤ T) (a1 : Int) {r : fa_W} (rc_saysNumber : Int → fa_W → Option fa_W) (Rrc_saysNumber : ∀ (a1 : Int) (w : fa_W) (r : fa_W), rc_saysNumber a1 w = some r → fa_MC l D b aC H0 N T y_Mod_saysNumber prog_12_method_76_code 2 ((Option.none : Option Jvm.ClassFile.FieldType)) (1 + dd) [.ref (b + 181), .int (fa_I a1)] w (none) r) : ∀ (w : fa_W) (_ : fm_Mod_saysNumber_j14 a1 rc_saysNumber w = some r), fa_GJ p l e (fa_rm hh) s m args below meth c 0 0 (MQ below (fa_Qc D b aC H0 N T (none) r) args s 0 0 (fun q => b ≤ q)) D b aC H0 N T 2 w 14 [(0, .ref (b + 181)), (1, .int (fa_I a1))] [] := by
  intro w hM
  unfold fm_Mod_saysNumber_j14 at hM
  refine g_aload_n X 0 rfl d_Mod_saysNumber_14 ?_
  refine g_bipush X (by decide) d_Mod_saysNumber_15 ?_
  refine g_iload_n X 1 rfl d_Mod_saysNumber_17 ?_
  refine g_bipush X (by decide) d_Mod_saysNumber_18 ?_
  refine g_irem X (by decide) d_Mod_saysNumber_20 ?_
  refine g_iadd X d_Mod_saysNumber_21 ?_
  obtain ⟨w3, e2, hM⟩ := fa_ob hM
  refine g_callV_v X ck_10 fo_181 (fn_181 hN) rfl mi_Mod_says (c_Mod_says hN hT (48 + (fa_irem a1 10)) w _ e2) wd_2053 rfl (by omega) (st := []) (Nat.le_of_ble_eq_true rfl) rfl d_Mod_saysNumber_22 ?_
  cases hM
  exact g_vret X d_Mod_saysNumber_25
def fm_Mod_saysNumber_b (rc_saysNumber : Int → fa_W → Option fa_W) (a1 : Int) (w : fa_W) : Option fa_W :=
  if fa_wr a1 ≤ 9 then
  fm_Mod_saysNumber_j14 a1 rc_saysNumber w
  else
  ((rc_saysNumber (fa_idiv a1 10) w).bind fun w5 =>
  fm_Mod_saysNumber_j14 a1 rc_saysNumber w5)
set_option maxHeartbeats 4000000 in
set_option maxRecDepth 100000 in
theorem c_Mod_saysNumber_b {l : Launch} {D : va_G} {b : Nat} {aC : Nat → ClassId} {H0 : Heap} {N T : Nat} (hN : fa_NM ≤ N) (hT : fa_TM ≤ T) (dd : Nat) (rc_saysNumber : Int → fa_W → Option fa_W) (Rrc_saysNumber : ∀ (a1 : Int) (w : fa_W) (r : fa_W), rc_saysNumber a1 w = some r → fa_MC l D b aC H0 N T y_Mod_saysNumber prog_12_method_76_code 2 ((Option.none : Option Jvm.ClassFile.FieldType)) (1 + dd) [.ref (b + 181), .int (fa_I a1)] w (none) r) (a1 : Int)  (w : fa_W) (r : fa_W) (hM : fm_Mod_saysNumber_b rc_saysNumber a1 w = some r) : fa_MC l D b aC H0 N T y_Mod_saysNumber prog_12_method_76_code 2 ((Option.none : Option Jvm.ClassFile.FieldType)) (1 + dd + 1) [.ref (b + 181), .int (fa_I a1)] w (none) r := by
  refine fa_enter (lv := [(0, .ref (b + 181)), (1, .int (fa_I a1))]) (by decide +kernel) (Nat.le_of_ble_eq_true rfl) rfl (fun hh hle hnm X => ?_)
  unfold fm_Mod_saysNumber_b at hM
  refine g_iload_n X 1 rfl d_Mod_saysNumber_0 ?_
  refine g_bipush X (by decide) d_Mod_saysNumber_1 ?_
  refine g_icmp_le X 14 d_Mod_saysNumber_3 (by decide) (fun hc1 => ?_) (fun hc1 => ?_)
  · have hM := fa_if_t hM hc1
    exact g_lv [0, 1] rfl (c_Mod_saysNumber_j14 X hle hN hT a1 rc_saysNumber Rrc_saysNumber   _ hM)
  · have hM := fa_if_f hM hc1
    refine g_aload_n X 0 rfl d_Mod_saysNumber_6 ?_
    refine g_iload_n X 1 rfl d_Mod_saysNumber_7 ?_
    refine g_bipush X (by decide) d_Mod_saysNumber_8 ?_
    refine g_idiv X (by decide) d_Mod_saysNumber_10 ?_
    obtain ⟨w5, e4, hM⟩ := fa_ob hM
    refine g_callV_v X ck_10 fo_181 (fn_181 hN) rfl mi_Mod_saysNumber (Rrc_saysNumber (fa_idiv a1 10) w _ e4) wd_2065 rfl (by omega) (st := []) (Nat.le_of_ble_eq_true rfl) rfl d_Mod_saysNumber_11 ?_
    exact g_lv [0, 1] rfl (c_Mod_saysNumber_j14 X hle hN hT a1 rc_saysNumber Rrc_saysNumber   _ hM)
def fm_Mod_saysNumber : Nat → Int → fa_W → Option fa_W
  | 0, _, _ => none
  | n + 1, a1, w => fm_Mod_saysNumber_b (fm_Mod_saysNumber n) a1 w
set_option maxHeartbeats 4000000 in
set_option maxRecDepth 100000 in
theorem c_Mod_saysNumber {l : Launch} {D : va_G} {b : Nat} {aC : Nat → ClassId} {H0 : Heap} {N T : Nat} (hN : fa_NM ≤ N) (hT : fa_TM ≤ T) : ∀ (n : Nat) (a1 : Int) (w : fa_W) (r : fa_W), fm_Mod_saysNumber n a1 w = some r → fa_MC l D b aC H0 N T y_Mod_saysNumber prog_12_method_76_code 2 ((Option.none : Option Jvm.ClassFile.FieldType)) (1 + n) [.ref (b + 181), .int (fa_I a1)] w (none) r := by
  intro n
  induction n with
  | zero => intro a1 w r hM; exact fa_no hM
  | succ n ih => intro a1 w r hM; exact c_Mod_saysNumber_b hN hT n (fm_Mod_saysNumber n) ih a1 w r hM
theorem d_Mod_writesData_0 : decode prog_12_method_81_code 0 = .ok (.aload_n 0, 1) := by decide +kernel
theorem d_Mod_writesData_1 : decode prog_12_method_81_code 1 = .ok (.bipush 67, 2) := by decide +kernel
theorem d_Mod_writesData_3 : decode prog_12_method_81_code 3 = .ok (.invokevirtual 494, 3) := by decide +kernel
theorem d_Mod_writesData_6 : decode prog_12_method_81_code 6 = .ok (.aload_n 0, 1) := by decide +kernel
theorem d_Mod_writesData_7 : decode prog_12_method_81_code 7 = .ok (.iload_n 1, 1) := by decide +kernel
theorem d_Mod_writesData_8 : decode prog_12_method_81_code 8 = .ok (.invokevirtual 497, 3) := by decide +kernel
theorem d_Mod_writesData_11 : decode prog_12_method_81_code 11 = .ok (.aload_n 0, 1) := by decide +kernel
theorem d_Mod_writesData_12 : decode prog_12_method_81_code 12 = .ok (.bipush 40, 2) := by decide +kernel
theorem d_Mod_writesData_14 : decode prog_12_method_81_code 14 = .ok (.invokevirtual 494, 3) := by decide +kernel
theorem d_Mod_writesData_17 : decode prog_12_method_81_code 17 = .ok (.iconst 0, 1) := by decide +kernel
theorem d_Mod_writesData_18 : decode prog_12_method_81_code 18 = .ok (.istore_n 2, 1) := by decide +kernel
theorem d_Mod_writesData_19 : decode prog_12_method_81_code 19 = .ok (.iload_n 2, 1) := by decide +kernel
theorem d_Mod_writesData_20 : decode prog_12_method_81_code 20 = .ok (.aload_n 0, 1) := by decide +kernel
theorem d_Mod_writesData_21 : decode prog_12_method_81_code 21 = .ok (.getfield 347, 3) := by decide +kernel
theorem d_Mod_writesData_24 : decode prog_12_method_81_code 24 = .ok (.iload_n 1, 1) := by decide +kernel
theorem d_Mod_writesData_25 : decode prog_12_method_81_code 25 = .ok (.iaload, 1) := by decide +kernel
theorem d_Mod_writesData_26 : decode prog_12_method_81_code 26 = .ok (.if_icmp .ge 47, 3) := by decide +kernel
theorem d_Mod_writesData_29 : decode prog_12_method_81_code 29 = .ok (.iload_n 1, 1) := by decide +kernel
theorem d_Mod_writesData_30 : decode prog_12_method_81_code 30 = .ok (.aload_n 0, 1) := by decide +kernel
theorem d_Mod_writesData_31 : decode prog_12_method_81_code 31 = .ok (.getfield 209, 3) := by decide +kernel
theorem d_Mod_writesData_34 : decode prog_12_method_81_code 34 = .ok (.if_icmp .lt 39, 3) := by decide +kernel
theorem d_Mod_writesData_37 : decode prog_12_method_81_code 37 = .ok (.iload_n 2, 1) := by decide +kernel
theorem d_Mod_writesData_38 : decode prog_12_method_81_code 38 = .ok (.ifCond .le 9, 3) := by decide +kernel
theorem d_Mod_writesData_41 : decode prog_12_method_81_code 41 = .ok (.aload_n 0, 1) := by decide +kernel
theorem d_Mod_writesData_42 : decode prog_12_method_81_code 42 = .ok (.bipush 44, 2) := by decide +kernel
theorem d_Mod_writesData_44 : decode prog_12_method_81_code 44 = .ok (.invokevirtual 494, 3) := by decide +kernel
theorem d_Mod_writesData_47 : decode prog_12_method_81_code 47 = .ok (.aload_n 0, 1) := by decide +kernel
theorem d_Mod_writesData_48 : decode prog_12_method_81_code 48 = .ok (.aload_n 0, 1) := by decide +kernel
theorem d_Mod_writesData_49 : decode prog_12_method_81_code 49 = .ok (.getfield 116, 3) := by decide +kernel
theorem d_Mod_writesData_52 : decode prog_12_method_81_code 52 = .ok (.aload_n 0, 1) := by decide +kernel
theorem d_Mod_writesData_53 : decode prog_12_method_81_code 53 = .ok (.getfield 350, 3) := by decide +kernel
theorem d_Mod_writesData_56 : decode prog_12_method_81_code 56 = .ok (.bipush 124, 2) := by decide +kernel
theorem d_Mod_writesData_58 : decode prog_12_method_81_code 58 = .ok (.iload_n 1, 1) := by decide +kernel
theorem d_Mod_writesData_59 : decode prog_12_method_81_code 59 = .ok (.imul, 1) := by decide +kernel
theorem d_Mod_writesData_60 : decode prog_12_method_81_code 60 = .ok (.iload_n 2, 1) := by decide +kernel
theorem d_Mod_writesData_61 : decode prog_12_method_81_code 61 = .ok (.iadd, 1) := by decide +kernel
theorem d_Mod_writesData_62 : decode prog_12_method_81_code 62 = .ok (.iaload, 1) := by decide +kernel
theorem d_Mod_writesData_63 : decode prog_12_method_81_code 63 = .ok (.iaload, 1) := by decide +kernel
theorem d_Mod_writesData_64 : decode prog_12_method_81_code 64 = .ok (.invokevirtual 491, 3) := by decide +kernel
theorem d_Mod_writesData_67 : decode prog_12_method_81_code 67 = .ok (.iinc 2 1, 3) := by decide +kernel
theorem d_Mod_writesData_70 : decode prog_12_method_81_code 70 = .ok (.goto (-51), 3) := by decide +kernel
theorem d_Mod_writesData_73 : decode prog_12_method_81_code 73 = .ok (.aload_n 0, 1) := by decide +kernel
theorem d_Mod_writesData_74 : decode prog_12_method_81_code 74 = .ok (.bipush 41, 2) := by decide +kernel
theorem d_Mod_writesData_76 : decode prog_12_method_81_code 76 = .ok (.invokevirtual 494, 3) := by decide +kernel
theorem d_Mod_writesData_79 : decode prog_12_method_81_code 79 = .ok (.return_, 1) := by decide +kernel
def fm_Mod_writesData_j73 (a1 : Int) (w : fa_W) : Option fa_W :=
  (fm_Mod_says 41 w).bind fun w10 =>
  some w10
set_option maxHeartbeats 4000000 in
set_option maxRecDepth 100000 in
theorem c_Mod_writesData_j73 {p : Program} {l : Launch} {e : Env} {s : State} {m : MethodId} {args : Array Value} {below : List Frame} {meth : Method} {c : Code} {hh : Nat} {D : va_G} {b : Nat} {aC : Nat → ClassId} {H0 : Heap} {N T : Nat} (X : fa_GX p s m args meth c prog_12_method_81_code 3 ((Option.none : Option Jvm.ClassFile.FieldType)) y_Mod_writesData.cls D b aC) (hle : 902 ≤ hh) (hN : fa_NM ≤ N) (hT : fa_TM ≤ T) (a1 : Int) {r : fa_W}  : ∀ (w : fa_W) (_ : fm_Mod_writesData_j73 a1 w = some r), fa_GJ p l e (fa_rm hh) s m args below meth c 0 0 (MQ below (fa_Qc D b aC H0 N T (none) r) args s 0 0 (fun q => b ≤ q)) D b aC H0 N T 3 w 73 [(0, .ref (b + 181))] [] := by
  intro w hM
  unfold fm_Mod_writesData_j73 at hM
  refine g_aload_n X 0 rfl d_Mod_writesData_73 ?_
  refine g_bipush X (by decide) d_Mod_writesData_74 ?_
  obtain ⟨w10, e9, hM⟩ := fa_ob hM
  refine g_callV_v X ck_10 fo_181 (fn_181 hN) rfl mi_Mod_says (c_Mod_says hN hT 41 w _ e9) wd_2053 rfl (Nat.le_trans (Nat.le_of_ble_eq_true rfl) hle) (st := []) (Nat.le_of_ble_eq_true rfl) rfl d_Mod_writesData_76 ?_
  cases hM
  exact g_vret X d_Mod_writesData_79
def fm_Mod_writesData_j47 (a1 : Int) (k19 : Int → fa_W → Option fa_W) (x2 : Int) (w : fa_W) : Option fa_W :=
  (fa_ix ((124 * a1) + x2) 2976).bind fun j13 =>
  (fa_ix (w 213 j13) 124).bind fun j14 =>
  (fm_Mod_saysWord 900 (w 192 j14) w).bind fun w16 =>
  fa_let (x2 + 1) fun x2_17 =>
  k19 x2_17 w16
set_option maxHeartbeats 4000000 in
set_option maxRecDepth 100000 in
theorem c_Mod_writesData_j47 {p : Program} {l : Launch} {e : Env} {s : State} {m : MethodId} {args : Array Value} {below : List Frame} {meth : Method} {c : Code} {hh : Nat} {D : va_G} {b : Nat} {aC : Nat → ClassId} {H0 : Heap} {N T : Nat} (X : fa_GX p s m args meth c prog_12_method_81_code 3 ((Option.none : Option Jvm.ClassFile.FieldType)) y_Mod_writesData.cls D b aC) (hle : 902 ≤ hh) (hN : fa_NM ≤ N) (hT : fa_TM ≤ T) (a1 : Int) {r : fa_W} (k19 : Int → fa_W → Option fa_W) (K19 : ∀ (x2 : Int) (w : fa_W), k19 x2 w = some r → fa_GJ p l e (fa_rm hh) s m args below meth c 0 0 (MQ below (fa_Qc D b aC H0 N T (none) r) args s 0 0 (fun q => b ≤ q)) D b aC H0 N T 3 w 19 [(0, .ref (b + 181)), (1, .int (fa_I a1)), (2, .int (fa_I x2))] []) : ∀ (x2 : Int) (w : fa_W) (_ : fm_Mod_writesData_j47 a1 k19 x2 w = some r), fa_GJ p l e (fa_rm hh) s m args below meth c 0 0 (MQ below (fa_Qc D b aC H0 N T (none) r) args s 0 0 (fun q => b ≤ q)) D b aC H0 N T 3 w 47 [(0, .ref (b + 181)), (1, .int (fa_I a1)), (2, .int (fa_I x2))] [] := by
  intro x2 w hM
  unfold fm_Mod_writesData_j47 at hM
  refine g_aload_n X 0 rfl d_Mod_writesData_47 ?_
  refine g_aload_n X 0 rfl d_Mod_writesData_48 ?_
  refine g_get X ck_10 fo_181 (fn_181 hN) 12 (by decide) wd_1754 rfl (fr_181_12 rfl hT) d_Mod_writesData_49 ?_
  refine g_aload_n X 0 rfl d_Mod_writesData_52 ?_
  refine g_get X ck_10 fo_181 (fn_181 hN) 56 (by decide) wd_1797 rfl (fr_181_56 rfl hT) d_Mod_writesData_53 ?_
  refine g_bipush X (by decide) d_Mod_writesData_56 ?_
  refine g_iload_n X 1 rfl d_Mod_writesData_58 ?_
  refine g_imul X d_Mod_writesData_59 ?_
  refine g_iload_n X 2 rfl d_Mod_writesData_60 ?_
  refine g_iadd X d_Mod_writesData_61 ?_
  obtain ⟨j13, ej13, hM⟩ := fa_ob hM
  refine g_iald X fs_213 (fn_213 hN) ej13 d_Mod_writesData_62 ?_
  obtain ⟨j14, ej14, hM⟩ := fa_ob hM
  refine g_iald X fs_192 (fn_192 hN) ej14 d_Mod_writesData_63 ?_
  obtain ⟨w16, e15, hM⟩ := fa_ob hM
  refine g_callV_v X ck_10 fo_181 (fn_181 hN) rfl mi_Mod_saysWord (c_Mod_saysWord hN hT 900 (w 192 j14) w _ e15) wd_2049 rfl (Nat.le_trans (Nat.le_of_ble_eq_true rfl) hle) (st := []) (Nat.le_of_ble_eq_true rfl) rfl d_Mod_writesData_64 ?_
  refine g_iinc X 2 (fun x2_17 => [(2, .int (fa_I x2_17)), (0, .ref (b + 181)), (1, .int (fa_I a1))]) d_Mod_writesData_67 rfl (by decide) (fun _ => rfl) (fun x2_17 ex2_17 => ?_)
  have hM := fa_let_to hM ex2_17
  refine g_goto X 19 d_Mod_writesData_70 (by decide) ?_
  exact g_lv [1, 2, 0] rfl (K19 _ _ hM)
def fm_Mod_writesData_l19 (a1 : Int) : Nat → Int → fa_W → Option fa_W
  | 0, _, _ => none
  | n + 1, x2, w => (fa_ix a1 24).bind fun j7 =>
  if fa_wr (w 214 j7) ≤ fa_wr x2 then
  fm_Mod_writesData_j73 a1 w
  else
  (if fa_wr a1 < fa_wr (w 181 17) then
  fm_Mod_writesData_j73 a1 w
  else
  (if fa_wr x2 ≤ 0 then
  fm_Mod_writesData_j47 a1 (fun x2 w9 => fm_Mod_writesData_l19 a1 n x2 w9) x2 w
  else
  ((fm_Mod_says 44 w).bind fun w19 =>
  fm_Mod_writesData_j47 a1 (fun x2 w9 => fm_Mod_writesData_l19 a1 n x2 w9) x2 w19)))
set_option maxHeartbeats 4000000 in
set_option maxRecDepth 100000 in
theorem c_Mod_writesData_l19 {p : Program} {l : Launch} {e : Env} {s : State} {m : MethodId} {args : Array Value} {below : List Frame} {meth : Method} {c : Code} {hh : Nat} {D : va_G} {b : Nat} {aC : Nat → ClassId} {H0 : Heap} {N T : Nat} (X : fa_GX p s m args meth c prog_12_method_81_code 3 ((Option.none : Option Jvm.ClassFile.FieldType)) y_Mod_writesData.cls D b aC) (hle : 902 ≤ hh) (hN : fa_NM ≤ N) (hT : fa_TM ≤ T) (a1 : Int) {r : fa_W}  : ∀ (n : Nat) (x2 : Int) (w : fa_W), fm_Mod_writesData_l19 a1 n x2 w = some r → fa_GJ p l e (fa_rm hh) s m args below meth c 0 0 (MQ below (fa_Qc D b aC H0 N T (none) r) args s 0 0 (fun q => b ≤ q)) D b aC H0 N T 3 w 19 [(0, .ref (b + 181)), (1, .int (fa_I a1)), (2, .int (fa_I x2))] [] := by
  intro n
  induction n with
  | zero => intro x2 w hM; exact fa_no hM
  | succ n ih =>
    intro x2 w hM
    rw [fm_Mod_writesData_l19] at hM
    refine g_iload_n X 2 rfl d_Mod_writesData_19 ?_
    refine g_aload_n X 0 rfl d_Mod_writesData_20 ?_
    refine g_get X ck_10 fo_181 (fn_181 hN) 57 (by decide) wd_1798 rfl (fr_181_57 rfl hT) d_Mod_writesData_21 ?_
    refine g_iload_n X 1 rfl d_Mod_writesData_24 ?_
    obtain ⟨j7, ej7, hM⟩ := fa_ob hM
    refine g_iald X fs_214 (fn_214 hN) ej7 d_Mod_writesData_25 ?_
    refine g_icmp_ge X 73 d_Mod_writesData_26 (by decide) (fun hc8 => ?_) (fun hc8 => ?_)
    · have hM := fa_if_t hM hc8
      exact g_lv [0] rfl (c_Mod_writesData_j73 X hle hN hT a1    _ hM)
    · have hM := fa_if_f hM hc8
      refine g_iload_n X 1 rfl d_Mod_writesData_29 ?_
      refine g_aload_n X 0 rfl d_Mod_writesData_30 ?_
      refine g_get X ck_10 fo_181 (fn_181 hN) 17 (by decide) wd_1759 rfl (fa_fvI rfl) d_Mod_writesData_31 ?_
      refine g_icmp_lt X 73 d_Mod_writesData_34 (by decide) (fun hc11 => ?_) (fun hc11 => ?_)
      · have hM := fa_if_t hM hc11
        exact g_lv [0] rfl (c_Mod_writesData_j73 X hle hN hT a1    _ hM)
      · have hM := fa_if_f hM hc11
        refine g_iload_n X 2 rfl d_Mod_writesData_37 ?_
        refine g_if_le X 47 d_Mod_writesData_38 (by decide) (fun hc12 => ?_) (fun hc12 => ?_)
        · have hM := fa_if_t hM hc12
          exact g_lv [0, 1, 2] rfl (c_Mod_writesData_j47 X hle hN hT a1  (fun x2 w9 => fm_Mod_writesData_l19 a1 n x2 w9) (fun _ _ h => ih _ _ h)  _ _ hM)
        · have hM := fa_if_f hM hc12
          refine g_aload_n X 0 rfl d_Mod_writesData_41 ?_
          refine g_bipush X (by decide) d_Mod_writesData_42 ?_
          obtain ⟨w19, e18, hM⟩ := fa_ob hM
          refine g_callV_v X ck_10 fo_181 (fn_181 hN) rfl mi_Mod_says (c_Mod_says hN hT 44 w _ e18) wd_2053 rfl (Nat.le_trans (Nat.le_of_ble_eq_true rfl) hle) (st := []) (Nat.le_of_ble_eq_true rfl) rfl d_Mod_writesData_44 ?_
          exact g_lv [0, 1, 2] rfl (c_Mod_writesData_j47 X hle hN hT a1  (fun x2 w9 => fm_Mod_writesData_l19 a1 n x2 w9) (fun _ _ h => ih _ _ h)  _ _ hM)
def fm_Mod_writesData (a1 : Int) (w : fa_W) : Option fa_W :=
  (fm_Mod_says 67 w).bind fun w2 =>
  (fm_Mod_saysNumber 900 a1 w2).bind fun w4 =>
  (fm_Mod_says 40 w4).bind fun w6 =>
  fm_Mod_writesData_l19 a1 fa_FU 0 w6
set_option maxHeartbeats 4000000 in
set_option maxRecDepth 100000 in
theorem c_Mod_writesData {l : Launch} {D : va_G} {b : Nat} {aC : Nat → ClassId} {H0 : Heap} {N T : Nat} (hN : fa_NM ≤ N) (hT : fa_TM ≤ T) (a1 : Int)  (w : fa_W) (r : fa_W) (hM : fm_Mod_writesData a1 w = some r) : fa_MC l D b aC H0 N T y_Mod_writesData prog_12_method_81_code 3 ((Option.none : Option Jvm.ClassFile.FieldType)) (902) [.ref (b + 181), .int (fa_I a1)] w (none) r := by
  refine fa_enter (lv := [(0, .ref (b + 181)), (1, .int (fa_I a1))]) (by decide +kernel) (Nat.le_of_ble_eq_true rfl) rfl (fun hh hle hnm X => ?_)
  unfold fm_Mod_writesData at hM
  refine g_aload_n X 0 rfl d_Mod_writesData_0 ?_
  refine g_bipush X (by decide) d_Mod_writesData_1 ?_
  obtain ⟨w2, e1, hM⟩ := fa_ob hM
  refine g_callV_v X ck_10 fo_181 (fn_181 hN) rfl mi_Mod_says (c_Mod_says hN hT 67 w _ e1) wd_2053 rfl (Nat.le_trans (Nat.le_of_ble_eq_true rfl) hle) (st := []) (Nat.le_of_ble_eq_true rfl) rfl d_Mod_writesData_3 ?_
  refine g_aload_n X 0 rfl d_Mod_writesData_6 ?_
  refine g_iload_n X 1 rfl d_Mod_writesData_7 ?_
  obtain ⟨w4, e3, hM⟩ := fa_ob hM
  refine g_callV_v X ck_10 fo_181 (fn_181 hN) rfl mi_Mod_saysNumber (c_Mod_saysNumber hN hT 900 a1 w2 _ e3) wd_2065 rfl (Nat.le_trans (Nat.le_of_ble_eq_true rfl) hle) (st := []) (Nat.le_of_ble_eq_true rfl) rfl d_Mod_writesData_8 ?_
  refine g_aload_n X 0 rfl d_Mod_writesData_11 ?_
  refine g_bipush X (by decide) d_Mod_writesData_12 ?_
  obtain ⟨w6, e5, hM⟩ := fa_ob hM
  refine g_callV_v X ck_10 fo_181 (fn_181 hN) rfl mi_Mod_says (c_Mod_says hN hT 40 w4 _ e5) wd_2053 rfl (Nat.le_trans (Nat.le_of_ble_eq_true rfl) hle) (st := []) (Nat.le_of_ble_eq_true rfl) rfl d_Mod_writesData_14 ?_
  refine g_iconst X d_Mod_writesData_17 ?_
  refine g_istorec_n X [(2, .int (fa_I 0)), (0, .ref (b + 181)), (1, .int (fa_I a1))] d_Mod_writesData_18 (by decide) rfl ?_
  exact g_lv [1, 2, 0] rfl (c_Mod_writesData_l19 X hle hN hT a1   fa_FU _ _ hM)
