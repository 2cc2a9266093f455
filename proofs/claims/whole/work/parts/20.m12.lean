abbrev cX12_forget : ByteArray := prog_13_method_24_code
def yX12_forget : MethodName := ⟨"SyncTreeModel", "forget", "()V"⟩
theorem Y_X12_forget : tY yX12_forget cX12_forget 5 none 0 := ⟨W_7_235, W_1_14, ⟨by decide +kernel, by decide +kernel⟩, by decide +kernel⟩
theorem dX12_forget_0 : decode cX12_forget 0 = .ok (.aload_n 0, 1) := by decide +kernel
theorem dX12_forget_1 : decode cX12_forget 1 = .ok (.getfield 122, 3) := by decide +kernel
theorem dX12_forget_4 : decode cX12_forget 4 = .ok (.aload_n 0, 1) := by decide +kernel
theorem dX12_forget_5 : decode cX12_forget 5 = .ok (.getfield 128, 3) := by decide +kernel
theorem dX12_forget_8 : decode cX12_forget 8 = .ok (.if_icmp .le 22, 3) := by decide +kernel
theorem dX12_forget_11 : decode cX12_forget 11 = .ok (.aload_n 0, 1) := by decide +kernel
theorem dX12_forget_12 : decode cX12_forget 12 = .ok (.getfield 146, 3) := by decide +kernel
theorem dX12_forget_15 : decode cX12_forget 15 = .ok (.aload_n 0, 1) := by decide +kernel
theorem dX12_forget_16 : decode cX12_forget 16 = .ok (.getfield 122, 3) := by decide +kernel
theorem dX12_forget_19 : decode cX12_forget 19 = .ok (.aload_n 0, 1) := by decide +kernel
theorem dX12_forget_20 : decode cX12_forget 20 = .ok (.getfield 128, 3) := by decide +kernel
theorem dX12_forget_23 : decode cX12_forget 23 = .ok (.isub, 1) := by decide +kernel
theorem dX12_forget_24 : decode cX12_forget 24 = .ok (.iconst 1, 1) := by decide +kernel
theorem dX12_forget_25 : decode cX12_forget 25 = .ok (.isub, 1) := by decide +kernel
theorem dX12_forget_26 : decode cX12_forget 26 = .ok (.iaload, 1) := by decide +kernel
theorem dX12_forget_27 : decode cX12_forget 27 = .ok (.goto 4, 3) := by decide +kernel
theorem dX12_forget_30 : decode cX12_forget 30 = .ok (.iconst 0, 1) := by decide +kernel
theorem dX12_forget_31 : decode cX12_forget 31 = .ok (.istore_n 1, 1) := by decide +kernel
theorem dX12_forget_32 : decode cX12_forget 32 = .ok (.iload_n 1, 1) := by decide +kernel
theorem dX12_forget_33 : decode cX12_forget 33 = .ok (.ifCond .le 85, 3) := by decide +kernel
theorem dX12_forget_36 : decode cX12_forget 36 = .ok (.aload_n 0, 1) := by decide +kernel
theorem dX12_forget_37 : decode cX12_forget 37 = .ok (.getfield 20, 3) := by decide +kernel
theorem dX12_forget_40 : decode cX12_forget 40 = .ok (.iload_n 1, 1) := by decide +kernel
theorem dX12_forget_41 : decode cX12_forget 41 = .ok (.aload_n 0, 1) := by decide +kernel
theorem dX12_forget_42 : decode cX12_forget 42 = .ok (.getfield 20, 3) := by decide +kernel
theorem dX12_forget_45 : decode cX12_forget 45 = .ok (.iconst 0, 1) := by decide +kernel
theorem dX12_forget_46 : decode cX12_forget 46 = .ok (.aload_n 0, 1) := by decide +kernel
theorem dX12_forget_47 : decode cX12_forget 47 = .ok (.getfield 17, 3) := by decide +kernel
theorem dX12_forget_50 : decode cX12_forget 50 = .ok (.iload_n 1, 1) := by decide +kernel
theorem dX12_forget_51 : decode cX12_forget 51 = .ok (.isub, 1) := by decide +kernel
theorem dX12_forget_52 : decode cX12_forget 52 = .ok (.invokestatic 7, 3) := by decide +kernel
theorem dX12_forget_55 : decode cX12_forget 55 = .ok (.aload_n 0, 1) := by decide +kernel
theorem dX12_forget_56 : decode cX12_forget 56 = .ok (.getfield 27, 3) := by decide +kernel
theorem dX12_forget_59 : decode cX12_forget 59 = .ok (.iload_n 1, 1) := by decide +kernel
theorem dX12_forget_60 : decode cX12_forget 60 = .ok (.aload_n 0, 1) := by decide +kernel
theorem dX12_forget_61 : decode cX12_forget 61 = .ok (.getfield 27, 3) := by decide +kernel
theorem dX12_forget_64 : decode cX12_forget 64 = .ok (.iconst 0, 1) := by decide +kernel
theorem dX12_forget_65 : decode cX12_forget 65 = .ok (.aload_n 0, 1) := by decide +kernel
theorem dX12_forget_66 : decode cX12_forget 66 = .ok (.getfield 17, 3) := by decide +kernel
theorem dX12_forget_69 : decode cX12_forget 69 = .ok (.iload_n 1, 1) := by decide +kernel
theorem dX12_forget_70 : decode cX12_forget 70 = .ok (.isub, 1) := by decide +kernel
theorem dX12_forget_71 : decode cX12_forget 71 = .ok (.invokestatic 7, 3) := by decide +kernel
theorem dX12_forget_74 : decode cX12_forget 74 = .ok (.aload_n 0, 1) := by decide +kernel
theorem dX12_forget_75 : decode cX12_forget 75 = .ok (.dup, 1) := by decide +kernel
theorem dX12_forget_76 : decode cX12_forget 76 = .ok (.getfield 17, 3) := by decide +kernel
theorem dX12_forget_79 : decode cX12_forget 79 = .ok (.iload_n 1, 1) := by decide +kernel
theorem dX12_forget_80 : decode cX12_forget 80 = .ok (.isub, 1) := by decide +kernel
theorem dX12_forget_81 : decode cX12_forget 81 = .ok (.putfield 17, 3) := by decide +kernel
theorem dX12_forget_84 : decode cX12_forget 84 = .ok (.iconst 0, 1) := by decide +kernel
theorem dX12_forget_85 : decode cX12_forget 85 = .ok (.istore_n 2, 1) := by decide +kernel
theorem dX12_forget_86 : decode cX12_forget 86 = .ok (.iload_n 2, 1) := by decide +kernel
theorem dX12_forget_87 : decode cX12_forget 87 = .ok (.aload_n 0, 1) := by decide +kernel
theorem dX12_forget_88 : decode cX12_forget 88 = .ok (.getfield 137, 3) := by decide +kernel
theorem dX12_forget_91 : decode cX12_forget 91 = .ok (.if_icmp .ge 27, 3) := by decide +kernel
theorem dX12_forget_94 : decode cX12_forget 94 = .ok (.aload_n 0, 1) := by decide +kernel
theorem dX12_forget_95 : decode cX12_forget 95 = .ok (.getfield 146, 3) := by decide +kernel
theorem dX12_forget_98 : decode cX12_forget 98 = .ok (.iload_n 2, 1) := by decide +kernel
theorem dX12_forget_99 : decode cX12_forget 99 = .ok (.iconst 0, 1) := by decide +kernel
theorem dX12_forget_100 : decode cX12_forget 100 = .ok (.aload_n 0, 1) := by decide +kernel
theorem dX12_forget_101 : decode cX12_forget 101 = .ok (.getfield 146, 3) := by decide +kernel
theorem dX12_forget_104 : decode cX12_forget 104 = .ok (.iload_n 2, 1) := by decide +kernel
theorem dX12_forget_105 : decode cX12_forget 105 = .ok (.iaload, 1) := by decide +kernel
theorem dX12_forget_106 : decode cX12_forget 106 = .ok (.iload_n 1, 1) := by decide +kernel
theorem dX12_forget_107 : decode cX12_forget 107 = .ok (.isub, 1) := by decide +kernel
theorem dX12_forget_108 : decode cX12_forget 108 = .ok (.invokestatic 211, 3) := by decide +kernel
theorem dX12_forget_111 : decode cX12_forget 111 = .ok (.iastore, 1) := by decide +kernel
theorem dX12_forget_112 : decode cX12_forget 112 = .ok (.iinc 2 1, 3) := by decide +kernel
theorem dX12_forget_115 : decode cX12_forget 115 = .ok (.goto (-29), 3) := by decide +kernel
theorem dX12_forget_118 : decode cX12_forget 118 = .ok (.aload_n 0, 1) := by decide +kernel
theorem dX12_forget_119 : decode cX12_forget 119 = .ok (.getfield 119, 3) := by decide +kernel
theorem dX12_forget_122 : decode cX12_forget 122 = .ok (.aload_n 0, 1) := by decide +kernel
theorem dX12_forget_123 : decode cX12_forget 123 = .ok (.getfield 128, 3) := by decide +kernel
theorem dX12_forget_126 : decode cX12_forget 126 = .ok (.isub, 1) := by decide +kernel
theorem dX12_forget_127 : decode cX12_forget 127 = .ok (.istore_n 2, 1) := by decide +kernel
theorem dX12_forget_128 : decode cX12_forget 128 = .ok (.iload_n 2, 1) := by decide +kernel
theorem dX12_forget_129 : decode cX12_forget 129 = .ok (.ifCond .gt 4, 3) := by decide +kernel
theorem dX12_forget_132 : decode cX12_forget 132 = .ok (.return_, 1) := by decide +kernel
theorem dX12_forget_133 : decode cX12_forget 133 = .ok (.aload_n 0, 1) := by decide +kernel
theorem dX12_forget_134 : decode cX12_forget 134 = .ok (.aload_n 0, 1) := by decide +kernel
theorem dX12_forget_135 : decode cX12_forget 135 = .ok (.getfield 143, 3) := by decide +kernel
theorem dX12_forget_138 : decode cX12_forget 138 = .ok (.iload_n 2, 1) := by decide +kernel
theorem dX12_forget_139 : decode cX12_forget 139 = .ok (.iconst 1, 1) := by decide +kernel
theorem dX12_forget_140 : decode cX12_forget 140 = .ok (.isub, 1) := by decide +kernel
theorem dX12_forget_141 : decode cX12_forget 141 = .ok (.iaload, 1) := by decide +kernel
theorem dX12_forget_142 : decode cX12_forget 142 = .ok (.aload_n 0, 1) := by decide +kernel
theorem dX12_forget_143 : decode cX12_forget 143 = .ok (.getfield 125, 3) := by decide +kernel
theorem dX12_forget_146 : decode cX12_forget 146 = .ok (.iload_n 2, 1) := by decide +kernel
theorem dX12_forget_147 : decode cX12_forget 147 = .ok (.iconst 1, 1) := by decide +kernel
theorem dX12_forget_148 : decode cX12_forget 148 = .ok (.isub, 1) := by decide +kernel
theorem dX12_forget_149 : decode cX12_forget 149 = .ok (.iaload, 1) := by decide +kernel
theorem dX12_forget_150 : decode cX12_forget 150 = .ok (.iadd, 1) := by decide +kernel
theorem dX12_forget_151 : decode cX12_forget 151 = .ok (.aload_n 0, 1) := by decide +kernel
theorem dX12_forget_152 : decode cX12_forget 152 = .ok (.getfield 38, 3) := by decide +kernel
theorem dX12_forget_155 : decode cX12_forget 155 = .ok (.irem, 1) := by decide +kernel
theorem dX12_forget_156 : decode cX12_forget 156 = .ok (.putfield 217, 3) := by decide +kernel
theorem dX12_forget_159 : decode cX12_forget 159 = .ok (.iload_n 2, 1) := by decide +kernel
theorem dX12_forget_160 : decode cX12_forget 160 = .ok (.aload_n 0, 1) := by decide +kernel
theorem dX12_forget_161 : decode cX12_forget 161 = .ok (.getfield 137, 3) := by decide +kernel
theorem dX12_forget_164 : decode cX12_forget 164 = .ok (.if_icmp .ge 12, 3) := by decide +kernel
theorem dX12_forget_167 : decode cX12_forget 167 = .ok (.aload_n 0, 1) := by decide +kernel
theorem dX12_forget_168 : decode cX12_forget 168 = .ok (.getfield 149, 3) := by decide +kernel
theorem dX12_forget_171 : decode cX12_forget 171 = .ok (.iload_n 2, 1) := by decide +kernel
theorem dX12_forget_172 : decode cX12_forget 172 = .ok (.iaload, 1) := by decide +kernel
theorem dX12_forget_173 : decode cX12_forget 173 = .ok (.goto 7, 3) := by decide +kernel
theorem dX12_forget_176 : decode cX12_forget 176 = .ok (.aload_n 0, 1) := by decide +kernel
theorem dX12_forget_177 : decode cX12_forget 177 = .ok (.getfield 131, 3) := by decide +kernel
theorem dX12_forget_180 : decode cX12_forget 180 = .ok (.istore_n 3, 1) := by decide +kernel
theorem dX12_forget_181 : decode cX12_forget 181 = .ok (.aload_n 0, 1) := by decide +kernel
theorem dX12_forget_182 : decode cX12_forget 182 = .ok (.getfield 134, 3) := by decide +kernel
theorem dX12_forget_185 : decode cX12_forget 185 = .ok (.iload_n 3, 1) := by decide +kernel
theorem dX12_forget_186 : decode cX12_forget 186 = .ok (.aload_n 0, 1) := by decide +kernel
theorem dX12_forget_187 : decode cX12_forget 187 = .ok (.getfield 134, 3) := by decide +kernel
theorem dX12_forget_190 : decode cX12_forget 190 = .ok (.iconst 0, 1) := by decide +kernel
theorem dX12_forget_191 : decode cX12_forget 191 = .ok (.aload_n 0, 1) := by decide +kernel
theorem dX12_forget_192 : decode cX12_forget 192 = .ok (.getfield 131, 3) := by decide +kernel
theorem dX12_forget_195 : decode cX12_forget 195 = .ok (.iload_n 3, 1) := by decide +kernel
theorem dX12_forget_196 : decode cX12_forget 196 = .ok (.isub, 1) := by decide +kernel
theorem dX12_forget_197 : decode cX12_forget 197 = .ok (.invokestatic 7, 3) := by decide +kernel
theorem dX12_forget_200 : decode cX12_forget 200 = .ok (.aload_n 0, 1) := by decide +kernel
theorem dX12_forget_201 : decode cX12_forget 201 = .ok (.dup, 1) := by decide +kernel
theorem dX12_forget_202 : decode cX12_forget 202 = .ok (.getfield 131, 3) := by decide +kernel
theorem dX12_forget_205 : decode cX12_forget 205 = .ok (.iload_n 3, 1) := by decide +kernel
theorem dX12_forget_206 : decode cX12_forget 206 = .ok (.isub, 1) := by decide +kernel
theorem dX12_forget_207 : decode cX12_forget 207 = .ok (.putfield 131, 3) := by decide +kernel
theorem dX12_forget_210 : decode cX12_forget 210 = .ok (.iload_n 2, 1) := by decide +kernel
theorem dX12_forget_211 : decode cX12_forget 211 = .ok (.istore 4, 2) := by decide +kernel
theorem dX12_forget_213 : decode cX12_forget 213 = .ok (.iload 4, 2) := by decide +kernel
theorem dX12_forget_215 : decode cX12_forget 215 = .ok (.aload_n 0, 1) := by decide +kernel
theorem dX12_forget_216 : decode cX12_forget 216 = .ok (.getfield 137, 3) := by decide +kernel
theorem dX12_forget_219 : decode cX12_forget 219 = .ok (.if_icmp .ge 123, 3) := by decide +kernel
theorem dX12_forget_222 : decode cX12_forget 222 = .ok (.aload_n 0, 1) := by decide +kernel
theorem dX12_forget_223 : decode cX12_forget 223 = .ok (.getfield 140, 3) := by decide +kernel
theorem dX12_forget_226 : decode cX12_forget 226 = .ok (.iload 4, 2) := by decide +kernel
theorem dX12_forget_228 : decode cX12_forget 228 = .ok (.iload_n 2, 1) := by decide +kernel
theorem dX12_forget_229 : decode cX12_forget 229 = .ok (.isub, 1) := by decide +kernel
theorem dX12_forget_230 : decode cX12_forget 230 = .ok (.aload_n 0, 1) := by decide +kernel
theorem dX12_forget_231 : decode cX12_forget 231 = .ok (.getfield 140, 3) := by decide +kernel
theorem dX12_forget_234 : decode cX12_forget 234 = .ok (.iload 4, 2) := by decide +kernel
theorem dX12_forget_236 : decode cX12_forget 236 = .ok (.iaload, 1) := by decide +kernel
theorem dX12_forget_237 : decode cX12_forget 237 = .ok (.iastore, 1) := by decide +kernel
theorem dX12_forget_238 : decode cX12_forget 238 = .ok (.aload_n 0, 1) := by decide +kernel
theorem dX12_forget_239 : decode cX12_forget 239 = .ok (.getfield 143, 3) := by decide +kernel
theorem dX12_forget_242 : decode cX12_forget 242 = .ok (.iload 4, 2) := by decide +kernel
theorem dX12_forget_244 : decode cX12_forget 244 = .ok (.iload_n 2, 1) := by decide +kernel
theorem dX12_forget_245 : decode cX12_forget 245 = .ok (.isub, 1) := by decide +kernel
theorem dX12_forget_246 : decode cX12_forget 246 = .ok (.aload_n 0, 1) := by decide +kernel
theorem dX12_forget_247 : decode cX12_forget 247 = .ok (.getfield 143, 3) := by decide +kernel
theorem dX12_forget_250 : decode cX12_forget 250 = .ok (.iload 4, 2) := by decide +kernel
theorem dX12_forget_252 : decode cX12_forget 252 = .ok (.iaload, 1) := by decide +kernel
theorem dX12_forget_253 : decode cX12_forget 253 = .ok (.iastore, 1) := by decide +kernel
theorem dX12_forget_254 : decode cX12_forget 254 = .ok (.aload_n 0, 1) := by decide +kernel
theorem dX12_forget_255 : decode cX12_forget 255 = .ok (.getfield 125, 3) := by decide +kernel
theorem dX12_forget_258 : decode cX12_forget 258 = .ok (.iload 4, 2) := by decide +kernel
theorem dX12_forget_260 : decode cX12_forget 260 = .ok (.iload_n 2, 1) := by decide +kernel
theorem dX12_forget_261 : decode cX12_forget 261 = .ok (.isub, 1) := by decide +kernel
theorem dX12_forget_262 : decode cX12_forget 262 = .ok (.aload_n 0, 1) := by decide +kernel
theorem dX12_forget_263 : decode cX12_forget 263 = .ok (.getfield 125, 3) := by decide +kernel
theorem dX12_forget_266 : decode cX12_forget 266 = .ok (.iload 4, 2) := by decide +kernel
theorem dX12_forget_268 : decode cX12_forget 268 = .ok (.iaload, 1) := by decide +kernel
theorem dX12_forget_269 : decode cX12_forget 269 = .ok (.iastore, 1) := by decide +kernel
theorem dX12_forget_270 : decode cX12_forget 270 = .ok (.aload_n 0, 1) := by decide +kernel
theorem dX12_forget_271 : decode cX12_forget 271 = .ok (.getfield 146, 3) := by decide +kernel
theorem dX12_forget_274 : decode cX12_forget 274 = .ok (.iload 4, 2) := by decide +kernel
theorem dX12_forget_276 : decode cX12_forget 276 = .ok (.iload_n 2, 1) := by decide +kernel
theorem dX12_forget_277 : decode cX12_forget 277 = .ok (.isub, 1) := by decide +kernel
theorem dX12_forget_278 : decode cX12_forget 278 = .ok (.aload_n 0, 1) := by decide +kernel
theorem dX12_forget_279 : decode cX12_forget 279 = .ok (.getfield 146, 3) := by decide +kernel
theorem dX12_forget_282 : decode cX12_forget 282 = .ok (.iload 4, 2) := by decide +kernel
theorem dX12_forget_284 : decode cX12_forget 284 = .ok (.iaload, 1) := by decide +kernel
theorem dX12_forget_285 : decode cX12_forget 285 = .ok (.iastore, 1) := by decide +kernel
theorem dX12_forget_286 : decode cX12_forget 286 = .ok (.aload_n 0, 1) := by decide +kernel
theorem dX12_forget_287 : decode cX12_forget 287 = .ok (.getfield 149, 3) := by decide +kernel
theorem dX12_forget_290 : decode cX12_forget 290 = .ok (.iload 4, 2) := by decide +kernel
theorem dX12_forget_292 : decode cX12_forget 292 = .ok (.iload_n 2, 1) := by decide +kernel
theorem dX12_forget_293 : decode cX12_forget 293 = .ok (.isub, 1) := by decide +kernel
theorem dX12_forget_294 : decode cX12_forget 294 = .ok (.aload_n 0, 1) := by decide +kernel
theorem dX12_forget_295 : decode cX12_forget 295 = .ok (.getfield 149, 3) := by decide +kernel
theorem dX12_forget_298 : decode cX12_forget 298 = .ok (.iload 4, 2) := by decide +kernel
theorem dX12_forget_300 : decode cX12_forget 300 = .ok (.iaload, 1) := by decide +kernel
theorem dX12_forget_301 : decode cX12_forget 301 = .ok (.iload_n 3, 1) := by decide +kernel
theorem dX12_forget_302 : decode cX12_forget 302 = .ok (.isub, 1) := by decide +kernel
theorem dX12_forget_303 : decode cX12_forget 303 = .ok (.iastore, 1) := by decide +kernel
theorem dX12_forget_304 : decode cX12_forget 304 = .ok (.aload_n 0, 1) := by decide +kernel
theorem dX12_forget_305 : decode cX12_forget 305 = .ok (.getfield 152, 3) := by decide +kernel
theorem dX12_forget_308 : decode cX12_forget 308 = .ok (.iload 4, 2) := by decide +kernel
theorem dX12_forget_310 : decode cX12_forget 310 = .ok (.iload_n 2, 1) := by decide +kernel
theorem dX12_forget_311 : decode cX12_forget 311 = .ok (.isub, 1) := by decide +kernel
theorem dX12_forget_312 : decode cX12_forget 312 = .ok (.aload_n 0, 1) := by decide +kernel
theorem dX12_forget_313 : decode cX12_forget 313 = .ok (.getfield 152, 3) := by decide +kernel
theorem dX12_forget_316 : decode cX12_forget 316 = .ok (.iload 4, 2) := by decide +kernel
theorem dX12_forget_318 : decode cX12_forget 318 = .ok (.iaload, 1) := by decide +kernel
theorem dX12_forget_319 : decode cX12_forget 319 = .ok (.iastore, 1) := by decide +kernel
theorem dX12_forget_320 : decode cX12_forget 320 = .ok (.aload_n 0, 1) := by decide +kernel
theorem dX12_forget_321 : decode cX12_forget 321 = .ok (.getfield 155, 3) := by decide +kernel
theorem dX12_forget_324 : decode cX12_forget 324 = .ok (.iload 4, 2) := by decide +kernel
theorem dX12_forget_326 : decode cX12_forget 326 = .ok (.iload_n 2, 1) := by decide +kernel
theorem dX12_forget_327 : decode cX12_forget 327 = .ok (.isub, 1) := by decide +kernel
theorem dX12_forget_328 : decode cX12_forget 328 = .ok (.aload_n 0, 1) := by decide +kernel
theorem dX12_forget_329 : decode cX12_forget 329 = .ok (.getfield 155, 3) := by decide +kernel
theorem dX12_forget_332 : decode cX12_forget 332 = .ok (.iload 4, 2) := by decide +kernel
theorem dX12_forget_334 : decode cX12_forget 334 = .ok (.iaload, 1) := by decide +kernel
theorem dX12_forget_335 : decode cX12_forget 335 = .ok (.iastore, 1) := by decide +kernel
theorem dX12_forget_336 : decode cX12_forget 336 = .ok (.iinc 4 1, 3) := by decide +kernel
theorem dX12_forget_339 : decode cX12_forget 339 = .ok (.goto (-126), 3) := by decide +kernel
theorem dX12_forget_342 : decode cX12_forget 342 = .ok (.aload_n 0, 1) := by decide +kernel
theorem dX12_forget_343 : decode cX12_forget 343 = .ok (.dup, 1) := by decide +kernel
theorem dX12_forget_344 : decode cX12_forget 344 = .ok (.getfield 137, 3) := by decide +kernel
theorem dX12_forget_347 : decode cX12_forget 347 = .ok (.iload_n 2, 1) := by decide +kernel
theorem dX12_forget_348 : decode cX12_forget 348 = .ok (.isub, 1) := by decide +kernel
theorem dX12_forget_349 : decode cX12_forget 349 = .ok (.putfield 137, 3) := by decide +kernel
theorem dX12_forget_352 : decode cX12_forget 352 = .ok (.aload_n 0, 1) := by decide +kernel
theorem dX12_forget_353 : decode cX12_forget 353 = .ok (.aload_n 0, 1) := by decide +kernel
theorem dX12_forget_354 : decode cX12_forget 354 = .ok (.getfield 119, 3) := by decide +kernel
theorem dX12_forget_357 : decode cX12_forget 357 = .ok (.putfield 128, 3) := by decide +kernel
theorem dX12_forget_360 : decode cX12_forget 360 = .ok (.return_, 1) := by decide +kernel
def L_X12_forget_213 (b0 fu : Nat)  : Nat → Nat → Int32 → Int32 → Int32 → tM → Option ((Unit) × tM)
  | 0, _, _, _, _, _ => none
  | n + 1, x0, x2, x3, x4, σ => ltb (L_X12_forget_213 b0 fu  n) (fun rc213 => ckO b0 (σ) (x0) 11 (if (tI (σ) (x0) 36) ≤ (x4) then some ((), sI (sI (σ) (x0) 36 ((tI (σ) (x0) 36) - (x2))) (x0) 35 (tI (sI (σ) (x0) 36 ((tI (σ) (x0) 36) - (x2))) (x0) 32)) else osm (tA (σ) (x0) 37) (fun a46 => osm (tA (σ) (x0) 37) (fun a48 => ckR b0 (σ) (a48) 0 (fun n52 => ckI (x4) (n52) (ckR b0 (σ) (a46) 0 (fun n56 => ckI ((x4) - (x2)) (n56) (osm (tA (sI (σ) (a46) (((x4) - (x2)).toNatClampNeg) (tI (σ) (a48) ((x4).toNatClampNeg))) (x0) 38) (fun a58 => osm (tA (sI (σ) (a46) (((x4) - (x2)).toNatClampNeg) (tI (σ) (a48) ((x4).toNatClampNeg))) (x0) 38) (fun a60 => ckR b0 (sI (σ) (a46) (((x4) - (x2)).toNatClampNeg) (tI (σ) (a48) ((x4).toNatClampNeg))) (a60) 0 (fun n64 => ckI (x4) (n64) (ckR b0 (sI (σ) (a46) (((x4) - (x2)).toNatClampNeg) (tI (σ) (a48) ((x4).toNatClampNeg))) (a58) 0 (fun n68 => ckI ((x4) - (x2)) (n68) (osm (tA (sI (sI (σ) (a46) (((x4) - (x2)).toNatClampNeg) (tI (σ) (a48) ((x4).toNatClampNeg))) (a58) (((x4) - (x2)).toNatClampNeg) (tI (sI (σ) (a46) (((x4) - (x2)).toNatClampNeg) (tI (σ) (a48) ((x4).toNatClampNeg))) (a60) ((x4).toNatClampNeg))) (x0) 39) (fun a70 => osm (tA (sI (sI (σ) (a46) (((x4) - (x2)).toNatClampNeg) (tI (σ) (a48) ((x4).toNatClampNeg))) (a58) (((x4) - (x2)).toNatClampNeg) (tI (sI (σ) (a46) (((x4) - (x2)).toNatClampNeg) (tI (σ) (a48) ((x4).toNatClampNeg))) (a60) ((x4).toNatClampNeg))) (x0) 39) (fun a72 => ckR b0 (sI (sI (σ) (a46) (((x4) - (x2)).toNatClampNeg) (tI (σ) (a48) ((x4).toNatClampNeg))) (a58) (((x4) - (x2)).toNatClampNeg) (tI (sI (σ) (a46) (((x4) - (x2)).toNatClampNeg) (tI (σ) (a48) ((x4).toNatClampNeg))) (a60) ((x4).toNatClampNeg))) (a72) 0 (fun n76 => ckI (x4) (n76) (ckR b0 (sI (sI (σ) (a46) (((x4) - (x2)).toNatClampNeg) (tI (σ) (a48) ((x4).toNatClampNeg))) (a58) (((x4) - (x2)).toNatClampNeg) (tI (sI (σ) (a46) (((x4) - (x2)).toNatClampNeg) (tI (σ) (a48) ((x4).toNatClampNeg))) (a60) ((x4).toNatClampNeg))) (a70) 0 (fun n80 => ckI ((x4) - (x2)) (n80) (ltb (sI (sI (sI (σ) (a46) (((x4) - (x2)).toNatClampNeg) (tI (σ) (a48) ((x4).toNatClampNeg))) (a58) (((x4) - (x2)).toNatClampNeg) (tI (sI (σ) (a46) (((x4) - (x2)).toNatClampNeg) (tI (σ) (a48) ((x4).toNatClampNeg))) (a60) ((x4).toNatClampNeg))) (a70) (((x4) - (x2)).toNatClampNeg) (tI (sI (sI (σ) (a46) (((x4) - (x2)).toNatClampNeg) (tI (σ) (a48) ((x4).toNatClampNeg))) (a58) (((x4) - (x2)).toNatClampNeg) (tI (sI (σ) (a46) (((x4) - (x2)).toNatClampNeg) (tI (σ) (a48) ((x4).toNatClampNeg))) (a60) ((x4).toNatClampNeg))) (a72) ((x4).toNatClampNeg))) (fun ρ82 => osm (tA (ρ82) (x0) 40) (fun a97 => osm (tA (ρ82) (x0) 40) (fun a99 => ckR b0 (ρ82) (a99) 0 (fun n103 => ckI (x4) (n103) (ckR b0 (ρ82) (a97) 0 (fun n107 => ckI ((x4) - (x2)) (n107) (osm (tA (sI (ρ82) (a97) (((x4) - (x2)).toNatClampNeg) (tI (ρ82) (a99) ((x4).toNatClampNeg))) (x0) 41) (fun a109 => osm (tA (sI (ρ82) (a97) (((x4) - (x2)).toNatClampNeg) (tI (ρ82) (a99) ((x4).toNatClampNeg))) (x0) 41) (fun a111 => ckR b0 (sI (ρ82) (a97) (((x4) - (x2)).toNatClampNeg) (tI (ρ82) (a99) ((x4).toNatClampNeg))) (a111) 0 (fun n115 => ckI (x4) (n115) (ckR b0 (sI (ρ82) (a97) (((x4) - (x2)).toNatClampNeg) (tI (ρ82) (a99) ((x4).toNatClampNeg))) (a109) 0 (fun n119 => ckI ((x4) - (x2)) (n119) (osm (tA (sI (sI (ρ82) (a97) (((x4) - (x2)).toNatClampNeg) (tI (ρ82) (a99) ((x4).toNatClampNeg))) (a109) (((x4) - (x2)).toNatClampNeg) ((tI (sI (ρ82) (a97) (((x4) - (x2)).toNatClampNeg) (tI (ρ82) (a99) ((x4).toNatClampNeg))) (a111) ((x4).toNatClampNeg)) - (x3))) (x0) 42) (fun a121 => osm (tA (sI (sI (ρ82) (a97) (((x4) - (x2)).toNatClampNeg) (tI (ρ82) (a99) ((x4).toNatClampNeg))) (a109) (((x4) - (x2)).toNatClampNeg) ((tI (sI (ρ82) (a97) (((x4) - (x2)).toNatClampNeg) (tI (ρ82) (a99) ((x4).toNatClampNeg))) (a111) ((x4).toNatClampNeg)) - (x3))) (x0) 42) (fun a123 => ckR b0 (sI (sI (ρ82) (a97) (((x4) - (x2)).toNatClampNeg) (tI (ρ82) (a99) ((x4).toNatClampNeg))) (a109) (((x4) - (x2)).toNatClampNeg) ((tI (sI (ρ82) (a97) (((x4) - (x2)).toNatClampNeg) (tI (ρ82) (a99) ((x4).toNatClampNeg))) (a111) ((x4).toNatClampNeg)) - (x3))) (a123) 0 (fun n127 => ckI (x4) (n127) (ckR b0 (sI (sI (ρ82) (a97) (((x4) - (x2)).toNatClampNeg) (tI (ρ82) (a99) ((x4).toNatClampNeg))) (a109) (((x4) - (x2)).toNatClampNeg) ((tI (sI (ρ82) (a97) (((x4) - (x2)).toNatClampNeg) (tI (ρ82) (a99) ((x4).toNatClampNeg))) (a111) ((x4).toNatClampNeg)) - (x3))) (a121) 0 (fun n131 => ckI ((x4) - (x2)) (n131) (ltb (sI (sI (sI (ρ82) (a97) (((x4) - (x2)).toNatClampNeg) (tI (ρ82) (a99) ((x4).toNatClampNeg))) (a109) (((x4) - (x2)).toNatClampNeg) ((tI (sI (ρ82) (a97) (((x4) - (x2)).toNatClampNeg) (tI (ρ82) (a99) ((x4).toNatClampNeg))) (a111) ((x4).toNatClampNeg)) - (x3))) (a121) (((x4) - (x2)).toNatClampNeg) (tI (sI (sI (ρ82) (a97) (((x4) - (x2)).toNatClampNeg) (tI (ρ82) (a99) ((x4).toNatClampNeg))) (a109) (((x4) - (x2)).toNatClampNeg) ((tI (sI (ρ82) (a97) (((x4) - (x2)).toNatClampNeg) (tI (ρ82) (a99) ((x4).toNatClampNeg))) (a111) ((x4).toNatClampNeg)) - (x3))) (a123) ((x4).toNatClampNeg))) (fun ρ133 => osm (tA (ρ133) (x0) 43) (fun a160 => osm (tA (ρ133) (x0) 43) (fun a162 => ckR b0 (ρ133) (a162) 0 (fun n166 => ckI (x4) (n166) (ckR b0 (ρ133) (a160) 0 (fun n170 => ckI ((x4) - (x2)) (n170) (ltb ((x4) + Int32.ofInt 1) (fun y172 => rc213 (x0) (x2) (x3) (y172) (sI (ρ133) (a160) (((x4) - (x2)).toNatClampNeg) (tI (ρ133) (a162) ((x4).toNatClampNeg))))))))))))))))))))))))))))))))))))))))))))))))))
def J_X12_forget_180 (b0 fu : Nat)  (x0 : Nat) (x2 : Int32) (s0 : Int32) (σ : tM) : Option ((Unit) × tM) := ckO b0 (σ) (x0) 11 (osm (tA (σ) (x0) 44) (fun a24 => osm (tA (σ) (x0) 44) (fun a26 => ckR b0 (σ) (a24) 0 (fun n30 => ckR b0 (σ) (a26) 0 (fun n33 => ckC (s0) (0) ((tI (σ) (x0) 45) - (s0)) (n30) (n33) (ltb (sI (sIr (σ) (a26) (va_cpy (tI (σ) (a24)) (tI (σ) (a26)) ((s0).toNatClampNeg) (((0 : Int32)).toNatClampNeg) (((tI (σ) (x0) 45) - (s0)).toNatClampNeg))) (x0) 45 ((tI (sIr (σ) (a26) (va_cpy (tI (σ) (a24)) (tI (σ) (a26)) ((s0).toNatClampNeg) (((0 : Int32)).toNatClampNeg) (((tI (σ) (x0) 45) - (s0)).toNatClampNeg))) (x0) 45) - (s0))) (fun ρ36 => L_X12_forget_213 b0 fu  (fu) (x0) (x2) (s0) (x2) (ρ36))))))))
def J_X12_forget_118 (b0 fu : Nat)  (x0 : Nat) (σ : tM) : Option ((Unit) × tM) := ckO b0 (σ) (x0) 11 (ltb (((tI (σ) (x0) 32) - (tI (σ) (x0) 35) : Int32)) (fun y7 => if (0) < (y7) then osm (tA (σ) (x0) 38) (fun a9 => ckR b0 (σ) (a9) 0 (fun n13 => ckI ((y7) - (1)) (n13) (osm (tA (σ) (x0) 39) (fun a15 => ckR b0 (σ) (a15) 0 (fun n19 => ckI ((y7) - (1)) (n19) (ckD (tI (σ) (x0) 6) (if (tI (sI (σ) (x0) 46 (((tI (σ) (a9) (((y7) - (1)).toNatClampNeg)) + (tI (σ) (a15) (((y7) - (1)).toNatClampNeg))) - ((tI (σ) (a9) (((y7) - (1)).toNatClampNeg)) + (tI (σ) (a15) (((y7) - (1)).toNatClampNeg))) / (tI (σ) (x0) 6) * (tI (σ) (x0) 6))) (x0) 36) ≤ (y7) then J_X12_forget_180 b0 fu   (x0) (y7) (tI (sI (σ) (x0) 46 (((tI (σ) (a9) (((y7) - (1)).toNatClampNeg)) + (tI (σ) (a15) (((y7) - (1)).toNatClampNeg))) - ((tI (σ) (a9) (((y7) - (1)).toNatClampNeg)) + (tI (σ) (a15) (((y7) - (1)).toNatClampNeg))) / (tI (σ) (x0) 6) * (tI (σ) (x0) 6))) (x0) 45) (sI (σ) (x0) 46 (((tI (σ) (a9) (((y7) - (1)).toNatClampNeg)) + (tI (σ) (a15) (((y7) - (1)).toNatClampNeg))) - ((tI (σ) (a9) (((y7) - (1)).toNatClampNeg)) + (tI (σ) (a15) (((y7) - (1)).toNatClampNeg))) / (tI (σ) (x0) 6) * (tI (σ) (x0) 6))) else osm (tA (sI (σ) (x0) 46 (((tI (σ) (a9) (((y7) - (1)).toNatClampNeg)) + (tI (σ) (a15) (((y7) - (1)).toNatClampNeg))) - ((tI (σ) (a9) (((y7) - (1)).toNatClampNeg)) + (tI (σ) (a15) (((y7) - (1)).toNatClampNeg))) / (tI (σ) (x0) 6) * (tI (σ) (x0) 6))) (x0) 41) (fun a173 => ckR b0 (sI (σ) (x0) 46 (((tI (σ) (a9) (((y7) - (1)).toNatClampNeg)) + (tI (σ) (a15) (((y7) - (1)).toNatClampNeg))) - ((tI (σ) (a9) (((y7) - (1)).toNatClampNeg)) + (tI (σ) (a15) (((y7) - (1)).toNatClampNeg))) / (tI (σ) (x0) 6) * (tI (σ) (x0) 6))) (a173) 0 (fun n177 => ckI (y7) (n177) (J_X12_forget_180 b0 fu   (x0) (y7) (tI (sI (σ) (x0) 46 (((tI (σ) (a9) (((y7) - (1)).toNatClampNeg)) + (tI (σ) (a15) (((y7) - (1)).toNatClampNeg))) - ((tI (σ) (a9) (((y7) - (1)).toNatClampNeg)) + (tI (σ) (a15) (((y7) - (1)).toNatClampNeg))) / (tI (σ) (x0) 6) * (tI (σ) (x0) 6))) (a173) ((y7).toNatClampNeg)) (sI (σ) (x0) 46 (((tI (σ) (a9) (((y7) - (1)).toNatClampNeg)) + (tI (σ) (a15) (((y7) - (1)).toNatClampNeg))) - ((tI (σ) (a9) (((y7) - (1)).toNatClampNeg)) + (tI (σ) (a15) (((y7) - (1)).toNatClampNeg))) / (tI (σ) (x0) 6) * (tI (σ) (x0) 6))))))))))))) else some ((), σ)))
def L_X12_forget_86 (b0 fu : Nat)  : Nat → Nat → Int32 → Int32 → tM → Option ((Unit) × tM)
  | 0, _, _, _, _ => none
  | n + 1, x0, x1, x2, σ => ltb (L_X12_forget_86 b0 fu  n) (fun rc86 => ckO b0 (σ) (x0) 11 (if (tI (σ) (x0) 36) ≤ (x2) then J_X12_forget_118 b0 fu   (x0) (σ) else osm (tA (σ) (x0) 40) (fun a220 => osm (tA (σ) (x0) 40) (fun a222 => ckR b0 (σ) (a222) 0 (fun n226 => ckI (x2) (n226) (ckR b0 (σ) (a220) 0 (fun n230 => ckI (x2) (n230) (ltb ((x2) + Int32.ofInt 1) (fun y232 => rc86 (x0) (x1) (y232) (sI (σ) (a220) ((x2).toNatClampNeg) ((if ((0 : Int32)) < ((tI (σ) (a222) ((x2).toNatClampNeg)) - (x1)) then ((tI (σ) (a222) ((x2).toNatClampNeg)) - (x1)) else (0) : Int32))))))))))))
def J_X12_forget_31 (b0 fu : Nat)  (x0 : Nat) (s0 : Int32) (σ : tM) : Option ((Unit) × tM) := if (s0) ≤ (0) then J_X12_forget_118 b0 fu   (x0) (σ) else ckO b0 (σ) (x0) 11 (osm (tA (σ) (x0) 2) (fun a182 => osm (tA (σ) (x0) 2) (fun a184 => ckR b0 (σ) (a182) 0 (fun n188 => ckR b0 (σ) (a184) 0 (fun n191 => ckC (s0) (0) ((tI (σ) (x0) 4) - (s0)) (n188) (n191) (osm (tA (sIr (σ) (a184) (va_cpy (tI (σ) (a182)) (tI (σ) (a184)) ((s0).toNatClampNeg) (((0 : Int32)).toNatClampNeg) (((tI (σ) (x0) 4) - (s0)).toNatClampNeg))) (x0) 3) (fun a194 => osm (tA (sIr (σ) (a184) (va_cpy (tI (σ) (a182)) (tI (σ) (a184)) ((s0).toNatClampNeg) (((0 : Int32)).toNatClampNeg) (((tI (σ) (x0) 4) - (s0)).toNatClampNeg))) (x0) 3) (fun a196 => ckR b0 (sIr (σ) (a184) (va_cpy (tI (σ) (a182)) (tI (σ) (a184)) ((s0).toNatClampNeg) (((0 : Int32)).toNatClampNeg) (((tI (σ) (x0) 4) - (s0)).toNatClampNeg))) (a194) 0 (fun n200 => ckR b0 (sIr (σ) (a184) (va_cpy (tI (σ) (a182)) (tI (σ) (a184)) ((s0).toNatClampNeg) (((0 : Int32)).toNatClampNeg) (((tI (σ) (x0) 4) - (s0)).toNatClampNeg))) (a196) 0 (fun n203 => ckC (s0) (0) ((tI (sIr (σ) (a184) (va_cpy (tI (σ) (a182)) (tI (σ) (a184)) ((s0).toNatClampNeg) (((0 : Int32)).toNatClampNeg) (((tI (σ) (x0) 4) - (s0)).toNatClampNeg))) (x0) 4) - (s0)) (n200) (n203) (ltb (sIr (sIr (σ) (a184) (va_cpy (tI (σ) (a182)) (tI (σ) (a184)) ((s0).toNatClampNeg) (((0 : Int32)).toNatClampNeg) (((tI (σ) (x0) 4) - (s0)).toNatClampNeg))) (a196) (va_cpy (tI (sIr (σ) (a184) (va_cpy (tI (σ) (a182)) (tI (σ) (a184)) ((s0).toNatClampNeg) (((0 : Int32)).toNatClampNeg) (((tI (σ) (x0) 4) - (s0)).toNatClampNeg))) (a194)) (tI (sIr (σ) (a184) (va_cpy (tI (σ) (a182)) (tI (σ) (a184)) ((s0).toNatClampNeg) (((0 : Int32)).toNatClampNeg) (((tI (σ) (x0) 4) - (s0)).toNatClampNeg))) (a196)) ((s0).toNatClampNeg) (((0 : Int32)).toNatClampNeg) (((tI (sIr (σ) (a184) (va_cpy (tI (σ) (a182)) (tI (σ) (a184)) ((s0).toNatClampNeg) (((0 : Int32)).toNatClampNeg) (((tI (σ) (x0) 4) - (s0)).toNatClampNeg))) (x0) 4) - (s0)).toNatClampNeg))) (fun ρ206 => L_X12_forget_86 b0 fu  (fu) (x0) (s0) (0) (sI (ρ206) (x0) 4 ((tI (ρ206) (x0) 4) - (s0)))))))))))))))
def m_X12_forget (b0 fu : Nat) (a0 : Nat) (σ : tM) : Option ((Unit) × tM) := grw σ (ckO b0 (σ) (a0) 11 (if (tI (σ) (a0) 28) ≤ (tI (σ) (a0) 35) then J_X12_forget_31 b0 fu   (a0) (0) (σ) else osm (tA (σ) (a0) 40) (fun a233 => ckR b0 (σ) (a233) 0 (fun n237 => ckI (((tI (σ) (a0) 28) - (tI (σ) (a0) 35)) - (1)) (n237) (J_X12_forget_31 b0 fu   (a0) (tI (σ) (a233) ((((tI (σ) (a0) 28) - (tI (σ) (a0) 35)) - (1)).toNatClampNeg)) (σ))))))
set_option maxRecDepth 100000 in
set_option maxHeartbeats 1000000 in
theorem l_X12_forget_213 {p : Program} {l : Launch} {e : Env} {s : State} {m : MethodId} {args : Array Value} {below : List Frame} {meth : Method} {c : Code} {D : va_G} {aC : Nat → ClassId} {b0 fu : Nat} {σ0 τ : tM} {v : Unit}  (C : tCx p l s m args meth c yX12_forget.cls cX12_forget 5 none D aC b0 σ0) (htab : ∀ x ∈ c.exceptionTable.toList, False) (hin : meth.name = yX12_forget.name)  : ∀ (n : Nat) (x0 : Nat) (x2 : Int32) (x3 : Int32) (x4 : Int32) (σ : tM), L_X12_forget_213 b0 fu  n x0 x2 x3 x4 σ = some (v, τ) → tX p l e s m args below meth c 5 1 26 D aC b0 σ0 (.inl none) τ 213 [(0, .ref (x0)), (2, .int (x2)), (3, .int (x3)), (4, .int (x4))] [] σ := by
  intro n
  induction n with
  | zero => intro x0 x2 x3 x4 σ hm; unfold L_X12_forget_213 at hm; cases hm
  | succ n ih =>
    intro x0 x2 x3 x4 σ hm
    unfold L_X12_forget_213 at hm
    obtain ⟨rc213, hrc⟩ : ∃ z, z = L_X12_forget_213 b0 fu  n := ⟨_, rfl⟩
    replace hm := ltb_e hm hrc
    rw [← hrc] at ih
    have hrc213 := ih
    clear ih hrc
    refine zx_iload C dX12_forget_213 3 rfl ?_
    refine zx_aload_n C dX12_forget_215 0 rfl ?_
    obtain ⟨k43, i44, hm⟩ := ckO_e hm
    refine zx_get (j := 36) C tC_11 k43 i44 ⟨by decide, Or.inl W_7_15⟩ dX12_forget_216 (.int (tI (σ) (x0) 36)) rfl ?_
    refine zx_icmp_ge C 342 dX12_forget_219 (by decide) (fun c45 => ?_) (fun c45 => ?_)
    · replace hm := ip_e hm c45
      refine zx_aload_n C dX12_forget_342 0 rfl ?_
      refine zx_dup C dX12_forget_343 rfl ?_
      refine zx_get (j := 36) C tC_11 k43 i44 ⟨by decide, Or.inl W_7_15⟩ dX12_forget_344 (.int (tI (σ) (x0) 36)) rfl ?_
      refine zx_iload_n C dX12_forget_347 1 rfl ?_
      refine zx_isub C dX12_forget_348 ?_
      refine zx_put (j := 36) (ρ := sI (σ) (x0) 36 ((tI (σ) (x0) 36) - (x2))) C tC_11 k43 i44 ⟨by decide, Or.inl W_7_15⟩ rfl rfl rfl (sI_ok (fun _ => rfl)) dX12_forget_349 ?_
      refine zx_aload_n C dX12_forget_352 0 rfl ?_
      refine zx_aload_n C dX12_forget_353 0 rfl ?_
      refine zx_get (j := 32) C tC_11 k43 i44 ⟨by decide, Or.inl W_7_11⟩ dX12_forget_354 (.int (tI (sI (σ) (x0) 36 ((tI (σ) (x0) 36) - (x2))) (x0) 32)) rfl ?_
      refine zx_put (j := 35) (ρ := sI (sI (σ) (x0) 36 ((tI (σ) (x0) 36) - (x2))) (x0) 35 (tI (sI (σ) (x0) 36 ((tI (σ) (x0) 36) - (x2))) (x0) 32)) C tC_11 k43 i44 ⟨by decide, Or.inl W_7_14⟩ rfl rfl rfl (sI_ok (fun _ => rfl)) dX12_forget_357 ?_
      obtain ⟨rfl, rfl⟩ := ret_e hm
      exact zx_vret C rfl rfl rfl dX12_forget_360
    · replace hm := in_e hm c45
      refine zx_aload_n C dX12_forget_222 0 rfl ?_
      obtain ⟨a46, h47, hm⟩ := osm_e hm
      refine zx_get (j := 37) C tC_11 k43 i44 ⟨by decide, Or.inl W_7_16⟩ dX12_forget_223 (.ref a46) (rf_s h47) ?_
      refine zx_iload C dX12_forget_226 3 rfl ?_
      refine zx_iload_n C dX12_forget_228 1 rfl ?_
      refine zx_isub C dX12_forget_229 ?_
      refine zx_aload_n C dX12_forget_230 0 rfl ?_
      obtain ⟨a48, h49, hm⟩ := osm_e hm
      refine zx_get (j := 37) C tC_11 k43 i44 ⟨by decide, Or.inl W_7_16⟩ dX12_forget_231 (.ref a48) (rf_s h49) ?_
      refine zx_iload C dX12_forget_234 3 rfl ?_
      obtain ⟨n52, k50, i51, hm⟩ := ckR_e hm
      obtain ⟨h53, hm⟩ := ckI_e hm
      refine zx_iald C k50 i51 h53 dX12_forget_236 ?_
      obtain ⟨n56, k54, i55, hm⟩ := ckR_e hm
      obtain ⟨h57, hm⟩ := ckI_e hm
      refine zx_iast C k54 i55 h57 dX12_forget_237 ?_
      refine zx_aload_n C dX12_forget_238 0 rfl ?_
      obtain ⟨a58, h59, hm⟩ := osm_e hm
      refine zx_get (j := 38) C tC_11 k43 i44 ⟨by decide, Or.inl W_7_17⟩ dX12_forget_239 (.ref a58) (rf_s h59) ?_
      refine zx_iload C dX12_forget_242 3 rfl ?_
      refine zx_iload_n C dX12_forget_244 1 rfl ?_
      refine zx_isub C dX12_forget_245 ?_
      refine zx_aload_n C dX12_forget_246 0 rfl ?_
      obtain ⟨a60, h61, hm⟩ := osm_e hm
      refine zx_get (j := 38) C tC_11 k43 i44 ⟨by decide, Or.inl W_7_17⟩ dX12_forget_247 (.ref a60) (rf_s h61) ?_
      refine zx_iload C dX12_forget_250 3 rfl ?_
      obtain ⟨n64, k62, i63, hm⟩ := ckR_e hm
      obtain ⟨h65, hm⟩ := ckI_e hm
      refine zx_iald C k62 i63 h65 dX12_forget_252 ?_
      obtain ⟨n68, k66, i67, hm⟩ := ckR_e hm
      obtain ⟨h69, hm⟩ := ckI_e hm
      refine zx_iast C k66 i67 h69 dX12_forget_253 ?_
      refine zx_aload_n C dX12_forget_254 0 rfl ?_
      obtain ⟨a70, h71, hm⟩ := osm_e hm
      refine zx_get (j := 39) C tC_11 k43 i44 ⟨by decide, Or.inl W_7_18⟩ dX12_forget_255 (.ref a70) (rf_s h71) ?_
      refine zx_iload C dX12_forget_258 3 rfl ?_
      refine zx_iload_n C dX12_forget_260 1 rfl ?_
      refine zx_isub C dX12_forget_261 ?_
      refine zx_aload_n C dX12_forget_262 0 rfl ?_
      obtain ⟨a72, h73, hm⟩ := osm_e hm
      refine zx_get (j := 39) C tC_11 k43 i44 ⟨by decide, Or.inl W_7_18⟩ dX12_forget_263 (.ref a72) (rf_s h73) ?_
      refine zx_iload C dX12_forget_266 3 rfl ?_
      obtain ⟨n76, k74, i75, hm⟩ := ckR_e hm
      obtain ⟨h77, hm⟩ := ckI_e hm
      refine zx_iald C k74 i75 h77 dX12_forget_268 ?_
      obtain ⟨n80, k78, i79, hm⟩ := ckR_e hm
      obtain ⟨h81, hm⟩ := ckI_e hm
      refine zx_iast C k78 i79 h81 dX12_forget_269 ?_
      refine zx_mem (fun ρ82 hρ82 => ?_)
      replace hm := ltb_e hm hρ82
      have k83 : tk ρ82 (x0) = .inl 11 := by rw [hρ82]; exact k43
      have i84 : tIn b0 ρ82 (x0) := by rw [hρ82]; exact i44
      have k85 : tk ρ82 (a48) = .inr (0, n52) := by rw [hρ82]; exact k50
      have i86 : tIn b0 ρ82 (a48) := by rw [hρ82]; exact i51
      have k87 : tk ρ82 (a46) = .inr (0, n56) := by rw [hρ82]; exact k54
      have i88 : tIn b0 ρ82 (a46) := by rw [hρ82]; exact i55
      have k89 : tk ρ82 (a60) = .inr (0, n64) := by rw [hρ82]; exact k62
      have i90 : tIn b0 ρ82 (a60) := by rw [hρ82]; exact i63
      have k91 : tk ρ82 (a58) = .inr (0, n68) := by rw [hρ82]; exact k66
      have i92 : tIn b0 ρ82 (a58) := by rw [hρ82]; exact i67
      have k93 : tk ρ82 (a72) = .inr (0, n76) := by rw [hρ82]; exact k74
      have i94 : tIn b0 ρ82 (a72) := by rw [hρ82]; exact i75
      have k95 : tk ρ82 (a70) = .inr (0, n80) := by rw [hρ82]; exact k78
      have i96 : tIn b0 ρ82 (a70) := by rw [hρ82]; exact i79
      refine zx_aload_n C dX12_forget_270 0 rfl ?_
      obtain ⟨a97, h98, hm⟩ := osm_e hm
      refine zx_get (j := 40) C tC_11 k83 i84 ⟨by decide, Or.inl W_7_19⟩ dX12_forget_271 (.ref a97) (rf_s h98) ?_
      refine zx_iload C dX12_forget_274 3 rfl ?_
      refine zx_iload_n C dX12_forget_276 1 rfl ?_
      refine zx_isub C dX12_forget_277 ?_
      refine zx_aload_n C dX12_forget_278 0 rfl ?_
      obtain ⟨a99, h100, hm⟩ := osm_e hm
      refine zx_get (j := 40) C tC_11 k83 i84 ⟨by decide, Or.inl W_7_19⟩ dX12_forget_279 (.ref a99) (rf_s h100) ?_
      refine zx_iload C dX12_forget_282 3 rfl ?_
      obtain ⟨n103, k101, i102, hm⟩ := ckR_e hm
      obtain ⟨h104, hm⟩ := ckI_e hm
      refine zx_iald C k101 i102 h104 dX12_forget_284 ?_
      obtain ⟨n107, k105, i106, hm⟩ := ckR_e hm
      obtain ⟨h108, hm⟩ := ckI_e hm
      refine zx_iast C k105 i106 h108 dX12_forget_285 ?_
      refine zx_aload_n C dX12_forget_286 0 rfl ?_
      obtain ⟨a109, h110, hm⟩ := osm_e hm
      refine zx_get (j := 41) C tC_11 k83 i84 ⟨by decide, Or.inl W_7_20⟩ dX12_forget_287 (.ref a109) (rf_s h110) ?_
      refine zx_iload C dX12_forget_290 3 rfl ?_
      refine zx_iload_n C dX12_forget_292 1 rfl ?_
      refine zx_isub C dX12_forget_293 ?_
      refine zx_aload_n C dX12_forget_294 0 rfl ?_
      obtain ⟨a111, h112, hm⟩ := osm_e hm
      refine zx_get (j := 41) C tC_11 k83 i84 ⟨by decide, Or.inl W_7_20⟩ dX12_forget_295 (.ref a111) (rf_s h112) ?_
      refine zx_iload C dX12_forget_298 3 rfl ?_
      obtain ⟨n115, k113, i114, hm⟩ := ckR_e hm
      obtain ⟨h116, hm⟩ := ckI_e hm
      refine zx_iald C k113 i114 h116 dX12_forget_300 ?_
      refine zx_iload_n C dX12_forget_301 2 rfl ?_
      refine zx_isub C dX12_forget_302 ?_
      obtain ⟨n119, k117, i118, hm⟩ := ckR_e hm
      obtain ⟨h120, hm⟩ := ckI_e hm
      refine zx_iast C k117 i118 h120 dX12_forget_303 ?_
      refine zx_aload_n C dX12_forget_304 0 rfl ?_
      obtain ⟨a121, h122, hm⟩ := osm_e hm
      refine zx_get (j := 42) C tC_11 k83 i84 ⟨by decide, Or.inl W_7_21⟩ dX12_forget_305 (.ref a121) (rf_s h122) ?_
      refine zx_iload C dX12_forget_308 3 rfl ?_
      refine zx_iload_n C dX12_forget_310 1 rfl ?_
      refine zx_isub C dX12_forget_311 ?_
      refine zx_aload_n C dX12_forget_312 0 rfl ?_
      obtain ⟨a123, h124, hm⟩ := osm_e hm
      refine zx_get (j := 42) C tC_11 k83 i84 ⟨by decide, Or.inl W_7_21⟩ dX12_forget_313 (.ref a123) (rf_s h124) ?_
      refine zx_iload C dX12_forget_316 3 rfl ?_
      obtain ⟨n127, k125, i126, hm⟩ := ckR_e hm
      obtain ⟨h128, hm⟩ := ckI_e hm
      refine zx_iald C k125 i126 h128 dX12_forget_318 ?_
      obtain ⟨n131, k129, i130, hm⟩ := ckR_e hm
      obtain ⟨h132, hm⟩ := ckI_e hm
      refine zx_iast C k129 i130 h132 dX12_forget_319 ?_
      refine zx_mem (fun ρ133 hρ133 => ?_)
      replace hm := ltb_e hm hρ133
      have k134 : tk ρ133 (x0) = .inl 11 := by rw [hρ133]; exact k83
      have i135 : tIn b0 ρ133 (x0) := by rw [hρ133]; exact i84
      have k136 : tk ρ133 (a48) = .inr (0, n52) := by rw [hρ133]; exact k85
      have i137 : tIn b0 ρ133 (a48) := by rw [hρ133]; exact i86
      have k138 : tk ρ133 (a46) = .inr (0, n56) := by rw [hρ133]; exact k87
      have i139 : tIn b0 ρ133 (a46) := by rw [hρ133]; exact i88
      have k140 : tk ρ133 (a60) = .inr (0, n64) := by rw [hρ133]; exact k89
      have i141 : tIn b0 ρ133 (a60) := by rw [hρ133]; exact i90
      have k142 : tk ρ133 (a58) = .inr (0, n68) := by rw [hρ133]; exact k91
      have i143 : tIn b0 ρ133 (a58) := by rw [hρ133]; exact i92
      have k144 : tk ρ133 (a72) = .inr (0, n76) := by rw [hρ133]; exact k93
      have i145 : tIn b0 ρ133 (a72) := by rw [hρ133]; exact i94
      have k146 : tk ρ133 (a70) = .inr (0, n80) := by rw [hρ133]; exact k95
      have i147 : tIn b0 ρ133 (a70) := by rw [hρ133]; exact i96
      have k148 : tk ρ133 (a99) = .inr (0, n103) := by rw [hρ133]; exact k101
      have i149 : tIn b0 ρ133 (a99) := by rw [hρ133]; exact i102
      have k150 : tk ρ133 (a97) = .inr (0, n107) := by rw [hρ133]; exact k105
      have i151 : tIn b0 ρ133 (a97) := by rw [hρ133]; exact i106
      have k152 : tk ρ133 (a111) = .inr (0, n115) := by rw [hρ133]; exact k113
      have i153 : tIn b0 ρ133 (a111) := by rw [hρ133]; exact i114
      have k154 : tk ρ133 (a109) = .inr (0, n119) := by rw [hρ133]; exact k117
      have i155 : tIn b0 ρ133 (a109) := by rw [hρ133]; exact i118
      have k156 : tk ρ133 (a123) = .inr (0, n127) := by rw [hρ133]; exact k125
      have i157 : tIn b0 ρ133 (a123) := by rw [hρ133]; exact i126
      have k158 : tk ρ133 (a121) = .inr (0, n131) := by rw [hρ133]; exact k129
      have i159 : tIn b0 ρ133 (a121) := by rw [hρ133]; exact i130
      refine zx_aload_n C dX12_forget_320 0 rfl ?_
      obtain ⟨a160, h161, hm⟩ := osm_e hm
      refine zx_get (j := 43) C tC_11 k134 i135 ⟨by decide, Or.inl W_7_22⟩ dX12_forget_321 (.ref a160) (rf_s h161) ?_
      refine zx_iload C dX12_forget_324 3 rfl ?_
      refine zx_iload_n C dX12_forget_326 1 rfl ?_
      refine zx_isub C dX12_forget_327 ?_
      refine zx_aload_n C dX12_forget_328 0 rfl ?_
      obtain ⟨a162, h163, hm⟩ := osm_e hm
      refine zx_get (j := 43) C tC_11 k134 i135 ⟨by decide, Or.inl W_7_22⟩ dX12_forget_329 (.ref a162) (rf_s h163) ?_
      refine zx_iload C dX12_forget_332 3 rfl ?_
      obtain ⟨n166, k164, i165, hm⟩ := ckR_e hm
      obtain ⟨h167, hm⟩ := ckI_e hm
      refine zx_iald C k164 i165 h167 dX12_forget_334 ?_
      obtain ⟨n170, k168, i169, hm⟩ := ckR_e hm
      obtain ⟨h171, hm⟩ := ckI_e hm
      refine zx_iast C k168 i169 h171 dX12_forget_335 ?_
      obtain ⟨y172, hy172⟩ : ∃ z : Int32, z = (x4) + Int32.ofInt 1 := ⟨_, rfl⟩
      replace hm := ltb_e hm hy172
      refine zx_iinc C [(4, .int (y172)), (0, .ref (x0)), (2, .int (x2)), (3, .int (x3))] dX12_forget_336 3 rfl hy172.symm (by decide) rfl ?_
      refine zx_goto C 213 dX12_forget_339 (by decide) ?_
      exact zx_lv [1, 2, 3, 0] [(0, .ref (x0)), (2, .int (x2)), (3, .int (x3)), (4, .int (y172))] rfl (hrc213 _ _ _ _ _ hm)
set_option maxRecDepth 100000 in
set_option maxHeartbeats 1000000 in
theorem j_X12_forget_180 {p : Program} {l : Launch} {e : Env} {s : State} {m : MethodId} {args : Array Value} {below : List Frame} {meth : Method} {c : Code} {D : va_G} {aC : Nat → ClassId} {b0 fu : Nat} {σ0 τ : tM} {v : Unit}  (C : tCx p l s m args meth c yX12_forget.cls cX12_forget 5 none D aC b0 σ0) (htab : ∀ x ∈ c.exceptionTable.toList, False) (hin : meth.name = yX12_forget.name)  {x0 : Nat} {x2 : Int32} {s0 : Int32} {σ : tM} (hm : J_X12_forget_180 b0 fu  x0 x2 s0 σ = some (v, τ)) : tX p l e s m args below meth c 5 1 26 D aC b0 σ0 (.inl none) τ 180 [(0, .ref (x0)), (2, .int (x2))] [.int (s0)] σ := by
  unfold J_X12_forget_180 at hm
  refine zx_istore_n C [(3, .int (s0)), (0, .ref (x0)), (2, .int (x2))] dX12_forget_180 rfl (by decide) rfl ?_
  refine zx_aload_n C dX12_forget_181 1 rfl ?_
  obtain ⟨k22, i23, hm⟩ := ckO_e hm
  obtain ⟨a24, h25, hm⟩ := osm_e hm
  refine zx_get (j := 44) C tC_11 k22 i23 ⟨by decide, Or.inl W_7_23⟩ dX12_forget_182 (.ref a24) (rf_s h25) ?_
  refine zx_iload_n C dX12_forget_185 0 rfl ?_
  refine zx_aload_n C dX12_forget_186 1 rfl ?_
  obtain ⟨a26, h27, hm⟩ := osm_e hm
  refine zx_get (j := 44) C tC_11 k22 i23 ⟨by decide, Or.inl W_7_23⟩ dX12_forget_187 (.ref a26) (rf_s h27) ?_
  refine zx_iconst (v := 0) C dX12_forget_190 (by decide) ?_
  refine zx_aload_n C dX12_forget_191 1 rfl ?_
  refine zx_get (j := 45) C tC_11 k22 i23 ⟨by decide, Or.inl W_7_24⟩ dX12_forget_192 (.int (tI (σ) (x0) 45)) rfl ?_
  refine zx_iload_n C dX12_forget_195 0 rfl ?_
  refine zx_isub C dX12_forget_196 ?_
  obtain ⟨n30, k28, i29, hm⟩ := ckR_e hm
  obtain ⟨n33, k31, i32, hm⟩ := ckR_e hm
  obtain ⟨h34, hm⟩ := ckC_e hm
  refine zx_copyI (σ := σ) C W_7_169 W_2_135 W_2_134 W_1_11 k28 i29 k31 i32 h34  (by decide) (by decide) (Nat.le_of_ble_eq_true rfl) dX12_forget_197 ?_
  refine zx_aload_n C dX12_forget_200 1 rfl ?_
  refine zx_dup C dX12_forget_201 rfl ?_
  refine zx_get (j := 45) C tC_11 k22 i23 ⟨by decide, Or.inl W_7_24⟩ dX12_forget_202 (.int (tI (sIr (σ) (a26) (va_cpy (tI (σ) (a24)) (tI (σ) (a26)) ((s0).toNatClampNeg) (((0 : Int32)).toNatClampNeg) (((tI (σ) (x0) 45) - (s0)).toNatClampNeg))) (x0) 45)) rfl ?_
  refine zx_iload_n C dX12_forget_205 0 rfl ?_
  refine zx_isub C dX12_forget_206 ?_
  refine zx_put (j := 45) (ρ := sI (sIr (σ) (a26) (va_cpy (tI (σ) (a24)) (tI (σ) (a26)) ((s0).toNatClampNeg) (((0 : Int32)).toNatClampNeg) (((tI (σ) (x0) 45) - (s0)).toNatClampNeg))) (x0) 45 ((tI (sIr (σ) (a26) (va_cpy (tI (σ) (a24)) (tI (σ) (a26)) ((s0).toNatClampNeg) (((0 : Int32)).toNatClampNeg) (((tI (σ) (x0) 45) - (s0)).toNatClampNeg))) (x0) 45) - (s0))) C tC_11 k22 i23 ⟨by decide, Or.inl W_7_24⟩ rfl rfl rfl (sI_ok (fun _ => rfl)) dX12_forget_207 ?_
  refine zx_mem (fun ρ36 hρ36 => ?_)
  replace hm := ltb_e hm hρ36
  have k37 : tk ρ36 (x0) = .inl 11 := by rw [hρ36]; exact k22
  have i38 : tIn b0 ρ36 (x0) := by rw [hρ36]; exact i23
  have k39 : tk ρ36 (a24) = .inr (0, n30) := by rw [hρ36]; exact k28
  have i40 : tIn b0 ρ36 (a24) := by rw [hρ36]; exact i29
  have k41 : tk ρ36 (a26) = .inr (0, n33) := by rw [hρ36]; exact k31
  have i42 : tIn b0 ρ36 (a26) := by rw [hρ36]; exact i32
  refine zx_iload_n C dX12_forget_210 2 rfl ?_
  refine zx_istore C [(4, .int (x2)), (3, .int (s0)), (0, .ref (x0)), (2, .int (x2))] dX12_forget_211 (by decide) rfl ?_
  exact zx_lv [2, 3, 1, 0] [(0, .ref (x0)), (2, .int (x2)), (3, .int (s0)), (4, .int (x2))] rfl (l_X12_forget_213 C htab hin  _ _ _ _ _ _ hm)
set_option maxRecDepth 100000 in
set_option maxHeartbeats 1000000 in
theorem j_X12_forget_118 {p : Program} {l : Launch} {e : Env} {s : State} {m : MethodId} {args : Array Value} {below : List Frame} {meth : Method} {c : Code} {D : va_G} {aC : Nat → ClassId} {b0 fu : Nat} {σ0 τ : tM} {v : Unit}  (C : tCx p l s m args meth c yX12_forget.cls cX12_forget 5 none D aC b0 σ0) (htab : ∀ x ∈ c.exceptionTable.toList, False) (hin : meth.name = yX12_forget.name)  {x0 : Nat} {σ : tM} (hm : J_X12_forget_118 b0 fu  x0 σ = some (v, τ)) : tX p l e s m args below meth c 5 1 26 D aC b0 σ0 (.inl none) τ 118 [(0, .ref (x0))] [] σ := by
  unfold J_X12_forget_118 at hm
  refine zx_aload_n C dX12_forget_118 0 rfl ?_
  obtain ⟨k5, i6, hm⟩ := ckO_e hm
  refine zx_get (j := 32) C tC_11 k5 i6 ⟨by decide, Or.inl W_7_11⟩ dX12_forget_119 (.int (tI (σ) (x0) 32)) rfl ?_
  refine zx_aload_n C dX12_forget_122 0 rfl ?_
  refine zx_get (j := 35) C tC_11 k5 i6 ⟨by decide, Or.inl W_7_14⟩ dX12_forget_123 (.int (tI (σ) (x0) 35)) rfl ?_
  refine zx_isub C dX12_forget_126 ?_
  refine zx_topi (fun y7 hy7 => ?_)
  replace hm := ltb_e hm hy7
  refine zx_istore_n C [(2, .int (y7)), (0, .ref (x0))] dX12_forget_127 rfl (by decide) rfl ?_
  refine zx_iload_n C dX12_forget_128 0 rfl ?_
  refine zx_if_gt C 133 dX12_forget_129 (by decide) (fun c8 => ?_) (fun c8 => ?_)
  · replace hm := ip_e hm c8
    refine zx_aload_n C dX12_forget_133 1 rfl ?_
    refine zx_aload_n C dX12_forget_134 1 rfl ?_
    obtain ⟨a9, h10, hm⟩ := osm_e hm
    refine zx_get (j := 38) C tC_11 k5 i6 ⟨by decide, Or.inl W_7_17⟩ dX12_forget_135 (.ref a9) (rf_s h10) ?_
    refine zx_iload_n C dX12_forget_138 0 rfl ?_
    refine zx_iconst (v := 1) C dX12_forget_139 (by decide) ?_
    refine zx_isub C dX12_forget_140 ?_
    obtain ⟨n13, k11, i12, hm⟩ := ckR_e hm
    obtain ⟨h14, hm⟩ := ckI_e hm
    refine zx_iald C k11 i12 h14 dX12_forget_141 ?_
    refine zx_aload_n C dX12_forget_142 1 rfl ?_
    obtain ⟨a15, h16, hm⟩ := osm_e hm
    refine zx_get (j := 39) C tC_11 k5 i6 ⟨by decide, Or.inl W_7_18⟩ dX12_forget_143 (.ref a15) (rf_s h16) ?_
    refine zx_iload_n C dX12_forget_146 0 rfl ?_
    refine zx_iconst (v := 1) C dX12_forget_147 (by decide) ?_
    refine zx_isub C dX12_forget_148 ?_
    obtain ⟨n19, k17, i18, hm⟩ := ckR_e hm
    obtain ⟨h20, hm⟩ := ckI_e hm
    refine zx_iald C k17 i18 h20 dX12_forget_149 ?_
    refine zx_iadd C dX12_forget_150 ?_
    refine zx_aload_n C dX12_forget_151 1 rfl ?_
    refine zx_get (j := 6) C tC_11 k5 i6 ⟨by decide, Or.inl W_6_225⟩ dX12_forget_152 (.int (tI (σ) (x0) 6)) rfl ?_
    obtain ⟨h179, hm⟩ := ckD_e hm
    refine zx_irem C dX12_forget_155 h179 ?_
    refine zx_put (j := 46) (ρ := sI (σ) (x0) 46 (((tI (σ) (a9) (((y7) - (1)).toNatClampNeg)) + (tI (σ) (a15) (((y7) - (1)).toNatClampNeg))) - ((tI (σ) (a9) (((y7) - (1)).toNatClampNeg)) + (tI (σ) (a15) (((y7) - (1)).toNatClampNeg))) / (tI (σ) (x0) 6) * (tI (σ) (x0) 6))) C tC_11 k5 i6 ⟨by decide, Or.inl W_7_25⟩ rfl rfl rfl (sI_ok (fun _ => rfl)) dX12_forget_156 ?_
    refine zx_iload_n C dX12_forget_159 0 rfl ?_
    refine zx_aload_n C dX12_forget_160 1 rfl ?_
    refine zx_get (j := 36) C tC_11 k5 i6 ⟨by decide, Or.inl W_7_15⟩ dX12_forget_161 (.int (tI (sI (σ) (x0) 46 (((tI (σ) (a9) (((y7) - (1)).toNatClampNeg)) + (tI (σ) (a15) (((y7) - (1)).toNatClampNeg))) - ((tI (σ) (a9) (((y7) - (1)).toNatClampNeg)) + (tI (σ) (a15) (((y7) - (1)).toNatClampNeg))) / (tI (σ) (x0) 6) * (tI (σ) (x0) 6))) (x0) 36)) rfl ?_
    refine zx_icmp_ge C 176 dX12_forget_164 (by decide) (fun c21 => ?_) (fun c21 => ?_)
    · replace hm := ip_e hm c21
      refine zx_aload_n C dX12_forget_176 1 rfl ?_
      refine zx_get (j := 45) C tC_11 k5 i6 ⟨by decide, Or.inl W_7_24⟩ dX12_forget_177 (.int (tI (sI (σ) (x0) 46 (((tI (σ) (a9) (((y7) - (1)).toNatClampNeg)) + (tI (σ) (a15) (((y7) - (1)).toNatClampNeg))) - ((tI (σ) (a9) (((y7) - (1)).toNatClampNeg)) + (tI (σ) (a15) (((y7) - (1)).toNatClampNeg))) / (tI (σ) (x0) 6) * (tI (σ) (x0) 6))) (x0) 45)) rfl ?_
      exact zx_lv [1, 0] [(0, .ref (x0)), (2, .int (y7))] rfl (j_X12_forget_180 C htab hin    hm)
    · replace hm := in_e hm c21
      refine zx_aload_n C dX12_forget_167 1 rfl ?_
      obtain ⟨a173, h174, hm⟩ := osm_e hm
      refine zx_get (j := 41) C tC_11 k5 i6 ⟨by decide, Or.inl W_7_20⟩ dX12_forget_168 (.ref a173) (rf_s h174) ?_
      refine zx_iload_n C dX12_forget_171 0 rfl ?_
      obtain ⟨n177, k175, i176, hm⟩ := ckR_e hm
      obtain ⟨h178, hm⟩ := ckI_e hm
      refine zx_iald C k175 i176 h178 dX12_forget_172 ?_
      refine zx_goto C 180 dX12_forget_173 (by decide) ?_
      exact zx_lv [1, 0] [(0, .ref (x0)), (2, .int (y7))] rfl (j_X12_forget_180 C htab hin    hm)
  · replace hm := in_e hm c8
    obtain ⟨rfl, rfl⟩ := ret_e hm
    exact zx_vret C rfl rfl rfl dX12_forget_132
set_option maxRecDepth 100000 in
set_option maxHeartbeats 1000000 in
theorem l_X12_forget_86 {p : Program} {l : Launch} {e : Env} {s : State} {m : MethodId} {args : Array Value} {below : List Frame} {meth : Method} {c : Code} {D : va_G} {aC : Nat → ClassId} {b0 fu : Nat} {σ0 τ : tM} {v : Unit}  (C : tCx p l s m args meth c yX12_forget.cls cX12_forget 5 none D aC b0 σ0) (htab : ∀ x ∈ c.exceptionTable.toList, False) (hin : meth.name = yX12_forget.name)  : ∀ (n : Nat) (x0 : Nat) (x1 : Int32) (x2 : Int32) (σ : tM), L_X12_forget_86 b0 fu  n x0 x1 x2 σ = some (v, τ) → tX p l e s m args below meth c 5 1 26 D aC b0 σ0 (.inl none) τ 86 [(0, .ref (x0)), (1, .int (x1)), (2, .int (x2))] [] σ := by
  intro n
  induction n with
  | zero => intro x0 x1 x2 σ hm; unfold L_X12_forget_86 at hm; cases hm
  | succ n ih =>
    intro x0 x1 x2 σ hm
    unfold L_X12_forget_86 at hm
    obtain ⟨rc86, hrc⟩ : ∃ z, z = L_X12_forget_86 b0 fu  n := ⟨_, rfl⟩
    replace hm := ltb_e hm hrc
    rw [← hrc] at ih
    have hrc86 := ih
    clear ih hrc
    refine zx_iload_n C dX12_forget_86 2 rfl ?_
    refine zx_aload_n C dX12_forget_87 0 rfl ?_
    obtain ⟨k217, i218, hm⟩ := ckO_e hm
    refine zx_get (j := 36) C tC_11 k217 i218 ⟨by decide, Or.inl W_7_15⟩ dX12_forget_88 (.int (tI (σ) (x0) 36)) rfl ?_
    refine zx_icmp_ge C 118 dX12_forget_91 (by decide) (fun c219 => ?_) (fun c219 => ?_)
    · replace hm := ip_e hm c219
      exact zx_lv [0] [(0, .ref (x0))] rfl (j_X12_forget_118 C htab hin    hm)
    · replace hm := in_e hm c219
      refine zx_aload_n C dX12_forget_94 0 rfl ?_
      obtain ⟨a220, h221, hm⟩ := osm_e hm
      refine zx_get (j := 40) C tC_11 k217 i218 ⟨by decide, Or.inl W_7_19⟩ dX12_forget_95 (.ref a220) (rf_s h221) ?_
      refine zx_iload_n C dX12_forget_98 2 rfl ?_
      refine zx_iconst (v := 0) C dX12_forget_99 (by decide) ?_
      refine zx_aload_n C dX12_forget_100 0 rfl ?_
      obtain ⟨a222, h223, hm⟩ := osm_e hm
      refine zx_get (j := 40) C tC_11 k217 i218 ⟨by decide, Or.inl W_7_19⟩ dX12_forget_101 (.ref a222) (rf_s h223) ?_
      refine zx_iload_n C dX12_forget_104 2 rfl ?_
      obtain ⟨n226, k224, i225, hm⟩ := ckR_e hm
      obtain ⟨h227, hm⟩ := ckI_e hm
      refine zx_iald C k224 i225 h227 dX12_forget_105 ?_
      refine zx_iload_n C dX12_forget_106 1 rfl ?_
      refine zx_isub C dX12_forget_107 ?_
      refine zx_max C W_7_236 W_2_109 W_1_10 W_2_110 (by decide) (by decide) (Nat.le_of_ble_eq_true rfl) dX12_forget_108 ?_
      obtain ⟨n230, k228, i229, hm⟩ := ckR_e hm
      obtain ⟨h231, hm⟩ := ckI_e hm
      refine zx_iast C k228 i229 h231 dX12_forget_111 ?_
      obtain ⟨y232, hy232⟩ : ∃ z : Int32, z = (x2) + Int32.ofInt 1 := ⟨_, rfl⟩
      replace hm := ltb_e hm hy232
      refine zx_iinc C [(2, .int (y232)), (0, .ref (x0)), (1, .int (x1))] dX12_forget_112 2 rfl hy232.symm (by decide) rfl ?_
      refine zx_goto C 86 dX12_forget_115 (by decide) ?_
      exact zx_lv [1, 2, 0] [(0, .ref (x0)), (1, .int (x1)), (2, .int (y232))] rfl (hrc86 _ _ _ _ hm)
set_option maxRecDepth 100000 in
set_option maxHeartbeats 1000000 in
theorem j_X12_forget_31 {p : Program} {l : Launch} {e : Env} {s : State} {m : MethodId} {args : Array Value} {below : List Frame} {meth : Method} {c : Code} {D : va_G} {aC : Nat → ClassId} {b0 fu : Nat} {σ0 τ : tM} {v : Unit}  (C : tCx p l s m args meth c yX12_forget.cls cX12_forget 5 none D aC b0 σ0) (htab : ∀ x ∈ c.exceptionTable.toList, False) (hin : meth.name = yX12_forget.name)  {x0 : Nat} {s0 : Int32} {σ : tM} (hm : J_X12_forget_31 b0 fu  x0 s0 σ = some (v, τ)) : tX p l e s m args below meth c 5 1 26 D aC b0 σ0 (.inl none) τ 31 [(0, .ref (x0))] [.int (s0)] σ := by
  unfold J_X12_forget_31 at hm
  refine zx_istore_n C [(1, .int (s0)), (0, .ref (x0))] dX12_forget_31 rfl (by decide) rfl ?_
  refine zx_iload_n C dX12_forget_32 0 rfl ?_
  refine zx_if_le C 118 dX12_forget_33 (by decide) (fun c4 => ?_) (fun c4 => ?_)
  · replace hm := ip_e hm c4
    exact zx_lv [1] [(0, .ref (x0))] rfl (j_X12_forget_118 C htab hin    hm)
  · replace hm := in_e hm c4
    refine zx_aload_n C dX12_forget_36 1 rfl ?_
    obtain ⟨k180, i181, hm⟩ := ckO_e hm
    obtain ⟨a182, h183, hm⟩ := osm_e hm
    refine zx_get (j := 2) C tC_11 k180 i181 ⟨by decide, Or.inl W_6_222⟩ dX12_forget_37 (.ref a182) (rf_s h183) ?_
    refine zx_iload_n C dX12_forget_40 0 rfl ?_
    refine zx_aload_n C dX12_forget_41 1 rfl ?_
    obtain ⟨a184, h185, hm⟩ := osm_e hm
    refine zx_get (j := 2) C tC_11 k180 i181 ⟨by decide, Or.inl W_6_222⟩ dX12_forget_42 (.ref a184) (rf_s h185) ?_
    refine zx_iconst (v := 0) C dX12_forget_45 (by decide) ?_
    refine zx_aload_n C dX12_forget_46 1 rfl ?_
    refine zx_get (j := 4) C tC_11 k180 i181 ⟨by decide, Or.inl W_6_224⟩ dX12_forget_47 (.int (tI (σ) (x0) 4)) rfl ?_
    refine zx_iload_n C dX12_forget_50 0 rfl ?_
    refine zx_isub C dX12_forget_51 ?_
    obtain ⟨n188, k186, i187, hm⟩ := ckR_e hm
    obtain ⟨n191, k189, i190, hm⟩ := ckR_e hm
    obtain ⟨h192, hm⟩ := ckC_e hm
    refine zx_copyI (σ := σ) C W_7_169 W_2_135 W_2_134 W_1_11 k186 i187 k189 i190 h192  (by decide) (by decide) (Nat.le_of_ble_eq_true rfl) dX12_forget_52 ?_
    refine zx_aload_n C dX12_forget_55 1 rfl ?_
    obtain ⟨a194, h195, hm⟩ := osm_e hm
    refine zx_get (j := 3) C tC_11 k180 i181 ⟨by decide, Or.inl W_6_223⟩ dX12_forget_56 (.ref a194) (rf_s h195) ?_
    refine zx_iload_n C dX12_forget_59 0 rfl ?_
    refine zx_aload_n C dX12_forget_60 1 rfl ?_
    obtain ⟨a196, h197, hm⟩ := osm_e hm
    refine zx_get (j := 3) C tC_11 k180 i181 ⟨by decide, Or.inl W_6_223⟩ dX12_forget_61 (.ref a196) (rf_s h197) ?_
    refine zx_iconst (v := 0) C dX12_forget_64 (by decide) ?_
    refine zx_aload_n C dX12_forget_65 1 rfl ?_
    refine zx_get (j := 4) C tC_11 k180 i181 ⟨by decide, Or.inl W_6_224⟩ dX12_forget_66 (.int (tI (sIr (σ) (a184) (va_cpy (tI (σ) (a182)) (tI (σ) (a184)) ((s0).toNatClampNeg) (((0 : Int32)).toNatClampNeg) (((tI (σ) (x0) 4) - (s0)).toNatClampNeg))) (x0) 4)) rfl ?_
    refine zx_iload_n C dX12_forget_69 0 rfl ?_
    refine zx_isub C dX12_forget_70 ?_
    obtain ⟨n200, k198, i199, hm⟩ := ckR_e hm
    obtain ⟨n203, k201, i202, hm⟩ := ckR_e hm
    obtain ⟨h204, hm⟩ := ckC_e hm
    refine zx_copyI (σ := sIr (σ) (a184) (va_cpy (tI (σ) (a182)) (tI (σ) (a184)) ((s0).toNatClampNeg) (((0 : Int32)).toNatClampNeg) (((tI (σ) (x0) 4) - (s0)).toNatClampNeg))) C W_7_169 W_2_135 W_2_134 W_1_11 k198 i199 k201 i202 h204  (by decide) (by decide) (Nat.le_of_ble_eq_true rfl) dX12_forget_71 ?_
    refine zx_mem (fun ρ206 hρ206 => ?_)
    replace hm := ltb_e hm hρ206
    have k207 : tk ρ206 (x0) = .inl 11 := by rw [hρ206]; exact k180
    have i208 : tIn b0 ρ206 (x0) := by rw [hρ206]; exact i181
    have k209 : tk ρ206 (a182) = .inr (0, n188) := by rw [hρ206]; exact k186
    have i210 : tIn b0 ρ206 (a182) := by rw [hρ206]; exact i187
    have k211 : tk ρ206 (a184) = .inr (0, n191) := by rw [hρ206]; exact k189
    have i212 : tIn b0 ρ206 (a184) := by rw [hρ206]; exact i190
    have k213 : tk ρ206 (a194) = .inr (0, n200) := by rw [hρ206]; exact k198
    have i214 : tIn b0 ρ206 (a194) := by rw [hρ206]; exact i199
    have k215 : tk ρ206 (a196) = .inr (0, n203) := by rw [hρ206]; exact k201
    have i216 : tIn b0 ρ206 (a196) := by rw [hρ206]; exact i202
    refine zx_aload_n C dX12_forget_74 1 rfl ?_
    refine zx_dup C dX12_forget_75 rfl ?_
    refine zx_get (j := 4) C tC_11 k207 i208 ⟨by decide, Or.inl W_6_224⟩ dX12_forget_76 (.int (tI (ρ206) (x0) 4)) rfl ?_
    refine zx_iload_n C dX12_forget_79 0 rfl ?_
    refine zx_isub C dX12_forget_80 ?_
    refine zx_put (j := 4) (ρ := sI (ρ206) (x0) 4 ((tI (ρ206) (x0) 4) - (s0))) C tC_11 k207 i208 ⟨by decide, Or.inl W_6_224⟩ rfl rfl rfl (sI_ok (fun _ => rfl)) dX12_forget_81 ?_
    refine zx_iconst (v := 0) C dX12_forget_84 (by decide) ?_
    refine zx_istore_n C [(2, .int (0)), (1, .int (s0)), (0, .ref (x0))] dX12_forget_85 rfl (by decide) rfl ?_
    exact zx_lv [2, 1, 0] [(0, .ref (x0)), (1, .int (s0)), (2, .int (0))] rfl (l_X12_forget_86 C htab hin  _ _ _ _ _ hm)
set_option maxRecDepth 100000 in
set_option maxHeartbeats 1000000 in
theorem c_X12_forget {l : Launch} {D : va_G} {aC : Nat → ClassId} {b0 fu : Nat} {a0 : Nat} {σ τ : tM} {v : Unit} (hm : m_X12_forget b0 fu a0 σ = some (v, τ)) : tMt l D aC b0 yX12_forget (Cond.code yX12_forget cX12_forget 5 none) 1 26 [.ref (a0)] σ (.inl none) τ := by
  unfold m_X12_forget at hm
  obtain ⟨hg, hm⟩ := grw_e hm
  refine tMt_of (n := 0) rfl (Nat.le_of_ble_eq_true rfl) hg ?_
  intro p e s m below meth c C htab hin
  refine zx_lv [0] [(0, .ref (a0))] rfl ?_
  refine zx_aload_n C dX12_forget_0 0 rfl ?_
  obtain ⟨k1, i2, hm⟩ := ckO_e hm
  refine zx_get (j := 28) C tC_11 k1 i2 ⟨by decide, Or.inl W_7_7⟩ dX12_forget_1 (.int (tI (σ) (a0) 28)) rfl ?_
  refine zx_aload_n C dX12_forget_4 0 rfl ?_
  refine zx_get (j := 35) C tC_11 k1 i2 ⟨by decide, Or.inl W_7_14⟩ dX12_forget_5 (.int (tI (σ) (a0) 35)) rfl ?_
  refine zx_icmp_le C 30 dX12_forget_8 (by decide) (fun c3 => ?_) (fun c3 => ?_)
  · replace hm := ip_e hm c3
    refine zx_iconst (v := 0) C dX12_forget_30 (by decide) ?_
    exact zx_lv [0] [(0, .ref (a0))] rfl (j_X12_forget_31 C htab hin    hm)
  · replace hm := in_e hm c3
    refine zx_aload_n C dX12_forget_11 0 rfl ?_
    obtain ⟨a233, h234, hm⟩ := osm_e hm
    refine zx_get (j := 40) C tC_11 k1 i2 ⟨by decide, Or.inl W_7_19⟩ dX12_forget_12 (.ref a233) (rf_s h234) ?_
    refine zx_aload_n C dX12_forget_15 0 rfl ?_
    refine zx_get (j := 28) C tC_11 k1 i2 ⟨by decide, Or.inl W_7_7⟩ dX12_forget_16 (.int (tI (σ) (a0) 28)) rfl ?_
    refine zx_aload_n C dX12_forget_19 0 rfl ?_
    refine zx_get (j := 35) C tC_11 k1 i2 ⟨by decide, Or.inl W_7_14⟩ dX12_forget_20 (.int (tI (σ) (a0) 35)) rfl ?_
    refine zx_isub C dX12_forget_23 ?_
    refine zx_iconst (v := 1) C dX12_forget_24 (by decide) ?_
    refine zx_isub C dX12_forget_25 ?_
    obtain ⟨n237, k235, i236, hm⟩ := ckR_e hm
    obtain ⟨h238, hm⟩ := ckI_e hm
    refine zx_iald C k235 i236 h238 dX12_forget_26 ?_
    refine zx_goto C 31 dX12_forget_27 (by decide) ?_
    exact zx_lv [0] [(0, .ref (a0))] rfl (j_X12_forget_31 C htab hin    hm)
abbrev cX12_isRevoked : ByteArray := prog_13_method_25_code
def yX12_isRevoked : MethodName := ⟨"SyncTreeModel", "isRevoked", "(II)Z"⟩
theorem Y_X12_isRevoked : tY yX12_isRevoked cX12_isRevoked 5 (some .boolean) 2 := ⟨W_8_8, W_1_14, ⟨by decide +kernel, by decide +kernel⟩, by decide +kernel⟩
theorem dX12_isRevoked_0 : decode cX12_isRevoked 0 = .ok (.iload_n 1, 1) := by decide +kernel
theorem dX12_isRevoked_1 : decode cX12_isRevoked 1 = .ok (.aload_n 0, 1) := by decide +kernel
theorem dX12_isRevoked_2 : decode cX12_isRevoked 2 = .ok (.getfield 128, 3) := by decide +kernel
theorem dX12_isRevoked_5 : decode cX12_isRevoked 5 = .ok (.isub, 1) := by decide +kernel
theorem dX12_isRevoked_6 : decode cX12_isRevoked 6 = .ok (.iconst 1, 1) := by decide +kernel
theorem dX12_isRevoked_7 : decode cX12_isRevoked 7 = .ok (.isub, 1) := by decide +kernel
theorem dX12_isRevoked_8 : decode cX12_isRevoked 8 = .ok (.istore_n 3, 1) := by decide +kernel
theorem dX12_isRevoked_9 : decode cX12_isRevoked 9 = .ok (.iconst 0, 1) := by decide +kernel
theorem dX12_isRevoked_10 : decode cX12_isRevoked 10 = .ok (.istore 4, 2) := by decide +kernel
theorem dX12_isRevoked_12 : decode cX12_isRevoked 12 = .ok (.iload 4, 2) := by decide +kernel
theorem dX12_isRevoked_14 : decode cX12_isRevoked 14 = .ok (.aload_n 0, 1) := by decide +kernel
theorem dX12_isRevoked_15 : decode cX12_isRevoked 15 = .ok (.getfield 155, 3) := by decide +kernel
theorem dX12_isRevoked_18 : decode cX12_isRevoked 18 = .ok (.iload_n 3, 1) := by decide +kernel
theorem dX12_isRevoked_19 : decode cX12_isRevoked 19 = .ok (.iaload, 1) := by decide +kernel
theorem dX12_isRevoked_20 : decode cX12_isRevoked 20 = .ok (.if_icmp .ge 36, 3) := by decide +kernel
theorem dX12_isRevoked_23 : decode cX12_isRevoked 23 = .ok (.aload_n 0, 1) := by decide +kernel
theorem dX12_isRevoked_24 : decode cX12_isRevoked 24 = .ok (.getfield 134, 3) := by decide +kernel
theorem dX12_isRevoked_27 : decode cX12_isRevoked 27 = .ok (.aload_n 0, 1) := by decide +kernel
theorem dX12_isRevoked_28 : decode cX12_isRevoked 28 = .ok (.getfield 149, 3) := by decide +kernel
theorem dX12_isRevoked_31 : decode cX12_isRevoked 31 = .ok (.iload_n 3, 1) := by decide +kernel
theorem dX12_isRevoked_32 : decode cX12_isRevoked 32 = .ok (.iaload, 1) := by decide +kernel
theorem dX12_isRevoked_33 : decode cX12_isRevoked 33 = .ok (.aload_n 0, 1) := by decide +kernel
theorem dX12_isRevoked_34 : decode cX12_isRevoked 34 = .ok (.getfield 152, 3) := by decide +kernel
theorem dX12_isRevoked_37 : decode cX12_isRevoked 37 = .ok (.iload_n 3, 1) := by decide +kernel
theorem dX12_isRevoked_38 : decode cX12_isRevoked 38 = .ok (.iaload, 1) := by decide +kernel
theorem dX12_isRevoked_39 : decode cX12_isRevoked 39 = .ok (.iadd, 1) := by decide +kernel
theorem dX12_isRevoked_40 : decode cX12_isRevoked 40 = .ok (.iload 4, 2) := by decide +kernel
theorem dX12_isRevoked_42 : decode cX12_isRevoked 42 = .ok (.iadd, 1) := by decide +kernel
theorem dX12_isRevoked_43 : decode cX12_isRevoked 43 = .ok (.iaload, 1) := by decide +kernel
theorem dX12_isRevoked_44 : decode cX12_isRevoked 44 = .ok (.iload_n 2, 1) := by decide +kernel
theorem dX12_isRevoked_45 : decode cX12_isRevoked 45 = .ok (.if_icmp .ne 5, 3) := by decide +kernel
theorem dX12_isRevoked_48 : decode cX12_isRevoked 48 = .ok (.iconst 1, 1) := by decide +kernel
theorem dX12_isRevoked_49 : decode cX12_isRevoked 49 = .ok (.ireturn, 1) := by decide +kernel
theorem dX12_isRevoked_50 : decode cX12_isRevoked 50 = .ok (.iinc 4 1, 3) := by decide +kernel
theorem dX12_isRevoked_53 : decode cX12_isRevoked 53 = .ok (.goto (-41), 3) := by decide +kernel
theorem dX12_isRevoked_56 : decode cX12_isRevoked 56 = .ok (.iconst 0, 1) := by decide +kernel
theorem dX12_isRevoked_57 : decode cX12_isRevoked 57 = .ok (.ireturn, 1) := by decide +kernel
def L_X12_isRevoked_12 (b0 fu : Nat)  : Nat → Nat → Int32 → Int32 → Int32 → tM → Option ((Int32) × tM)
  | 0, _, _, _, _, _ => none
  | n + 1, x0, x2, x3, x4, σ => ltb (L_X12_isRevoked_12 b0 fu  n) (fun rc12 => ckO b0 (σ) (x0) 11 (osm (tA (σ) (x0) 43) (fun a6 => ckR b0 (σ) (a6) 0 (fun n10 => ckI (x3) (n10) (if (tI (σ) (a6) ((x3).toNatClampNeg)) ≤ (x4) then some (0, σ) else osm (tA (σ) (x0) 44) (fun a13 => osm (tA (σ) (x0) 41) (fun a15 => ckR b0 (σ) (a15) 0 (fun n19 => ckI (x3) (n19) (osm (tA (σ) (x0) 42) (fun a21 => ckR b0 (σ) (a21) 0 (fun n25 => ckI (x3) (n25) (ckR b0 (σ) (a13) 0 (fun n29 => ckI (((tI (σ) (a15) ((x3).toNatClampNeg)) + (tI (σ) (a21) ((x3).toNatClampNeg))) + (x4)) (n29) (if (tI (σ) (a13) ((((tI (σ) (a15) ((x3).toNatClampNeg)) + (tI (σ) (a21) ((x3).toNatClampNeg))) + (x4)).toNatClampNeg)) = (x2) then some (1, σ) else ltb ((x4) + Int32.ofInt 1) (fun y32 => rc12 (x0) (x2) (x3) (y32) (σ))))))))))))))))
def m_X12_isRevoked (b0 fu : Nat) (a0 : Nat) (p0 : Int32) (p1 : Int32) (σ : tM) : Option ((Int32) × tM) := grw σ (ckO b0 (σ) (a0) 11 (ltb ((((p0) - (tI (σ) (a0) 35)) - (1) : Int32)) (fun y3 => L_X12_isRevoked_12 b0 fu  (fu) (a0) (p1) (y3) (0) (σ))))
set_option maxRecDepth 100000 in
set_option maxHeartbeats 1000000 in
theorem l_X12_isRevoked_12 {p : Program} {l : Launch} {e : Env} {s : State} {m : MethodId} {args : Array Value} {below : List Frame} {meth : Method} {c : Code} {D : va_G} {aC : Nat → ClassId} {b0 fu : Nat} {σ0 τ : tM} {v : Int32}  (C : tCx p l s m args meth c yX12_isRevoked.cls cX12_isRevoked 5 (some .boolean) D aC b0 σ0) (htab : ∀ x ∈ c.exceptionTable.toList, False) (hin : meth.name = yX12_isRevoked.name)  : ∀ (n : Nat) (x0 : Nat) (x2 : Int32) (x3 : Int32) (x4 : Int32) (σ : tM), L_X12_isRevoked_12 b0 fu  n x0 x2 x3 x4 σ = some (v, τ) → tX p l e s m args below meth c 5 0 0 D aC b0 σ0 (.inl (some (.int v))) τ 12 [(0, .ref (x0)), (2, .int (x2)), (3, .int (x3)), (4, .int (x4))] [] σ := by
  intro n
  induction n with
  | zero => intro x0 x2 x3 x4 σ hm; unfold L_X12_isRevoked_12 at hm; cases hm
  | succ n ih =>
    intro x0 x2 x3 x4 σ hm
    unfold L_X12_isRevoked_12 at hm
    obtain ⟨rc12, hrc⟩ : ∃ z, z = L_X12_isRevoked_12 b0 fu  n := ⟨_, rfl⟩
    replace hm := ltb_e hm hrc
    rw [← hrc] at ih
    have hrc12 := ih
    clear ih hrc
    refine zx_iload C dX12_isRevoked_12 3 rfl ?_
    refine zx_aload_n C dX12_isRevoked_14 0 rfl ?_
    obtain ⟨k4, i5, hm⟩ := ckO_e hm
    obtain ⟨a6, h7, hm⟩ := osm_e hm
    refine zx_get (j := 43) C tC_11 k4 i5 ⟨by decide, Or.inl W_7_22⟩ dX12_isRevoked_15 (.ref a6) (rf_s h7) ?_
    refine zx_iload_n C dX12_isRevoked_18 2 rfl ?_
    obtain ⟨n10, k8, i9, hm⟩ := ckR_e hm
    obtain ⟨h11, hm⟩ := ckI_e hm
    refine zx_iald C k8 i9 h11 dX12_isRevoked_19 ?_
    refine zx_icmp_ge C 56 dX12_isRevoked_20 (by decide) (fun c12 => ?_) (fun c12 => ?_)
    · replace hm := ip_e hm c12
      refine zx_iconst (v := 0) C dX12_isRevoked_56 (by decide) ?_
      obtain ⟨rfl, rfl⟩ := ret_e hm
      exact zx_zret C rfl (by decide) rfl rfl dX12_isRevoked_57
    · replace hm := in_e hm c12
      refine zx_aload_n C dX12_isRevoked_23 0 rfl ?_
      obtain ⟨a13, h14, hm⟩ := osm_e hm
      refine zx_get (j := 44) C tC_11 k4 i5 ⟨by decide, Or.inl W_7_23⟩ dX12_isRevoked_24 (.ref a13) (rf_s h14) ?_
      refine zx_aload_n C dX12_isRevoked_27 0 rfl ?_
      obtain ⟨a15, h16, hm⟩ := osm_e hm
      refine zx_get (j := 41) C tC_11 k4 i5 ⟨by decide, Or.inl W_7_20⟩ dX12_isRevoked_28 (.ref a15) (rf_s h16) ?_
      refine zx_iload_n C dX12_isRevoked_31 2 rfl ?_
      obtain ⟨n19, k17, i18, hm⟩ := ckR_e hm
      obtain ⟨h20, hm⟩ := ckI_e hm
      refine zx_iald C k17 i18 h20 dX12_isRevoked_32 ?_
      refine zx_aload_n C dX12_isRevoked_33 0 rfl ?_
      obtain ⟨a21, h22, hm⟩ := osm_e hm
      refine zx_get (j := 42) C tC_11 k4 i5 ⟨by decide, Or.inl W_7_21⟩ dX12_isRevoked_34 (.ref a21) (rf_s h22) ?_
      refine zx_iload_n C dX12_isRevoked_37 2 rfl ?_
      obtain ⟨n25, k23, i24, hm⟩ := ckR_e hm
      obtain ⟨h26, hm⟩ := ckI_e hm
      refine zx_iald C k23 i24 h26 dX12_isRevoked_38 ?_
      refine zx_iadd C dX12_isRevoked_39 ?_
      refine zx_iload C dX12_isRevoked_40 3 rfl ?_
      refine zx_iadd C dX12_isRevoked_42 ?_
      obtain ⟨n29, k27, i28, hm⟩ := ckR_e hm
      obtain ⟨h30, hm⟩ := ckI_e hm
      refine zx_iald C k27 i28 h30 dX12_isRevoked_43 ?_
      refine zx_iload_n C dX12_isRevoked_44 1 rfl ?_
      refine zx_icmp_ne C 50 dX12_isRevoked_45 (by decide) (fun c31 => ?_) (fun c31 => ?_)
      · replace hm := in_e hm c31
        obtain ⟨y32, hy32⟩ : ∃ z : Int32, z = (x4) + Int32.ofInt 1 := ⟨_, rfl⟩
        replace hm := ltb_e hm hy32
        refine zx_iinc C [(4, .int (y32)), (0, .ref (x0)), (2, .int (x2)), (3, .int (x3))] dX12_isRevoked_50 3 rfl hy32.symm (by decide) rfl ?_
        refine zx_goto C 12 dX12_isRevoked_53 (by decide) ?_
        exact zx_lv [1, 2, 3, 0] [(0, .ref (x0)), (2, .int (x2)), (3, .int (x3)), (4, .int (y32))] rfl (hrc12 _ _ _ _ _ hm)
      · replace hm := ip_e hm c31
        refine zx_iconst (v := 1) C dX12_isRevoked_48 (by decide) ?_
        obtain ⟨rfl, rfl⟩ := ret_e hm
        exact zx_zret C rfl (by decide) rfl rfl dX12_isRevoked_49
set_option maxRecDepth 100000 in
set_option maxHeartbeats 1000000 in
theorem c_X12_isRevoked {l : Launch} {D : va_G} {aC : Nat → ClassId} {b0 fu : Nat} {a0 : Nat} {p0 : Int32} {p1 : Int32} {σ τ : tM} {v : Int32} (hm : m_X12_isRevoked b0 fu a0 p0 p1 σ = some (v, τ)) : tMt l D aC b0 yX12_isRevoked (Cond.code yX12_isRevoked cX12_isRevoked 5 (some .boolean)) 0 0 [.ref (a0), .int (p0), .int (p1)] σ (.inl (some (.int v))) τ := by
  unfold m_X12_isRevoked at hm
  obtain ⟨hg, hm⟩ := grw_e hm
  refine tMt_of (n := 0) rfl (Nat.le_of_ble_eq_true rfl) hg ?_
  intro p e s m below meth c C htab hin
  refine zx_lv [0, 1, 2] [(0, .ref (a0)), (1, .int (p0)), (2, .int (p1))] rfl ?_
  refine zx_iload_n C dX12_isRevoked_0 1 rfl ?_
  refine zx_aload_n C dX12_isRevoked_1 0 rfl ?_
  obtain ⟨k1, i2, hm⟩ := ckO_e hm
  refine zx_get (j := 35) C tC_11 k1 i2 ⟨by decide, Or.inl W_7_14⟩ dX12_isRevoked_2 (.int (tI (σ) (a0) 35)) rfl ?_
  refine zx_isub C dX12_isRevoked_5 ?_
  refine zx_iconst (v := 1) C dX12_isRevoked_6 (by decide) ?_
  refine zx_isub C dX12_isRevoked_7 ?_
  refine zx_topi (fun y3 hy3 => ?_)
  replace hm := ltb_e hm hy3
  refine zx_istore_n C [(3, .int (y3)), (0, .ref (a0)), (1, .int (p0)), (2, .int (p1))] dX12_isRevoked_8 rfl (by decide) rfl ?_
  refine zx_iconst (v := 0) C dX12_isRevoked_9 (by decide) ?_
  refine zx_istore C [(4, .int (0)), (3, .int (y3)), (0, .ref (a0)), (1, .int (p0)), (2, .int (p1))] dX12_isRevoked_10 (by decide) rfl ?_
  exact zx_lv [2, 4, 1, 0] [(0, .ref (a0)), (2, .int (p1)), (3, .int (y3)), (4, .int (0))] rfl (l_X12_isRevoked_12 C htab hin  _ _ _ _ _ _ hm)
abbrev cX12_isFree : ByteArray := prog_13_method_29_code
def yX12_isFree : MethodName := ⟨"SyncTreeModel", "isFree", "(I)Z"⟩
theorem Y_X12_isFree : tY yX12_isFree cX12_isFree 2 (some .boolean) 1 := ⟨W_8_98, W_1_14, ⟨by decide +kernel, by decide +kernel⟩, by decide +kernel⟩
theorem dX12_isFree_0 : decode cX12_isFree 0 = .ok (.aload_n 0, 1) := by decide +kernel
theorem dX12_isFree_1 : decode cX12_isFree 1 = .ok (.getfield 13, 3) := by decide +kernel
theorem dX12_isFree_4 : decode cX12_isFree 4 = .ok (.iload_n 1, 1) := by decide +kernel
theorem dX12_isFree_5 : decode cX12_isFree 5 = .ok (.iconst 0, 1) := by decide +kernel
theorem dX12_isFree_6 : decode cX12_isFree 6 = .ok (.invokestatic 233, 3) := by decide +kernel
theorem dX12_isFree_9 : decode cX12_isFree 9 = .ok (.iaload, 1) := by decide +kernel
theorem dX12_isFree_10 : decode cX12_isFree 10 = .ok (.ifCond .ne 16, 3) := by decide +kernel
theorem dX12_isFree_13 : decode cX12_isFree 13 = .ok (.aload_n 0, 1) := by decide +kernel
theorem dX12_isFree_14 : decode cX12_isFree 14 = .ok (.getfield 190, 3) := by decide +kernel
theorem dX12_isFree_17 : decode cX12_isFree 17 = .ok (.iload_n 1, 1) := by decide +kernel
theorem dX12_isFree_18 : decode cX12_isFree 18 = .ok (.iaload, 1) := by decide +kernel
theorem dX12_isFree_19 : decode cX12_isFree 19 = .ok (.ifCond .ne 7, 3) := by decide +kernel
theorem dX12_isFree_22 : decode cX12_isFree 22 = .ok (.iconst 1, 1) := by decide +kernel
theorem dX12_isFree_23 : decode cX12_isFree 23 = .ok (.goto 4, 3) := by decide +kernel
theorem dX12_isFree_26 : decode cX12_isFree 26 = .ok (.iconst 0, 1) := by decide +kernel
theorem dX12_isFree_27 : decode cX12_isFree 27 = .ok (.ireturn, 1) := by decide +kernel
def J_X12_isFree_27 (b0 fu : Nat)  (s0 : Int32) (σ : tM) : Option ((Int32) × tM) := ckZ (s0) (some (s0, σ))
def J_X12_isFree_26 (b0 fu : Nat)   (σ : tM) : Option ((Int32) × tM) := J_X12_isFree_27 b0 fu   (0) (σ)
def m_X12_isFree (b0 fu : Nat) (a0 : Nat) (p0 : Int32) (σ : tM) : Option ((Int32) × tM) := grw σ (ckO b0 (σ) (a0) 11 (osm (tA (σ) (a0) 1) (fun a3 => cll (m_X12_room b0 fu (p0) (0) (σ)) (fun v5 ρ6 => ckR b0 (ρ6) (a3) 0 (fun n10 => ckI (v5) (n10) (if (tI (ρ6) (a3) ((v5).toNatClampNeg)) = (0) then ckO b0 (ρ6) (a0) 11 (osm (tA (ρ6) (a0) 24) (fun a16 => ckR b0 (ρ6) (a16) 0 (fun n20 => ckI (p0) (n20) (if (tI (ρ6) (a16) ((p0).toNatClampNeg)) = (0) then J_X12_isFree_27 b0 fu   (1) (ρ6) else J_X12_isFree_26 b0 fu    (ρ6))))) else J_X12_isFree_26 b0 fu    (ρ6)))))))
set_option maxRecDepth 100000 in
set_option maxHeartbeats 1000000 in
theorem j_X12_isFree_27 {p : Program} {l : Launch} {e : Env} {s : State} {m : MethodId} {args : Array Value} {below : List Frame} {meth : Method} {c : Code} {D : va_G} {aC : Nat → ClassId} {b0 fu : Nat} {σ0 τ : tM} {v : Int32}  (C : tCx p l s m args meth c yX12_isFree.cls cX12_isFree 2 (some .boolean) D aC b0 σ0) (htab : ∀ x ∈ c.exceptionTable.toList, False) (hin : meth.name = yX12_isFree.name)  {s0 : Int32} {σ : tM} (hm : J_X12_isFree_27 b0 fu  s0 σ = some (v, τ)) : tX p l e s m args below meth c 2 1 21 D aC b0 σ0 (.inl (some (.int v))) τ 27 [] [.int (s0)] σ := by
  unfold J_X12_isFree_27 at hm
  obtain ⟨h13, hm⟩ := ckZ_e hm
  obtain ⟨rfl, rfl⟩ := ret_e hm
  exact zx_zret C rfl h13 rfl rfl dX12_isFree_27
set_option maxRecDepth 100000 in
set_option maxHeartbeats 1000000 in
theorem j_X12_isFree_26 {p : Program} {l : Launch} {e : Env} {s : State} {m : MethodId} {args : Array Value} {below : List Frame} {meth : Method} {c : Code} {D : va_G} {aC : Nat → ClassId} {b0 fu : Nat} {σ0 τ : tM} {v : Int32}  (C : tCx p l s m args meth c yX12_isFree.cls cX12_isFree 2 (some .boolean) D aC b0 σ0) (htab : ∀ x ∈ c.exceptionTable.toList, False) (hin : meth.name = yX12_isFree.name)   {σ : tM} (hm : J_X12_isFree_26 b0 fu   σ = some (v, τ)) : tX p l e s m args below meth c 2 1 21 D aC b0 σ0 (.inl (some (.int v))) τ 26 [] [] σ := by
  unfold J_X12_isFree_26 at hm
  refine zx_iconst (v := 0) C dX12_isFree_26 (by decide) ?_
  exact zx_lv [] [] rfl (j_X12_isFree_27 C htab hin    hm)
set_option maxRecDepth 100000 in
set_option maxHeartbeats 1000000 in
theorem c_X12_isFree {l : Launch} {D : va_G} {aC : Nat → ClassId} {b0 fu : Nat} {a0 : Nat} {p0 : Int32} {σ τ : tM} {v : Int32} (hm : m_X12_isFree b0 fu a0 p0 σ = some (v, τ)) : tMt l D aC b0 yX12_isFree (Cond.code yX12_isFree cX12_isFree 2 (some .boolean)) 1 21 [.ref (a0), .int (p0)] σ (.inl (some (.int v))) τ := by
  unfold m_X12_isFree at hm
  obtain ⟨hg, hm⟩ := grw_e hm
  refine tMt_of (n := 0) rfl (Nat.le_of_ble_eq_true rfl) hg ?_
  intro p e s m below meth c C htab hin
  refine zx_lv [0, 1] [(0, .ref (a0)), (1, .int (p0))] rfl ?_
  refine zx_aload_n C dX12_isFree_0 0 rfl ?_
  obtain ⟨k1, i2, hm⟩ := ckO_e hm
  obtain ⟨a3, h4, hm⟩ := osm_e hm
  refine zx_get (j := 1) C tC_11 k1 i2 ⟨by decide, Or.inl W_6_221⟩ dX12_isFree_1 (.ref a3) (rf_s h4) ?_
  refine zx_iload_n C dX12_isFree_4 1 rfl ?_
  refine zx_iconst (v := 0) C dX12_isFree_5 (by decide) ?_
  obtain ⟨v5, ρ6, h7, hm⟩ := cll_e hm
  refine zx_callS (σ := σ) C [.int (p0), .int (0)] Y_X12_room W_6_209 W_6_210 (c_X12_room h7) (by decide) (by decide) rfl (Nat.le_of_ble_eq_true rfl) dX12_isFree_6 rfl ?_
  obtain ⟨n10, k8, i9, hm⟩ := ckR_e hm
  obtain ⟨h11, hm⟩ := ckI_e hm
  refine zx_iald C k8 i9 h11 dX12_isFree_9 ?_
  refine zx_if_ne C 26 dX12_isFree_10 (by decide) (fun c12 => ?_) (fun c12 => ?_)
  · replace hm := in_e hm c12
    exact zx_lv [] [] rfl (j_X12_isFree_26 C htab hin    hm)
  · replace hm := ip_e hm c12
    refine zx_aload_n C dX12_isFree_13 0 rfl ?_
    obtain ⟨k14, i15, hm⟩ := ckO_e hm
    obtain ⟨a16, h17, hm⟩ := osm_e hm
    refine zx_get (j := 24) C tC_11 k14 i15 ⟨by decide, Or.inl W_7_3⟩ dX12_isFree_14 (.ref a16) (rf_s h17) ?_
    refine zx_iload_n C dX12_isFree_17 1 rfl ?_
    obtain ⟨n20, k18, i19, hm⟩ := ckR_e hm
    obtain ⟨h21, hm⟩ := ckI_e hm
    refine zx_iald C k18 i19 h21 dX12_isFree_18 ?_
    refine zx_if_ne C 26 dX12_isFree_19 (by decide) (fun c22 => ?_) (fun c22 => ?_)
    · replace hm := in_e hm c22
      exact zx_lv [] [] rfl (j_X12_isFree_26 C htab hin    hm)
    · replace hm := ip_e hm c22
      refine zx_iconst (v := 1) C dX12_isFree_22 (by decide) ?_
      refine zx_goto C 27 dX12_isFree_23 (by decide) ?_
      exact zx_lv [] [] rfl (j_X12_isFree_27 C htab hin    hm)
abbrev cX12_freeBlocks : ByteArray := prog_13_method_30_code
def yX12_freeBlocks : MethodName := ⟨"SyncTreeModel", "freeBlocks", "()I"⟩
theorem Y_X12_freeBlocks : tY yX12_freeBlocks cX12_freeBlocks 3 (some .int) 0 := ⟨W_8_94, W_1_14, ⟨by decide +kernel, by decide +kernel⟩, by decide +kernel⟩
theorem dX12_freeBlocks_0 : decode cX12_freeBlocks 0 = .ok (.iconst 0, 1) := by decide +kernel
theorem dX12_freeBlocks_1 : decode cX12_freeBlocks 1 = .ok (.istore_n 1, 1) := by decide +kernel
theorem dX12_freeBlocks_2 : decode cX12_freeBlocks 2 = .ok (.iconst 0, 1) := by decide +kernel
theorem dX12_freeBlocks_3 : decode cX12_freeBlocks 3 = .ok (.istore_n 2, 1) := by decide +kernel
theorem dX12_freeBlocks_4 : decode cX12_freeBlocks 4 = .ok (.iload_n 2, 1) := by decide +kernel
theorem dX12_freeBlocks_5 : decode cX12_freeBlocks 5 = .ok (.aload_n 0, 1) := by decide +kernel
theorem dX12_freeBlocks_6 : decode cX12_freeBlocks 6 = .ok (.getfield 41, 3) := by decide +kernel
theorem dX12_freeBlocks_9 : decode cX12_freeBlocks 9 = .ok (.if_icmp .ge 20, 3) := by decide +kernel
theorem dX12_freeBlocks_12 : decode cX12_freeBlocks 12 = .ok (.aload_n 0, 1) := by decide +kernel
theorem dX12_freeBlocks_13 : decode cX12_freeBlocks 13 = .ok (.iload_n 2, 1) := by decide +kernel
theorem dX12_freeBlocks_14 : decode cX12_freeBlocks 14 = .ok (.invokevirtual 236, 3) := by decide +kernel
theorem dX12_freeBlocks_17 : decode cX12_freeBlocks 17 = .ok (.ifCond .eq 6, 3) := by decide +kernel
theorem dX12_freeBlocks_20 : decode cX12_freeBlocks 20 = .ok (.iinc 1 1, 3) := by decide +kernel
theorem dX12_freeBlocks_23 : decode cX12_freeBlocks 23 = .ok (.iinc 2 1, 3) := by decide +kernel
theorem dX12_freeBlocks_26 : decode cX12_freeBlocks 26 = .ok (.goto (-22), 3) := by decide +kernel
theorem dX12_freeBlocks_29 : decode cX12_freeBlocks 29 = .ok (.iload_n 1, 1) := by decide +kernel
theorem dX12_freeBlocks_30 : decode cX12_freeBlocks 30 = .ok (.ireturn, 1) := by decide +kernel
def J_X12_freeBlocks_23 (b0 fu : Nat) (rc4 : Nat → Int32 → Int32 → tM → Option ((Int32) × tM)) (x0 : Nat) (x1 : Int32) (x2 : Int32) (σ : tM) : Option ((Int32) × tM) := ltb ((x2) + Int32.ofInt 1) (fun y8 => rc4 (x0) (x1) (y8) (σ))
def L_X12_freeBlocks_4 (b0 fu : Nat)  : Nat → Nat → Int32 → Int32 → tM → Option ((Int32) × tM)
  | 0, _, _, _, _ => none
  | n + 1, x0, x1, x2, σ => ltb (L_X12_freeBlocks_4 b0 fu  n) (fun rc4 => ckO b0 (σ) (x0) 11 (if (tI (σ) (x0) 7) ≤ (x2) then some (x1, σ) else cll (m_X12_isFree b0 fu (x0) (x2) (σ)) (fun v4 ρ5 => if (v4) = (0) then J_X12_freeBlocks_23 b0 fu rc4  (x0) (x1) (x2) (ρ5) else ltb ((x1) + Int32.ofInt 1) (fun y9 => J_X12_freeBlocks_23 b0 fu rc4  (x0) (y9) (x2) (ρ5)))))
def m_X12_freeBlocks (b0 fu : Nat) (a0 : Nat) (σ : tM) : Option ((Int32) × tM) := grw σ (L_X12_freeBlocks_4 b0 fu  (fu) (a0) (0) (0) (σ))
set_option maxRecDepth 100000 in
set_option maxHeartbeats 1000000 in
theorem j_X12_freeBlocks_23 {p : Program} {l : Launch} {e : Env} {s : State} {m : MethodId} {args : Array Value} {below : List Frame} {meth : Method} {c : Code} {D : va_G} {aC : Nat → ClassId} {b0 fu : Nat} {σ0 τ : tM} {v : Int32} {rc4 : Nat → Int32 → Int32 → tM → Option ((Int32) × tM)} (C : tCx p l s m args meth c yX12_freeBlocks.cls cX12_freeBlocks 3 (some .int) D aC b0 σ0) (htab : ∀ x ∈ c.exceptionTable.toList, False) (hin : meth.name = yX12_freeBlocks.name) (hrc4 : ∀ (x0 : Nat) (x1 : Int32) (x2 : Int32) (ρ : tM), rc4 x0 x1 x2 ρ = some (v, τ) → tX p l e s m args below meth c 3 2 42 D aC b0 σ0 (.inl (some (.int v))) τ 4 [(0, .ref (x0)), (1, .int (x1)), (2, .int (x2))] [] ρ) {x0 : Nat} {x1 : Int32} {x2 : Int32} {σ : tM} (hm : J_X12_freeBlocks_23 b0 fu rc4 x0 x1 x2 σ = some (v, τ)) : tX p l e s m args below meth c 3 2 42 D aC b0 σ0 (.inl (some (.int v))) τ 23 [(0, .ref (x0)), (1, .int (x1)), (2, .int (x2))] [] σ := by
  unfold J_X12_freeBlocks_23 at hm
  obtain ⟨y8, hy8⟩ : ∃ z : Int32, z = (x2) + Int32.ofInt 1 := ⟨_, rfl⟩
  replace hm := ltb_e hm hy8
  refine zx_iinc C [(2, .int (y8)), (0, .ref (x0)), (1, .int (x1))] dX12_freeBlocks_23 2 rfl hy8.symm (by decide) rfl ?_
  refine zx_goto C 4 dX12_freeBlocks_26 (by decide) ?_
  exact zx_lv [1, 2, 0] [(0, .ref (x0)), (1, .int (x1)), (2, .int (y8))] rfl (hrc4 _ _ _ _ hm)
set_option maxRecDepth 100000 in
set_option maxHeartbeats 1000000 in
theorem l_X12_freeBlocks_4 {p : Program} {l : Launch} {e : Env} {s : State} {m : MethodId} {args : Array Value} {below : List Frame} {meth : Method} {c : Code} {D : va_G} {aC : Nat → ClassId} {b0 fu : Nat} {σ0 τ : tM} {v : Int32}  (C : tCx p l s m args meth c yX12_freeBlocks.cls cX12_freeBlocks 3 (some .int) D aC b0 σ0) (htab : ∀ x ∈ c.exceptionTable.toList, False) (hin : meth.name = yX12_freeBlocks.name)  : ∀ (n : Nat) (x0 : Nat) (x1 : Int32) (x2 : Int32) (σ : tM), L_X12_freeBlocks_4 b0 fu  n x0 x1 x2 σ = some (v, τ) → tX p l e s m args below meth c 3 2 42 D aC b0 σ0 (.inl (some (.int v))) τ 4 [(0, .ref (x0)), (1, .int (x1)), (2, .int (x2))] [] σ := by
  intro n
  induction n with
  | zero => intro x0 x1 x2 σ hm; unfold L_X12_freeBlocks_4 at hm; cases hm
  | succ n ih =>
    intro x0 x1 x2 σ hm
    unfold L_X12_freeBlocks_4 at hm
    obtain ⟨rc4, hrc⟩ : ∃ z, z = L_X12_freeBlocks_4 b0 fu  n := ⟨_, rfl⟩
    replace hm := ltb_e hm hrc
    rw [← hrc] at ih
    have hrc4 := ih
    clear ih hrc
    refine zx_iload_n C dX12_freeBlocks_4 2 rfl ?_
    refine zx_aload_n C dX12_freeBlocks_5 0 rfl ?_
    obtain ⟨k1, i2, hm⟩ := ckO_e hm
    refine zx_get (j := 7) C tC_11 k1 i2 ⟨by decide, Or.inl W_6_226⟩ dX12_freeBlocks_6 (.int (tI (σ) (x0) 7)) rfl ?_
    refine zx_icmp_ge C 29 dX12_freeBlocks_9 (by decide) (fun c3 => ?_) (fun c3 => ?_)
    · replace hm := ip_e hm c3
      refine zx_iload_n C dX12_freeBlocks_29 1 rfl ?_
      obtain ⟨rfl, rfl⟩ := ret_e hm
      exact zx_iret C rfl rfl rfl dX12_freeBlocks_30
    · replace hm := in_e hm c3
      refine zx_aload_n C dX12_freeBlocks_12 0 rfl ?_
      refine zx_iload_n C dX12_freeBlocks_13 2 rfl ?_
      obtain ⟨v4, ρ5, h6, hm⟩ := cll_e hm
      refine zx_callV (σ := σ) C [.int (x2)] tC_11 k1 i2 Y_X12_isFree W_8_95 W_8_97 Wp_93 (c_X12_isFree h6) (by decide) (by decide) rfl (Nat.le_of_ble_eq_true rfl) dX12_freeBlocks_14 rfl ?_
      refine zx_if_eq C 23 dX12_freeBlocks_17 (by decide) (fun c7 => ?_) (fun c7 => ?_)
      · replace hm := ip_e hm c7
        exact zx_lv [0, 1, 2] [(0, .ref (x0)), (1, .int (x1)), (2, .int (x2))] rfl (j_X12_freeBlocks_23 C htab hin hrc4   hm)
      · replace hm := in_e hm c7
        obtain ⟨y9, hy9⟩ : ∃ z : Int32, z = (x1) + Int32.ofInt 1 := ⟨_, rfl⟩
        replace hm := ltb_e hm hy9
        refine zx_iinc C [(1, .int (y9)), (0, .ref (x0)), (2, .int (x2))] dX12_freeBlocks_20 1 rfl hy9.symm (by decide) rfl ?_
        exact zx_lv [1, 0, 2] [(0, .ref (x0)), (1, .int (y9)), (2, .int (x2))] rfl (j_X12_freeBlocks_23 C htab hin hrc4   hm)
set_option maxRecDepth 100000 in
set_option maxHeartbeats 1000000 in
theorem c_X12_freeBlocks {l : Launch} {D : va_G} {aC : Nat → ClassId} {b0 fu : Nat} {a0 : Nat} {σ τ : tM} {v : Int32} (hm : m_X12_freeBlocks b0 fu a0 σ = some (v, τ)) : tMt l D aC b0 yX12_freeBlocks (Cond.code yX12_freeBlocks cX12_freeBlocks 3 (some .int)) 2 42 [.ref (a0)] σ (.inl (some (.int v))) τ := by
  unfold m_X12_freeBlocks at hm
  obtain ⟨hg, hm⟩ := grw_e hm
  refine tMt_of (n := 0) rfl (Nat.le_of_ble_eq_true rfl) hg ?_
  intro p e s m below meth c C htab hin
  refine zx_lv [0] [(0, .ref (a0))] rfl ?_
  refine zx_iconst (v := 0) C dX12_freeBlocks_0 (by decide) ?_
  refine zx_istore_n C [(1, .int (0)), (0, .ref (a0))] dX12_freeBlocks_1 rfl (by decide) rfl ?_
  refine zx_iconst (v := 0) C dX12_freeBlocks_2 (by decide) ?_
  refine zx_istore_n C [(2, .int (0)), (1, .int (0)), (0, .ref (a0))] dX12_freeBlocks_3 rfl (by decide) rfl ?_
  exact zx_lv [2, 1, 0] [(0, .ref (a0)), (1, .int (0)), (2, .int (0))] rfl (l_X12_freeBlocks_4 C htab hin  _ _ _ _ _ hm)
