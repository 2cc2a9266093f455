abbrev cX12_forget : ByteArray := prog_13_method_24_code
def yX12_forget : MethodName := ⟨"SyncTreeModel", "forget", "()V"⟩
theorem Y_X12_forget : tY yX12_forget cX12_forget 5 none 0 := ⟨W_7_235, W_1_14, ⟨by decide +kernel, by decide +kernel⟩, by decide +kernel⟩
theorem dX12_forget_0 : decode cX12_forget 0 = .ok (.aload_n 0, 1) := by decide +kernel
theorem dX12_forget_1 : decode cX12_forget 1 = .ok (.getfield 122, 3) := by decide +kernel
theorem dX12_forget_4 : decode cX12_forget 4 = .ok (.aload_n 0, 1) := by decide +kernel
theorem dX12_forget_5 : decode cX12_forget 5 = .ok (.getfield 128, 3) := by decide +kernel
theorem dX12_forget_8 : decode cX12_forget 8 = .ok (.if_icmp .le 22, 3) := by decide +kernel
theorem dX12_forget_11 : decode cX12_forget 11 = .ok (.aload_n 0, 1) := by decide +kernel
theorem dX12_forget_12 : decode cX12_forget 12 = .ok (.getfield 146, 3) := by decide +kernel
theorem dX12_forget_15 : decode cX12_forget 15 = .ok (.aload_n 0, 1) := by decide +kernel
theorem dX12_forget_16 : decode cX12_forget 16 = .ok (.getfield 122, 3) := by decide +kernel
theorem dX12_forget_19 : decode cX12_forget 19 = .ok (.aload_n 0, 1) := by decide +kernel
theorem dX12_forget_20 : decode cX12_forget 20 = .ok (.getfield 128, 3) := by decide +kernel
theorem dX12_forget_23 : decode cX12_forget 23 = .ok (.isub, 1) := by decide +kernel
theorem dX12_forget_24 : decode cX12_forget 24 = .ok (.iconst 1, 1) := by decide +kernel
theorem dX12_forget_25 : decode cX12_forget 25 = .ok (.isub, 1) := by decide +kernel
theorem dX12_forget_26 : decode cX12_forget 26 = .ok (.iaload, 1) := by decide +kernel
theorem dX12_forget_27 : decode cX12_forget 27 = .ok (.goto 4, 3) := by decide +kernel
theorem dX12_forget_30 : decode cX12_forget 30 = .ok (.iconst 0, 1) := by decide +kernel
theorem dX12_forget_31 : decode cX12_forget 31 = .ok (.istore_n 1, 1) := by decide +kernel
theorem dX12_forget_32 : decode cX12_forget 32 = .ok (.iload_n 1, 1) := by decide +kernel
theorem dX12_forget_33 : decode cX12_forget 33 = .ok (.ifCond .le 85, 3) := by decide +kernel
theorem dX12_forget_36 : decode cX12_forget 36 = .ok (.aload_n 0, 1) := by decide +kernel
theorem dX12_forget_37 : decode cX12_forget 37 = .ok (.getfield 20, 3) := by decide +kernel
theorem dX12_forget_40 : decode cX12_forget 40 = .ok (.iload_n 1, 1) := by decide +kernel
theorem dX12_forget_41 : decode cX12_forget 41 = .ok (.aload_n 0, 1) := by decide +kernel
theorem dX12_forget_42 : decode cX12_forget 42 = .ok (.getfield 20, 3) := by decide +kernel
theorem dX12_forget_45 : decode cX12_forget 45 = .ok (.iconst 0, 1) := by decide +kernel
theorem dX12_forget_46 : decode cX12_forget 46 = .ok (.aload_n 0, 1) := by decide +kernel
theorem dX12_forget_47 : decode cX12_forget 47 = .ok (.getfield 17, 3) := by decide +kernel
theorem dX12_forget_50 : decode cX12_forget 50 = .ok (.iload_n 1, 1) := by decide +kernel
theorem dX12_forget_51 : decode cX12_forget 51 = .ok (.isub, 1) := by decide +kernel
theorem dX12_forget_52 : decode cX12_forget 52 = .ok (.invokestatic 7, 3) := by decide +kernel
theorem dX12_forget_55 : decode cX12_forget 55 = .ok (.aload_n 0, 1) := by decide +kernel
theorem dX12_forget_56 : decode cX12_forget 56 = .ok (.getfield 27, 3) := by decide +kernel
theorem dX12_forget_59 : decode cX12_forget 59 = .ok (.iload_n 1, 1) := by decide +kernel
theorem dX12_forget_60 : decode cX12_forget 60 = .ok (.aload_n 0, 1) := by decide +kernel
theorem dX12_forget_61 : decode cX12_forget 61 = .ok (.getfield 27, 3) := by decide +kernel
theorem dX12_forget_64 : decode cX12_forget 64 = .ok (.iconst 0, 1) := by decide +kernel
theorem dX12_forget_65 : decode cX12_forget 65 = .ok (.aload_n 0, 1) := by decide +kernel
theorem dX12_forget_66 : decode cX12_forget 66 = .ok (.getfield 17, 3) := by decide +kernel
theorem dX12_forget_69 : decode cX12_forget 69 = .ok (.iload_n 1, 1) := by decide +kernel
theorem dX12_forget_70 : decode cX12_forget 70 = .ok (.isub, 1) := by decide +kernel
theorem dX12_forget_71 : decode cX12_forget 71 = .ok (.invokestatic 7, 3) := by decide +kernel
theorem dX12_forget_74 : decode cX12_forget 74 = .ok (.aload_n 0, 1) := by decide +kernel
theorem dX12_forget_75 : decode cX12_forget 75 = .ok (.dup, 1) := by decide +kernel
theorem dX12_forget_76 : decode cX12_forget 76 = .ok (.getfield 17, 3) := by decide +kernel
theorem dX12_forget_79 : decode cX12_forget 79 = .ok (.iload_n 1, 1) := by decide +kernel
theorem dX12_forget_80 : decode cX12_forget 80 = .ok (.isub, 1) := by decide +kernel
theorem dX12_forget_81 : decode cX12_forget 81 = .ok (.putfield 17, 3) := by decide +kernel
theorem dX12_forget_84 : decode cX12_forget 84 = .ok (.iconst 0, 1) := by decide +kernel
theorem dX12_forget_85 : decode cX12_forget 85 = .ok (.istore_n 2, 1) := by decide +kernel
theorem dX12_forget_86 : decode cX12_forget 86 = .ok (.iload_n 2, 1) := by decide +kernel
theorem dX12_forget_87 : decode cX12_forget 87 = .ok (.aload_n 0, 1) := by decide +kernel
theorem dX12_forget_88 : decode cX12_forget 88 = .ok (.getfield 137, 3) := by decide +kernel
theorem dX12_forget_91 : decode cX12_forget 91 = .ok (.if_icmp .ge 27, 3) := by decide +kernel
theorem dX12_forget_94 : decode cX12_forget 94 = .ok (.aload_n 0, 1) := by decide +kernel
theorem dX12_forget_95 : decode cX12_forget 95 = .ok (.getfield 146, 3) := by decide +kernel
theorem dX12_forget_98 : decode cX12_forget 98 = .ok (.iload_n 2, 1) := by decide +kernel
theorem dX12_forget_99 : decode cX12_forget 99 = .ok (.iconst 0, 1) := by decide +kernel
theorem dX12_forget_100 : decode cX12_forget 100 = .ok (.aload_n 0, 1) := by decide +kernel
theorem dX12_forget_101 : decode cX12_forget 101 = .ok (.getfield 146, 3) := by decide +kernel
theorem dX12_forget_104 : decode cX12_forget 104 = .ok (.iload_n 2, 1) := by decide +kernel
theorem dX12_forget_105 : decode cX12_forget 105 = .ok (.iaload, 1) := by decide +kernel
theorem dX12_forget_106 : decode cX12_forget 106 = .ok (.iload_n 1, 1) := by decide +kernel
theorem dX12_forget_107 : decode cX12_forget 107 = .ok (.isub, 1) := by decide +kernel
theorem dX12_forget_108 : decode cX12_forget 108 = .ok (.invokestatic 211, 3) := by decide +kernel
theorem dX12_forget_111 : decode cX12_forget 111 = .ok (.iastore, 1) := by decide +kernel
theorem dX12_forget_112 : decode cX12_forget 112 = .ok (.iinc 2 1, 3) := by decide +kernel
theorem dX12_forget_115 : decode cX12_forget 115 = .ok (.goto (-29), 3) := by decide +kernel
theorem dX12_forget_118 : decode cX12_forget 118 = .ok (.aload_n 0, 1) := by decide +kernel
theorem dX12_forget_119 : decode cX12_forget 119 = .ok (.getfield 119, 3) := by decide +kernel
theorem dX12_forget_122 : decode cX12_forget 122 = .ok (.aload_n 0, 1) := by decide +kernel
theorem dX12_forget_123 : decode cX12_forget 123 = .ok (.getfield 128, 3) := by decide +kernel
theorem dX12_forget_126 : decode cX12_forget 126 = .ok (.isub, 1) := by decide +kernel
theorem dX12_forget_127 : decode cX12_forget 127 = .ok (.istore_n 2, 1) := by decide +kernel
theorem dX12_forget_128 : decode cX12_forget 128 = .ok (.iload_n 2, 1) := by decide +kernel
theorem dX12_forget_129 : decode cX12_forget 129 = .ok (.ifCond .gt 4, 3) := by decide +kernel
theorem dX12_forget_132 : decode cX12_forget 132 = .ok (.return_, 1) := by decide +kernel
theorem dX12_forget_133 : decode cX12_forget 133 = .ok (.aload_n 0, 1) := by decide +kernel
theorem dX12_forget_134 : decode cX12_forget 134 = .ok (.aload_n 0, 1) := by decide +kernel
theorem dX12_forget_135 : decode cX12_forget 135 = .ok (.getfield 143, 3) := by decide +kernel
theorem dX12_forget_138 : decode cX12_forget 138 = .ok (.iload_n 2, 1) := by decide +kernel
theorem dX12_forget_139 : decode cX12_forget 139 = .ok (.iconst 1, 1) := by decide +kernel
theorem dX12_forget_140 : decode cX12_forget 140 = .ok (.isub, 1) := by decide +kernel
theorem dX12_forget_141 : decode cX12_forget 141 = .ok (.iaload, 1) := by decide +kernel
theorem dX12_forget_142 : decode cX12_forget 142 = .ok (.aload_n 0, 1) := by decide +kernel
theorem dX12_forget_143 : decode cX12_forget 143 = .ok (.getfield 125, 3) := by decide +kernel
theorem dX12_forget_146 : decode cX12_forget 146 = .ok (.iload_n 2, 1) := by decide +kernel
theorem dX12_forget_147 : decode cX12_forget 147 = .ok (.iconst 1, 1) := by decide +kernel
theorem dX12_forget_148 : decode cX12_forget 148 = .ok (.isub, 1) := by decide +kernel
theorem dX12_forget_149 : decode cX12_forget 149 = .ok (.iaload, 1) := by decide +kernel
theorem dX12_forget_150 : decode cX12_forget 150 = .ok (.iadd, 1) := by decide +kernel
theorem dX12_forget_151 : decode cX12_forget 151 = .ok (.aload_n 0, 1) := by decide +kernel
theorem dX12_forget_152 : decode cX12_forget 152 = .ok (.getfield 38, 3) := by decide +kernel
theorem dX12_forget_155 : decode cX12_forget 155 = .ok (.irem, 1) := by decide +kernel
theorem dX12_forget_156 : decode cX12_forget 156 = .ok (.putfield 217, 3) := by decide +kernel
theorem dX12_forget_159 : decode cX12_forget 159 = .ok (.iload_n 2, 1) := by decide +kernel
theorem dX12_forget_160 : decode cX12_forget 160 = .ok (.aload_n 0, 1) := by decide +kernel
theorem dX12_forget_161 : decode cX12_forget 161 = .ok (.getfield 137, 3) := by decide +kernel
theorem dX12_forget_164 : decode cX12_forget 164 = .ok (.if_icmp .ge 12, 3) := by decide +kernel
theorem dX12_forget_167 : decode cX12_forget 167 = .ok (.aload_n 0, 1) := by decide +kernel
theorem dX12_forget_168 : decode cX12_forget 168 = .ok (.getfield 149, 3) := by decide +kernel
theorem dX12_forget_171 : decode cX12_forget 171 = .ok (.iload_n 2, 1) := by decide +kernel
theorem dX12_forget_172 : decode cX12_forget 172 = .ok (.iaload, 1) := by decide +kernel
theorem dX12_forget_173 : decode cX12_forget 173 = .ok (.goto 7, 3) := by decide +kernel
theorem dX12_forget_176 : decode cX12_forget 176 = .ok (.aload_n 0, 1) := by decide +kernel
theorem dX12_forget_177 : decode cX12_forget 177 = .ok (.getfield 131, 3) := by decide +kernel
theorem dX12_forget_180 : decode cX12_forget 180 = .ok (.istore_n 3, 1) := by decide +kernel
theorem dX12_forget_181 : decode cX12_forget 181 = .ok (.aload_n 0, 1) := by decide +kernel
theorem dX12_forget_182 : decode cX12_forget 182 = .ok (.getfield 134, 3) := by decide +kernel
theorem dX12_forget_185 : decode cX12_forget 185 = .ok (.iload_n 3, 1) := by decide +kernel
theorem dX12_forget_186 : decode cX12_forget 186 = .ok (.aload_n 0, 1) := by decide +kernel
theorem dX12_forget_187 : decode cX12_forget 187 = .ok (.getfield 134, 3) := by decide +kernel
theorem dX12_forget_190 : decode cX12_forget 190 = .ok (.iconst 0, 1) := by decide +kernel
theorem dX12_forget_191 : decode cX12_forget 191 = .ok (.aload_n 0, 1) := by decide +kernel
theorem dX12_forget_192 : decode cX12_forget 192 = .ok (.getfield 131, 3) := by decide +kernel
theorem dX12_forget_195 : decode cX12_forget 195 = .ok (.iload_n 3, 1) := by decide +kernel
theorem dX12_forget_196 : decode cX12_forget 196 = .ok (.isub, 1) := by decide +kernel
theorem dX12_forget_197 : decode cX12_forget 197 = .ok (.invokestatic 7, 3) := by decide +kernel
theorem dX12_forget_200 : decode cX12_forget 200 = .ok (.aload_n 0, 1) := by decide +kernel
theorem dX12_forget_201 : decode cX12_forget 201 = .ok (.dup, 1) := by decide +kernel
theorem dX12_forget_202 : decode cX12_forget 202 = .ok (.getfield 131, 3) := by decide +kernel
theorem dX12_forget_205 : decode cX12_forget 205 = .ok (.iload_n 3, 1) := by decide +kernel
theorem dX12_forget_206 : decode cX12_forget 206 = .ok (.isub, 1) := by decide +kernel
theorem dX12_forget_207 : decode cX12_forget 207 = .ok (.putfield 131, 3) := by decide +kernel
theorem dX12_forget_210 : decode cX12_forget 210 = .ok (.iload_n 2, 1) := by decide +kernel
theorem dX12_forget_211 : decode cX12_forget 211 = .ok (.istore 4, 2) := by decide +kernel
theorem dX12_forget_213 : decode cX12_forget 213 = .ok (.iload 4, 2) := by decide +kernel
theorem dX12_forget_215 : decode cX12_forget 215 = .ok (.aload_n 0, 1) := by decide +kernel
theorem dX12_forget_216 : decode cX12_forget 216 = .ok (.getfield 137, 3) := by decide +kernel
theorem dX12_forget_219 : decode cX12_forget 219 = .ok (.if_icmp .ge 123, 3) := by decide +kernel
theorem dX12_forget_222 : decode cX12_forget 222 = .ok (.aload_n 0, 1) := by decide +kernel
theorem dX12_forget_223 : decode cX12_forget 223 = .ok (.getfield 140, 3) := by decide +kernel
theorem dX12_forget_226 : decode cX12_forget 226 = .ok (.iload 4, 2) := by decide +kernel
theorem dX12_forget_228 : decode cX12_forget 228 = .ok (.iload_n 2, 1) := by decide +kernel
theorem dX12_forget_229 : decode cX12_forget 229 = .ok (.isub, 1) := by decide +kernel
theorem dX12_forget_230 : decode cX12_forget 230 = .ok (.aload_n 0, 1) := by decide +kernel
theorem dX12_forget_231 : decode cX12_forget 231 = .ok (.getfield 140, 3) := by decide +kernel
theorem dX12_forget_234 : decode cX12_forget 234 = .ok (.iload 4, 2) := by decide +kernel
theorem dX12_forget_236 : decode cX12_forget 236 = .ok (.iaload, 1) := by decide +kernel
theorem dX12_forget_237 : decode cX12_forget 237 = .ok (.iastore, 1) := by decide +kernel
theorem dX12_forget_238 : decode cX12_forget 238 = .ok (.aload_n 0, 1) := by decide +kernel
theorem dX12_forget_239 : decode cX12_forget 239 = .ok (.getfield 143, 3) := by decide +kernel
theorem dX12_forget_242 : decode cX12_forget 242 = .ok (.iload 4, 2) := by decide +kernel
theorem dX12_forget_244 : decode cX12_forget 244 = .ok (.iload_n 2, 1) := by decide +kernel
theorem dX12_forget_245 : decode cX12_forget 245 = .ok (.isub, 1) := by decide +kernel
theorem dX12_forget_246 : decode cX12_forget 246 = .ok (.aload_n 0, 1) := by decide +kernel
theorem dX12_forget_247 : decode cX12_forget 247 = .ok (.getfield 143, 3) := by decide +kernel
theorem dX12_forget_250 : decode cX12_forget 250 = .ok (.iload 4, 2) := by decide +kernel
theorem dX12_forget_252 : decode cX12_forget 252 = .ok (.iaload, 1) := by decide +kernel
theorem dX12_forget_253 : decode cX12_forget 253 = .ok (.iastore, 1) := by decide +kernel
theorem dX12_forget_254 : decode cX12_forget 254 = .ok (.aload_n 0, 1) := by decide +kernel
theorem dX12_forget_255 : decode cX12_forget 255 = .ok (.getfield 125, 3) := by decide +kernel
theorem dX12_forget_258 : decode cX12_forget 258 = .ok (.iload 4, 2) := by decide +kernel
theorem dX12_forget_260 : decode cX12_forget 260 = .ok (.iload_n 2, 1) := by decide +kernel
theorem dX12_forget_261 : decode cX12_forget 261 = .ok (.isub, 1) := by decide +kernel
theorem dX12_forget_262 : decode cX12_forget 262 = .ok (.aload_n 0, 1) := by decide +kernel
theorem dX12_forget_263 : decode cX12_forget 263 = .ok (.getfield 125, 3) := by decide +kernel
theorem dX12_forget_266 : decode cX12_forget 266 = .ok (.iload 4, 2) := by decide +kernel
theorem dX12_forget_268 : decode cX12_forget 268 = .ok (.iaload, 1) := by decide +kernel
theorem dX12_forget_269 : decode cX12_forget 269 = .ok (.iastore, 1) := by decide +kernel
theorem dX12_forget_270 : decode cX12_forget 270 = .ok (.aload_n 0, 1) := by decide +kernel
theorem dX12_forget_271 : decode cX12_forget 271 = .ok (.getfield 146, 3) := by decide +kernel
theorem dX12_forget_274 : decode cX12_forget 274 = .ok (.iload 4, 2) := by decide +kernel
theorem dX12_forget_276 : decode cX12_forget 276 = .ok (.iload_n 2, 1) := by decide +kernel
theorem dX12_forget_277 : decode cX12_forget 277 = .ok (.isub, 1) := by decide +kernel
theorem dX12_forget_278 : decode cX12_forget 278 = .ok (.aload_n 0, 1) := by decide +kernel
theorem dX12_forget_279 : decode cX12_forget 279 = .ok (.getfield 146, 3) := by decide +kernel
theorem dX12_forget_282 : decode cX12_forget 282 = .ok (.iload 4, 2) := by decide +kernel
theorem dX12_forget_284 : decode cX12_forget 284 = .ok (.iaload, 1) := by decide +kernel
theorem dX12_forget_285 : decode cX12_forget 285 = .ok (.iastore, 1) := by decide +kernel
theorem dX12_forget_286 : decode cX12_forget 286 = .ok (.aload_n 0, 1) := by decide +kernel
theorem dX12_forget_287 : decode cX12_forget 287 = .ok (.getfield 149, 3) := by decide +kernel
theorem dX12_forget_290 : decode cX12_forget 290 = .ok (.iload 4, 2) := by decide +kernel
theorem dX12_forget_292 : decode cX12_forget 292 = .ok (.iload_n 2, 1) := by decide +kernel
theorem dX12_forget_293 : decode cX12_forget 293 = .ok (.isub, 1) := by decide +kernel
theorem dX12_forget_294 : decode cX12_forget 294 = .ok (.aload_n 0, 1) := by decide +kernel
theorem dX12_forget_295 : decode cX12_forget 295 = .ok (.getfield 149, 3) := by decide +kernel
theorem dX12_forget_298 : decode cX12_forget 298 = .ok (.iload 4, 2) := by decide +kernel
theorem dX12_forget_300 : decode cX12_forget 300 = .ok (.iaload, 1) := by decide +kernel
theorem dX12_forget_301 : decode cX12_forget 301 = .ok (.iload_n 3, 1) := by decide +kernel
theorem dX12_forget_302 : decode cX12_forget 302 = .ok (.isub, 1) := by decide +kernel
theorem dX12_forget_303 : decode cX12_forget 303 = .ok (.iastore, 1) := by decide +kernel
theorem dX12_forget_304 : decode cX12_forget 304 = .ok (.aload_n 0, 1) := by decide +kernel
theorem dX12_forget_305 : decode cX12_forget 305 = .ok (.getfield 152, 3) := by decide +kernel
theorem dX12_forget_308 : decode cX12_forget 308 = .ok (.iload 4, 2) := by decide +kernel
theorem dX12_forget_310 : decode cX12_forget 310 = .ok (.iload_n 2, 1) := by decide +kernel
theorem dX12_forget_311 : decode cX12_forget 311 = .ok (.isub, 1) := by decide +kernel
theorem dX12_forget_312 : decode cX12_forget 312 = .ok (.aload_n 0, 1) := by decide +kernel
theorem dX12_forget_313 : decode cX12_forget 313 = .ok (.getfield 152, 3) := by decide +kernel
theorem dX12_forget_316 : decode cX12_forget 316 = .ok (.iload 4, 2) := by decide +kernel
theorem dX12_forget_318 : decode cX12_forget 318 = .ok (.iaload, 1) := by decide +kernel
theorem dX12_forget_319 : decode cX12_forget 319 = .ok (.iastore, 1) := by decide +kernel
theorem dX12_forget_320 : decode cX12_forget 320 = .ok (.aload_n 0, 1) := by decide +kernel
theorem dX12_forget_321 : decode cX12_forget 321 = .ok (.getfield 155, 3) := by decide +kernel
theorem dX12_forget_324 : decode cX12_forget 324 = .ok (.iload 4, 2) := by decide +kernel
theorem dX12_forget_326 : decode cX12_forget 326 = .ok (.iload_n 2, 1) := by decide +kernel
theorem dX12_forget_327 : decode cX12_forget 327 = .ok (.isub, 1) := by decide +kernel
theorem dX12_forget_328 : decode cX12_forget 328 = .ok (.aload_n 0, 1) := by decide +kernel
theorem dX12_forget_329 : decode cX12_forget 329 = .ok (.getfield 155, 3) := by decide +kernel
theorem dX12_forget_332 : decode cX12_forget 332 = .ok (.iload 4, 2) := by decide +kernel
theorem dX12_forget_334 : decode cX12_forget 334 = .ok (.iaload, 1) := by decide +kernel
theorem dX12_forget_335 : decode cX12_forget 335 = .ok (.iastore, 1) := by decide +kernel
theorem dX12_forget_336 : decode cX12_forget 336 = .ok (.iinc 4 1, 3) := by decide +kernel
theorem dX12_forget_339 : decode cX12_forget 339 = .ok (.goto (-126), 3) := by decide +kernel
theorem dX12_forget_342 : decode cX12_forget 342 = .ok (.aload_n 0, 1) := by decide +kernel
theorem dX12_forget_343 : decode cX12_forget 343 = .ok (.dup, 1) := by decide +kernel
theorem dX12_forget_344 : decode cX12_forget 344 = .ok (.getfield 137, 3) := by decide +kernel
theorem dX12_forget_347 : decode cX12_forget 347 = .ok (.iload_n 2, 1) := by decide +kernel
theorem dX12_forget_348 : decode cX12_forget 348 = .ok (.isub, 1) := by decide +kernel
theorem dX12_forget_349 : decode cX12_forget 349 = .ok (.putfield 137, 3) := by decide +kernel
theorem dX12_forget_352 : decode cX12_forget 352 = .ok (.aload_n 0, 1) := by decide +kernel
theorem dX12_forget_353 : decode cX12_forget 353 = .ok (.aload_n 0, 1) := by decide +kernel
theorem dX12_forget_354 : decode cX12_forget 354 = .ok (.getfield 119, 3) := by decide +kernel
theorem dX12_forget_357 : decode cX12_forget 357 = .ok (.putfield 128, 3) := by decide +kernel
theorem dX12_forget_360 : decode cX12_forget 360 = .ok (.return_, 1) := by decide +kernel
set_option maxRecDepth 100000 in
set_option maxHeartbeats 1000000 in
theorem j_X12_forget_320 {p : Program} {l : Launch} {e : Env} {s : State} {m : MethodId} {args : Array Value} {below : List Frame} {meth : Method} {c : Code} {D : va_G} {aC : Nat → ClassId} {b0 fu : Nat} {σ0 τ : tM} {v : Unit} {rc213 : Nat → Int32 → Int32 → Int32 → tM → Option ((Unit) × tM)} (C : tCx p l s m args meth c yX12_forget.cls cX12_forget 5 none D aC b0 σ0) (htab : ∀ x ∈ c.exceptionTable.toList, False) (hin : meth.name = yX12_forget.name) (hrc213 : ∀ (x0 : Nat) (x2 : Int32) (x3 : Int32) (x4 : Int32) (ρ : tM), rc213 x0 x2 x3 x4 ρ = some (v, τ) → tX p l e s m args below meth c 5 1 26 D aC b0 σ0 (.inl none) τ 213 [(0, .ref (x0)), (2, .int (x2)), (3, .int (x3)), (4, .int (x4))] [] ρ) {x0 : Nat} {x2 : Int32} {x3 : Int32} {x4 : Int32} {σ : tM} (hm : J_X12_forget_320 b0 fu rc213 x0 x2 x3 x4 σ = some (v, τ)) : tX p l e s m args below meth c 5 1 26 D aC b0 σ0 (.inl none) τ 320 [(0, .ref (x0)), (2, .int (x2)), (3, .int (x3)), (4, .int (x4))] [] σ := by
  unfold J_X12_forget_320 at hm
  refine zx_aload_n C dX12_forget_320 0 rfl ?_
  obtain ⟨k148, i149, hm⟩ := ckO_e hm
  obtain ⟨a150, h151, hm⟩ := osm_e hm
  refine zx_get (j := 43) C tC_11 k148 i149 ⟨by decide, Or.inl W_7_22⟩ dX12_forget_321 (.ref a150) (rf_s h151) ?_
  refine zx_iload C dX12_forget_324 3 rfl ?_
  refine zx_iload_n C dX12_forget_326 1 rfl ?_
  refine zx_isub C dX12_forget_327 ?_
  refine zx_aload_n C dX12_forget_328 0 rfl ?_
  obtain ⟨a152, h153, hm⟩ := osm_e hm
  refine zx_get (j := 43) C tC_11 k148 i149 ⟨by decide, Or.inl W_7_22⟩ dX12_forget_329 (.ref a152) (rf_s h153) ?_
  refine zx_iload C dX12_forget_332 3 rfl ?_
  obtain ⟨n156, k154, i155, hm⟩ := ckR_e hm
  obtain ⟨h157, hm⟩ := ckI_e hm
  refine zx_iald C k154 i155 h157 dX12_forget_334 ?_
  obtain ⟨n160, k158, i159, hm⟩ := ckR_e hm
  obtain ⟨h161, hm⟩ := ckI_e hm
  refine zx_iast C k158 i159 h161 dX12_forget_335 ?_
  obtain ⟨y162, hy162⟩ : ∃ z : Int32, z = (x4) + Int32.ofInt 1 := ⟨_, rfl⟩
  replace hm := ltb_e hm hy162
  refine zx_iinc C [(4, .int (y162)), (0, .ref (x0)), (2, .int (x2)), (3, .int (x3))] dX12_forget_336 3 rfl hy162.symm (by decide) rfl ?_
  refine zx_goto C 213 dX12_forget_339 (by decide) ?_
  exact zx_lv [1, 2, 3, 0] [(0, .ref (x0)), (2, .int (x2)), (3, .int (x3)), (4, .int (y162))] rfl (hrc213 _ _ _ _ _ hm)
set_option maxRecDepth 100000 in
set_option maxHeartbeats 1000000 in
theorem j_X12_forget_270 {p : Program} {l : Launch} {e : Env} {s : State} {m : MethodId} {args : Array Value} {below : List Frame} {meth : Method} {c : Code} {D : va_G} {aC : Nat → ClassId} {b0 fu : Nat} {σ0 τ : tM} {v : Unit} {rc213 : Nat → Int32 → Int32 → Int32 → tM → Option ((Unit) × tM)} (C : tCx p l s m args meth c yX12_forget.cls cX12_forget 5 none D aC b0 σ0) (htab : ∀ x ∈ c.exceptionTable.toList, False) (hin : meth.name = yX12_forget.name) (hrc213 : ∀ (x0 : Nat) (x2 : Int32) (x3 : Int32) (x4 : Int32) (ρ : tM), rc213 x0 x2 x3 x4 ρ = some (v, τ) → tX p l e s m args below meth c 5 1 26 D aC b0 σ0 (.inl none) τ 213 [(0, .ref (x0)), (2, .int (x2)), (3, .int (x3)), (4, .int (x4))] [] ρ) {x0 : Nat} {x2 : Int32} {x3 : Int32} {x4 : Int32} {σ : tM} (hm : J_X12_forget_270 b0 fu rc213 x0 x2 x3 x4 σ = some (v, τ)) : tX p l e s m args below meth c 5 1 26 D aC b0 σ0 (.inl none) τ 270 [(0, .ref (x0)), (2, .int (x2)), (3, .int (x3)), (4, .int (x4))] [] σ := by
  unfold J_X12_forget_270 at hm
  refine zx_aload_n C dX12_forget_270 0 rfl ?_
  obtain ⟨k99, i100, hm⟩ := ckO_e hm
  obtain ⟨a101, h102, hm⟩ := osm_e hm
  refine zx_get (j := 40) C tC_11 k99 i100 ⟨by decide, Or.inl W_7_19⟩ dX12_forget_271 (.ref a101) (rf_s h102) ?_
  refine zx_iload C dX12_forget_274 3 rfl ?_
  refine zx_iload_n C dX12_forget_276 1 rfl ?_
  refine zx_isub C dX12_forget_277 ?_
  refine zx_aload_n C dX12_forget_278 0 rfl ?_
  obtain ⟨a103, h104, hm⟩ := osm_e hm
  refine zx_get (j := 40) C tC_11 k99 i100 ⟨by decide, Or.inl W_7_19⟩ dX12_forget_279 (.ref a103) (rf_s h104) ?_
  refine zx_iload C dX12_forget_282 3 rfl ?_
  obtain ⟨n107, k105, i106, hm⟩ := ckR_e hm
  obtain ⟨h108, hm⟩ := ckI_e hm
  refine zx_iald C k105 i106 h108 dX12_forget_284 ?_
  obtain ⟨n111, k109, i110, hm⟩ := ckR_e hm
  obtain ⟨h112, hm⟩ := ckI_e hm
  refine zx_iast C k109 i110 h112 dX12_forget_285 ?_
  refine zx_aload_n C dX12_forget_286 0 rfl ?_
  obtain ⟨a113, h114, hm⟩ := osm_e hm
  refine zx_get (j := 41) C tC_11 k99 i100 ⟨by decide, Or.inl W_7_20⟩ dX12_forget_287 (.ref a113) (rf_s h114) ?_
  refine zx_iload C dX12_forget_290 3 rfl ?_
  refine zx_iload_n C dX12_forget_292 1 rfl ?_
  refine zx_isub C dX12_forget_293 ?_
  refine zx_aload_n C dX12_forget_294 0 rfl ?_
  obtain ⟨a115, h116, hm⟩ := osm_e hm
  refine zx_get (j := 41) C tC_11 k99 i100 ⟨by decide, Or.inl W_7_20⟩ dX12_forget_295 (.ref a115) (rf_s h116) ?_
  refine zx_iload C dX12_forget_298 3 rfl ?_
  obtain ⟨n119, k117, i118, hm⟩ := ckR_e hm
  obtain ⟨h120, hm⟩ := ckI_e hm
  refine zx_iald C k117 i118 h120 dX12_forget_300 ?_
  refine zx_iload_n C dX12_forget_301 2 rfl ?_
  refine zx_isub C dX12_forget_302 ?_
  obtain ⟨n123, k121, i122, hm⟩ := ckR_e hm
  obtain ⟨h124, hm⟩ := ckI_e hm
  refine zx_iast C k121 i122 h124 dX12_forget_303 ?_
  refine zx_mem (fun ρ125 hρ125 => ?_)
  replace hm := ltb_e hm hρ125
  have k126 : tk ρ125 (x0) = .inl 11 := by rw [hρ125]; exact k99
  have i127 : tIn b0 ρ125 (x0) := by rw [hρ125]; exact i100
  have k128 : tk ρ125 (a103) = .inr (0, n107) := by rw [hρ125]; exact k105
  have i129 : tIn b0 ρ125 (a103) := by rw [hρ125]; exact i106
  have k130 : tk ρ125 (a101) = .inr (0, n111) := by rw [hρ125]; exact k109
  have i131 : tIn b0 ρ125 (a101) := by rw [hρ125]; exact i110
  have k132 : tk ρ125 (a115) = .inr (0, n119) := by rw [hρ125]; exact k117
  have i133 : tIn b0 ρ125 (a115) := by rw [hρ125]; exact i118
  have k134 : tk ρ125 (a113) = .inr (0, n123) := by rw [hρ125]; exact k121
  have i135 : tIn b0 ρ125 (a113) := by rw [hρ125]; exact i122
  refine zx_aload_n C dX12_forget_304 0 rfl ?_
  obtain ⟨a136, h137, hm⟩ := osm_e hm
  refine zx_get (j := 42) C tC_11 k126 i127 ⟨by decide, Or.inl W_7_21⟩ dX12_forget_305 (.ref a136) (rf_s h137) ?_
  refine zx_iload C dX12_forget_308 3 rfl ?_
  refine zx_iload_n C dX12_forget_310 1 rfl ?_
  refine zx_isub C dX12_forget_311 ?_
  refine zx_aload_n C dX12_forget_312 0 rfl ?_
  obtain ⟨a138, h139, hm⟩ := osm_e hm
  refine zx_get (j := 42) C tC_11 k126 i127 ⟨by decide, Or.inl W_7_21⟩ dX12_forget_313 (.ref a138) (rf_s h139) ?_
  refine zx_iload C dX12_forget_316 3 rfl ?_
  obtain ⟨n142, k140, i141, hm⟩ := ckR_e hm
  obtain ⟨h143, hm⟩ := ckI_e hm
  refine zx_iald C k140 i141 h143 dX12_forget_318 ?_
  obtain ⟨n146, k144, i145, hm⟩ := ckR_e hm
  obtain ⟨h147, hm⟩ := ckI_e hm
  refine zx_iast C k144 i145 h147 dX12_forget_319 ?_
  exact zx_lv [0, 1, 2, 3] [(0, .ref (x0)), (2, .int (x2)), (3, .int (x3)), (4, .int (x4))] rfl (j_X12_forget_320 C htab hin hrc213   hm)
set_option maxRecDepth 100000 in
set_option maxHeartbeats 1000000 in
theorem l_X12_forget_213 {p : Program} {l : Launch} {e : Env} {s : State} {m : MethodId} {args : Array Value} {below : List Frame} {meth : Method} {c : Code} {D : va_G} {aC : Nat → ClassId} {b0 fu : Nat} {σ0 τ : tM} {v : Unit}  (C : tCx p l s m args meth c yX12_forget.cls cX12_forget 5 none D aC b0 σ0) (htab : ∀ x ∈ c.exceptionTable.toList, False) (hin : meth.name = yX12_forget.name)  : ∀ (n : Nat) (x0 : Nat) (x2 : Int32) (x3 : Int32) (x4 : Int32) (σ : tM), L_X12_forget_213 b0 fu  n x0 x2 x3 x4 σ = some (v, τ) → tX p l e s m args below meth c 5 1 26 D aC b0 σ0 (.inl none) τ 213 [(0, .ref (x0)), (2, .int (x2)), (3, .int (x3)), (4, .int (x4))] [] σ := by
  intro n
  induction n with
  | zero => intro x0 x2 x3 x4 σ hm; unfold L_X12_forget_213 at hm; cases hm
  | succ n ih =>
    intro x0 x2 x3 x4 σ hm
    unfold L_X12_forget_213 at hm
    obtain ⟨rc213, hrc⟩ : ∃ z, z = L_X12_forget_213 b0 fu  n := ⟨_, rfl⟩
    replace hm := ltb_e hm hrc
    rw [← hrc] at ih
    have hrc213 := ih
    clear ih hrc
    refine zx_iload C dX12_forget_213 3 rfl ?_
    refine zx_aload_n C dX12_forget_215 0 rfl ?_
    obtain ⟨k49, i50, hm⟩ := ckO_e hm
    refine zx_get (j := 36) C tC_11 k49 i50 ⟨by decide, Or.inl W_7_15⟩ dX12_forget_216 (.int (tI (σ) (x0) 36)) rfl ?_
    refine zx_icmp_ge C 342 dX12_forget_219 (by decide) (fun c51 => ?_) (fun c51 => ?_)
    · replace hm := ip_e hm c51
      refine zx_aload_n C dX12_forget_342 0 rfl ?_
      refine zx_dup C dX12_forget_343 rfl ?_
      refine zx_get (j := 36) C tC_11 k49 i50 ⟨by decide, Or.inl W_7_15⟩ dX12_forget_344 (.int (tI (σ) (x0) 36)) rfl ?_
      refine zx_iload_n C dX12_forget_347 1 rfl ?_
      refine zx_isub C dX12_forget_348 ?_
      refine zx_put (j := 36) (ρ := sI (σ) (x0) 36 ((tI (σ) (x0) 36) - (x2))) C tC_11 k49 i50 ⟨by decide, Or.inl W_7_15⟩ rfl rfl rfl (sI_ok (fun _ => rfl)) dX12_forget_349 ?_
      refine zx_aload_n C dX12_forget_352 0 rfl ?_
      refine zx_aload_n C dX12_forget_353 0 rfl ?_
      refine zx_get (j := 32) C tC_11 k49 i50 ⟨by decide, Or.inl W_7_11⟩ dX12_forget_354 (.int (tI (sI (σ) (x0) 36 ((tI (σ) (x0) 36) - (x2))) (x0) 32)) rfl ?_
      refine zx_put (j := 35) (ρ := sI (sI (σ) (x0) 36 ((tI (σ) (x0) 36) - (x2))) (x0) 35 (tI (sI (σ) (x0) 36 ((tI (σ) (x0) 36) - (x2))) (x0) 32)) C tC_11 k49 i50 ⟨by decide, Or.inl W_7_14⟩ rfl rfl rfl (sI_ok (fun _ => rfl)) dX12_forget_357 ?_
      obtain ⟨rfl, rfl⟩ := ret_e hm
      exact zx_vret C rfl rfl rfl dX12_forget_360
    · replace hm := in_e hm c51
      refine zx_aload_n C dX12_forget_222 0 rfl ?_
      obtain ⟨a52, h53, hm⟩ := osm_e hm
      refine zx_get (j := 37) C tC_11 k49 i50 ⟨by decide, Or.inl W_7_16⟩ dX12_forget_223 (.ref a52) (rf_s h53) ?_
      refine zx_iload C dX12_forget_226 3 rfl ?_
      refine zx_iload_n C dX12_forget_228 1 rfl ?_
      refine zx_isub C dX12_forget_229 ?_
      refine zx_aload_n C dX12_forget_230 0 rfl ?_
      obtain ⟨a54, h55, hm⟩ := osm_e hm
      refine zx_get (j := 37) C tC_11 k49 i50 ⟨by decide, Or.inl W_7_16⟩ dX12_forget_231 (.ref a54) (rf_s h55) ?_
      refine zx_iload C dX12_forget_234 3 rfl ?_
      obtain ⟨n58, k56, i57, hm⟩ := ckR_e hm
      obtain ⟨h59, hm⟩ := ckI_e hm
      refine zx_iald C k56 i57 h59 dX12_forget_236 ?_
      obtain ⟨n62, k60, i61, hm⟩ := ckR_e hm
      obtain ⟨h63, hm⟩ := ckI_e hm
      refine zx_iast C k60 i61 h63 dX12_forget_237 ?_
      refine zx_aload_n C dX12_forget_238 0 rfl ?_
      obtain ⟨a64, h65, hm⟩ := osm_e hm
      refine zx_get (j := 38) C tC_11 k49 i50 ⟨by decide, Or.inl W_7_17⟩ dX12_forget_239 (.ref a64) (rf_s h65) ?_
      refine zx_iload C dX12_forget_242 3 rfl ?_
      refine zx_iload_n C dX12_forget_244 1 rfl ?_
      refine zx_isub C dX12_forget_245 ?_
      refine zx_aload_n C dX12_forget_246 0 rfl ?_
      obtain ⟨a66, h67, hm⟩ := osm_e hm
      refine zx_get (j := 38) C tC_11 k49 i50 ⟨by decide, Or.inl W_7_17⟩ dX12_forget_247 (.ref a66) (rf_s h67) ?_
      refine zx_iload C dX12_forget_250 3 rfl ?_
      obtain ⟨n70, k68, i69, hm⟩ := ckR_e hm
      obtain ⟨h71, hm⟩ := ckI_e hm
      refine zx_iald C k68 i69 h71 dX12_forget_252 ?_
      obtain ⟨n74, k72, i73, hm⟩ := ckR_e hm
      obtain ⟨h75, hm⟩ := ckI_e hm
      refine zx_iast C k72 i73 h75 dX12_forget_253 ?_
      refine zx_mem (fun ρ76 hρ76 => ?_)
      replace hm := ltb_e hm hρ76
      have k77 : tk ρ76 (x0) = .inl 11 := by rw [hρ76]; exact k49
      have i78 : tIn b0 ρ76 (x0) := by rw [hρ76]; exact i50
      have k79 : tk ρ76 (a54) = .inr (0, n58) := by rw [hρ76]; exact k56
      have i80 : tIn b0 ρ76 (a54) := by rw [hρ76]; exact i57
      have k81 : tk ρ76 (a52) = .inr (0, n62) := by rw [hρ76]; exact k60
      have i82 : tIn b0 ρ76 (a52) := by rw [hρ76]; exact i61
      have k83 : tk ρ76 (a66) = .inr (0, n70) := by rw [hρ76]; exact k68
      have i84 : tIn b0 ρ76 (a66) := by rw [hρ76]; exact i69
      have k85 : tk ρ76 (a64) = .inr (0, n74) := by rw [hρ76]; exact k72
      have i86 : tIn b0 ρ76 (a64) := by rw [hρ76]; exact i73
      refine zx_aload_n C dX12_forget_254 0 rfl ?_
      obtain ⟨a87, h88, hm⟩ := osm_e hm
      refine zx_get (j := 39) C tC_11 k77 i78 ⟨by decide, Or.inl W_7_18⟩ dX12_forget_255 (.ref a87) (rf_s h88) ?_
      refine zx_iload C dX12_forget_258 3 rfl ?_
      refine zx_iload_n C dX12_forget_260 1 rfl ?_
      refine zx_isub C dX12_forget_261 ?_
      refine zx_aload_n C dX12_forget_262 0 rfl ?_
      obtain ⟨a89, h90, hm⟩ := osm_e hm
      refine zx_get (j := 39) C tC_11 k77 i78 ⟨by decide, Or.inl W_7_18⟩ dX12_forget_263 (.ref a89) (rf_s h90) ?_
      refine zx_iload C dX12_forget_266 3 rfl ?_
      obtain ⟨n93, k91, i92, hm⟩ := ckR_e hm
      obtain ⟨h94, hm⟩ := ckI_e hm
      refine zx_iald C k91 i92 h94 dX12_forget_268 ?_
      obtain ⟨n97, k95, i96, hm⟩ := ckR_e hm
      obtain ⟨h98, hm⟩ := ckI_e hm
      refine zx_iast C k95 i96 h98 dX12_forget_269 ?_
      exact zx_lv [0, 1, 2, 3] [(0, .ref (x0)), (2, .int (x2)), (3, .int (x3)), (4, .int (x4))] rfl (j_X12_forget_270 C htab hin hrc213   hm)
set_option maxRecDepth 100000 in
set_option maxHeartbeats 1000000 in
theorem j_X12_forget_180 {p : Program} {l : Launch} {e : Env} {s : State} {m : MethodId} {args : Array Value} {below : List Frame} {meth : Method} {c : Code} {D : va_G} {aC : Nat → ClassId} {b0 fu : Nat} {σ0 τ : tM} {v : Unit}  (C : tCx p l s m args meth c yX12_forget.cls cX12_forget 5 none D aC b0 σ0) (htab : ∀ x ∈ c.exceptionTable.toList, False) (hin : meth.name = yX12_forget.name)  {x0 : Nat} {x2 : Int32} {s0 : Int32} {σ : tM} (hm : J_X12_forget_180 b0 fu  x0 x2 s0 σ = some (v, τ)) : tX p l e s m args below meth c 5 1 26 D aC b0 σ0 (.inl none) τ 180 [(0, .ref (x0)), (2, .int (x2))] [.int (s0)] σ := by
  unfold J_X12_forget_180 at hm
  refine zx_istore_n C [(3, .int (s0)), (0, .ref (x0)), (2, .int (x2))] dX12_forget_180 rfl (by decide) rfl ?_
  refine zx_aload_n C dX12_forget_181 1 rfl ?_
  obtain ⟨k29, i30, hm⟩ := ckO_e hm
  obtain ⟨a31, h32, hm⟩ := osm_e hm
  refine zx_get (j := 44) C tC_11 k29 i30 ⟨by decide, Or.inl W_7_23⟩ dX12_forget_182 (.ref a31) (rf_s h32) ?_
  refine zx_iload_n C dX12_forget_185 0 rfl ?_
  refine zx_aload_n C dX12_forget_186 1 rfl ?_
  obtain ⟨a33, h34, hm⟩ := osm_e hm
  refine zx_get (j := 44) C tC_11 k29 i30 ⟨by decide, Or.inl W_7_23⟩ dX12_forget_187 (.ref a33) (rf_s h34) ?_
  refine zx_iconst (v := 0) C dX12_forget_190 (by decide) ?_
  refine zx_aload_n C dX12_forget_191 1 rfl ?_
  refine zx_get (j := 45) C tC_11 k29 i30 ⟨by decide, Or.inl W_7_24⟩ dX12_forget_192 (.int (tI (σ) (x0) 45)) rfl ?_
  refine zx_iload_n C dX12_forget_195 0 rfl ?_
  refine zx_isub C dX12_forget_196 ?_
  obtain ⟨n37, k35, i36, hm⟩ := ckR_e hm
  obtain ⟨n40, k38, i39, hm⟩ := ckR_e hm
  obtain ⟨h41, hm⟩ := ckC_e hm
  refine zx_copyI (σ := σ) C W_7_169 W_2_135 W_2_134 W_1_11 k35 i36 k38 i39 h41  (by decide) (by decide) (Nat.le_of_ble_eq_true rfl) dX12_forget_197 ?_
  refine zx_mem (fun ρ42 hρ42 => ?_)
  replace hm := ltb_e hm hρ42
  have k43 : tk ρ42 (x0) = .inl 11 := by rw [hρ42]; exact k29
  have i44 : tIn b0 ρ42 (x0) := by rw [hρ42]; exact i30
  have k45 : tk ρ42 (a31) = .inr (0, n37) := by rw [hρ42]; exact k35
  have i46 : tIn b0 ρ42 (a31) := by rw [hρ42]; exact i36
  have k47 : tk ρ42 (a33) = .inr (0, n40) := by rw [hρ42]; exact k38
  have i48 : tIn b0 ρ42 (a33) := by rw [hρ42]; exact i39
  refine zx_aload_n C dX12_forget_200 1 rfl ?_
  refine zx_dup C dX12_forget_201 rfl ?_
  refine zx_get (j := 45) C tC_11 k43 i44 ⟨by decide, Or.inl W_7_24⟩ dX12_forget_202 (.int (tI (ρ42) (x0) 45)) rfl ?_
  refine zx_iload_n C dX12_forget_205 0 rfl ?_
  refine zx_isub C dX12_forget_206 ?_
  refine zx_put (j := 45) (ρ := sI (ρ42) (x0) 45 ((tI (ρ42) (x0) 45) - (s0))) C tC_11 k43 i44 ⟨by decide, Or.inl W_7_24⟩ rfl rfl rfl (sI_ok (fun _ => rfl)) dX12_forget_207 ?_
  refine zx_iload_n C dX12_forget_210 2 rfl ?_
  refine zx_istore C [(4, .int (x2)), (3, .int (s0)), (0, .ref (x0)), (2, .int (x2))] dX12_forget_211 (by decide) rfl ?_
  exact zx_lv [2, 3, 1, 0] [(0, .ref (x0)), (2, .int (x2)), (3, .int (s0)), (4, .int (x2))] rfl (l_X12_forget_213 C htab hin  _ _ _ _ _ _ hm)
set_option maxRecDepth 100000 in
set_option maxHeartbeats 1000000 in
theorem j_X12_forget_167 {p : Program} {l : Launch} {e : Env} {s : State} {m : MethodId} {args : Array Value} {below : List Frame} {meth : Method} {c : Code} {D : va_G} {aC : Nat → ClassId} {b0 fu : Nat} {σ0 τ : tM} {v : Unit}  (C : tCx p l s m args meth c yX12_forget.cls cX12_forget 5 none D aC b0 σ0) (htab : ∀ x ∈ c.exceptionTable.toList, False) (hin : meth.name = yX12_forget.name)  {x0 : Nat} {x2 : Int32} {σ : tM} (hm : J_X12_forget_167 b0 fu  x0 x2 σ = some (v, τ)) : tX p l e s m args below meth c 5 1 26 D aC b0 σ0 (.inl none) τ 167 [(0, .ref (x0)), (2, .int (x2))] [] σ := by
  unfold J_X12_forget_167 at hm
  refine zx_aload_n C dX12_forget_167 0 rfl ?_
  obtain ⟨k163, i164, hm⟩ := ckO_e hm
  obtain ⟨a165, h166, hm⟩ := osm_e hm
  refine zx_get (j := 41) C tC_11 k163 i164 ⟨by decide, Or.inl W_7_20⟩ dX12_forget_168 (.ref a165) (rf_s h166) ?_
  refine zx_iload_n C dX12_forget_171 1 rfl ?_
  obtain ⟨n169, k167, i168, hm⟩ := ckR_e hm
  obtain ⟨h170, hm⟩ := ckI_e hm
  refine zx_iald C k167 i168 h170 dX12_forget_172 ?_
  refine zx_goto C 180 dX12_forget_173 (by decide) ?_
  exact zx_lv [0, 1] [(0, .ref (x0)), (2, .int (x2))] rfl (j_X12_forget_180 C htab hin    hm)
set_option maxRecDepth 100000 in
set_option maxHeartbeats 1000000 in
theorem j_X12_forget_118 {p : Program} {l : Launch} {e : Env} {s : State} {m : MethodId} {args : Array Value} {below : List Frame} {meth : Method} {c : Code} {D : va_G} {aC : Nat → ClassId} {b0 fu : Nat} {σ0 τ : tM} {v : Unit}  (C : tCx p l s m args meth c yX12_forget.cls cX12_forget 5 none D aC b0 σ0) (htab : ∀ x ∈ c.exceptionTable.toList, False) (hin : meth.name = yX12_forget.name)  {x0 : Nat} {σ : tM} (hm : J_X12_forget_118 b0 fu  x0 σ = some (v, τ)) : tX p l e s m args below meth c 5 1 26 D aC b0 σ0 (.inl none) τ 118 [(0, .ref (x0))] [] σ := by
  unfold J_X12_forget_118 at hm
  refine zx_aload_n C dX12_forget_118 0 rfl ?_
  obtain ⟨k5, i6, hm⟩ := ckO_e hm
  refine zx_get (j := 32) C tC_11 k5 i6 ⟨by decide, Or.inl W_7_11⟩ dX12_forget_119 (.int (tI (σ) (x0) 32)) rfl ?_
  refine zx_aload_n C dX12_forget_122 0 rfl ?_
  refine zx_get (j := 35) C tC_11 k5 i6 ⟨by decide, Or.inl W_7_14⟩ dX12_forget_123 (.int (tI (σ) (x0) 35)) rfl ?_
  refine zx_isub C dX12_forget_126 ?_
  refine zx_topi (fun y7 hy7 => ?_)
  replace hm := ltb_e hm hy7
  refine zx_istore_n C [(2, .int (y7)), (0, .ref (x0))] dX12_forget_127 rfl (by decide) rfl ?_
  refine zx_iload_n C dX12_forget_128 0 rfl ?_
  refine zx_if_gt C 133 dX12_forget_129 (by decide) (fun c8 => ?_) (fun c8 => ?_)
  · replace hm := ip_e hm c8
    refine zx_aload_n C dX12_forget_133 1 rfl ?_
    refine zx_aload_n C dX12_forget_134 1 rfl ?_
    obtain ⟨a9, h10, hm⟩ := osm_e hm
    refine zx_get (j := 38) C tC_11 k5 i6 ⟨by decide, Or.inl W_7_17⟩ dX12_forget_135 (.ref a9) (rf_s h10) ?_
    refine zx_iload_n C dX12_forget_138 0 rfl ?_
    refine zx_iconst (v := 1) C dX12_forget_139 (by decide) ?_
    refine zx_isub C dX12_forget_140 ?_
    obtain ⟨n13, k11, i12, hm⟩ := ckR_e hm
    obtain ⟨h14, hm⟩ := ckI_e hm
    refine zx_iald C k11 i12 h14 dX12_forget_141 ?_
    refine zx_aload_n C dX12_forget_142 1 rfl ?_
    obtain ⟨a15, h16, hm⟩ := osm_e hm
    refine zx_get (j := 39) C tC_11 k5 i6 ⟨by decide, Or.inl W_7_18⟩ dX12_forget_143 (.ref a15) (rf_s h16) ?_
    refine zx_iload_n C dX12_forget_146 0 rfl ?_
    refine zx_iconst (v := 1) C dX12_forget_147 (by decide) ?_
    refine zx_isub C dX12_forget_148 ?_
    obtain ⟨n19, k17, i18, hm⟩ := ckR_e hm
    obtain ⟨h20, hm⟩ := ckI_e hm
    refine zx_iald C k17 i18 h20 dX12_forget_149 ?_
    refine zx_iadd C dX12_forget_150 ?_
    refine zx_aload_n C dX12_forget_151 1 rfl ?_
    refine zx_get (j := 6) C tC_11 k5 i6 ⟨by decide, Or.inl W_6_225⟩ dX12_forget_152 (.int (tI (σ) (x0) 6)) rfl ?_
    obtain ⟨h171, hm⟩ := ckD_e hm
    refine zx_irem C dX12_forget_155 h171 ?_
    refine zx_put (j := 46) (ρ := sI (σ) (x0) 46 (((tI (σ) (a9) (((y7) - (1)).toNatClampNeg)) + (tI (σ) (a15) (((y7) - (1)).toNatClampNeg))) - ((tI (σ) (a9) (((y7) - (1)).toNatClampNeg)) + (tI (σ) (a15) (((y7) - (1)).toNatClampNeg))) / (tI (σ) (x0) 6) * (tI (σ) (x0) 6))) C tC_11 k5 i6 ⟨by decide, Or.inl W_7_25⟩ rfl rfl rfl (sI_ok (fun _ => rfl)) dX12_forget_156 ?_
    refine zx_mem (fun ρ21 hρ21 => ?_)
    replace hm := ltb_e hm hρ21
    have k22 : tk ρ21 (x0) = .inl 11 := by rw [hρ21]; exact k5
    have i23 : tIn b0 ρ21 (x0) := by rw [hρ21]; exact i6
    have k24 : tk ρ21 (a9) = .inr (0, n13) := by rw [hρ21]; exact k11
    have i25 : tIn b0 ρ21 (a9) := by rw [hρ21]; exact i12
    have k26 : tk ρ21 (a15) = .inr (0, n19) := by rw [hρ21]; exact k17
    have i27 : tIn b0 ρ21 (a15) := by rw [hρ21]; exact i18
    refine zx_iload_n C dX12_forget_159 0 rfl ?_
    refine zx_aload_n C dX12_forget_160 1 rfl ?_
    refine zx_get (j := 36) C tC_11 k22 i23 ⟨by decide, Or.inl W_7_15⟩ dX12_forget_161 (.int (tI (ρ21) (x0) 36)) rfl ?_
    refine zx_icmp_ge C 176 dX12_forget_164 (by decide) (fun c28 => ?_) (fun c28 => ?_)
    · replace hm := ip_e hm c28
      refine zx_aload_n C dX12_forget_176 1 rfl ?_
      refine zx_get (j := 45) C tC_11 k22 i23 ⟨by decide, Or.inl W_7_24⟩ dX12_forget_177 (.int (tI (ρ21) (x0) 45)) rfl ?_
      exact zx_lv [1, 0] [(0, .ref (x0)), (2, .int (y7))] rfl (j_X12_forget_180 C htab hin    hm)
    · replace hm := in_e hm c28
      exact zx_lv [1, 0] [(0, .ref (x0)), (2, .int (y7))] rfl (j_X12_forget_167 C htab hin    hm)
  · replace hm := in_e hm c8
    obtain ⟨rfl, rfl⟩ := ret_e hm
    exact zx_vret C rfl rfl rfl dX12_forget_132
set_option maxRecDepth 100000 in
set_option maxHeartbeats 1000000 in
theorem l_X12_forget_86 {p : Program} {l : Launch} {e : Env} {s : State} {m : MethodId} {args : Array Value} {below : List Frame} {meth : Method} {c : Code} {D : va_G} {aC : Nat → ClassId} {b0 fu : Nat} {σ0 τ : tM} {v : Unit}  (C : tCx p l s m args meth c yX12_forget.cls cX12_forget 5 none D aC b0 σ0) (htab : ∀ x ∈ c.exceptionTable.toList, False) (hin : meth.name = yX12_forget.name)  : ∀ (n : Nat) (x0 : Nat) (x1 : Int32) (x2 : Int32) (σ : tM), L_X12_forget_86 b0 fu  n x0 x1 x2 σ = some (v, τ) → tX p l e s m args below meth c 5 1 26 D aC b0 σ0 (.inl none) τ 86 [(0, .ref (x0)), (1, .int (x1)), (2, .int (x2))] [] σ := by
  intro n
  induction n with
  | zero => intro x0 x1 x2 σ hm; unfold L_X12_forget_86 at hm; cases hm
  | succ n ih =>
    intro x0 x1 x2 σ hm
    unfold L_X12_forget_86 at hm
    obtain ⟨rc86, hrc⟩ : ∃ z, z = L_X12_forget_86 b0 fu  n := ⟨_, rfl⟩
    replace hm := ltb_e hm hrc
    rw [← hrc] at ih
    have hrc86 := ih
    clear ih hrc
    refine zx_iload_n C dX12_forget_86 2 rfl ?_
    refine zx_aload_n C dX12_forget_87 0 rfl ?_
    obtain ⟨k214, i215, hm⟩ := ckO_e hm
    refine zx_get (j := 36) C tC_11 k214 i215 ⟨by decide, Or.inl W_7_15⟩ dX12_forget_88 (.int (tI (σ) (x0) 36)) rfl ?_
    refine zx_icmp_ge C 118 dX12_forget_91 (by decide) (fun c216 => ?_) (fun c216 => ?_)
    · replace hm := ip_e hm c216
      exact zx_lv [0] [(0, .ref (x0))] rfl (j_X12_forget_118 C htab hin    hm)
    · replace hm := in_e hm c216
      refine zx_aload_n C dX12_forget_94 0 rfl ?_
      obtain ⟨a217, h218, hm⟩ := osm_e hm
      refine zx_get (j := 40) C tC_11 k214 i215 ⟨by decide, Or.inl W_7_19⟩ dX12_forget_95 (.ref a217) (rf_s h218) ?_
      refine zx_iload_n C dX12_forget_98 2 rfl ?_
      refine zx_iconst (v := 0) C dX12_forget_99 (by decide) ?_
      refine zx_aload_n C dX12_forget_100 0 rfl ?_
      obtain ⟨a219, h220, hm⟩ := osm_e hm
      refine zx_get (j := 40) C tC_11 k214 i215 ⟨by decide, Or.inl W_7_19⟩ dX12_forget_101 (.ref a219) (rf_s h220) ?_
      refine zx_iload_n C dX12_forget_104 2 rfl ?_
      obtain ⟨n223, k221, i222, hm⟩ := ckR_e hm
      obtain ⟨h224, hm⟩ := ckI_e hm
      refine zx_iald C k221 i222 h224 dX12_forget_105 ?_
      refine zx_iload_n C dX12_forget_106 1 rfl ?_
      refine zx_isub C dX12_forget_107 ?_
      refine zx_max C W_7_236 W_2_109 W_1_10 W_2_110 (by decide) (by decide) (Nat.le_of_ble_eq_true rfl) dX12_forget_108 ?_
      obtain ⟨n227, k225, i226, hm⟩ := ckR_e hm
      obtain ⟨h228, hm⟩ := ckI_e hm
      refine zx_iast C k225 i226 h228 dX12_forget_111 ?_
      refine zx_mem (fun ρ229 hρ229 => ?_)
      replace hm := ltb_e hm hρ229
      have k230 : tk ρ229 (x0) = .inl 11 := by rw [hρ229]; exact k214
      have i231 : tIn b0 ρ229 (x0) := by rw [hρ229]; exact i215
      have k232 : tk ρ229 (a219) = .inr (0, n223) := by rw [hρ229]; exact k221
      have i233 : tIn b0 ρ229 (a219) := by rw [hρ229]; exact i222
      have k234 : tk ρ229 (a217) = .inr (0, n227) := by rw [hρ229]; exact k225
      have i235 : tIn b0 ρ229 (a217) := by rw [hρ229]; exact i226
      obtain ⟨y236, hy236⟩ : ∃ z : Int32, z = (x2) + Int32.ofInt 1 := ⟨_, rfl⟩
      replace hm := ltb_e hm hy236
      refine zx_iinc C [(2, .int (y236)), (0, .ref (x0)), (1, .int (x1))] dX12_forget_112 2 rfl hy236.symm (by decide) rfl ?_
      refine zx_goto C 86 dX12_forget_115 (by decide) ?_
      exact zx_lv [1, 2, 0] [(0, .ref (x0)), (1, .int (x1)), (2, .int (y236))] rfl (hrc86 _ _ _ _ hm)
set_option maxRecDepth 100000 in
set_option maxHeartbeats 1000000 in
theorem j_X12_forget_84 {p : Program} {l : Launch} {e : Env} {s : State} {m : MethodId} {args : Array Value} {below : List Frame} {meth : Method} {c : Code} {D : va_G} {aC : Nat → ClassId} {b0 fu : Nat} {σ0 τ : tM} {v : Unit}  (C : tCx p l s m args meth c yX12_forget.cls cX12_forget 5 none D aC b0 σ0) (htab : ∀ x ∈ c.exceptionTable.toList, False) (hin : meth.name = yX12_forget.name)  {x0 : Nat} {x1 : Int32} {σ : tM} (hm : J_X12_forget_84 b0 fu  x0 x1 σ = some (v, τ)) : tX p l e s m args below meth c 5 1 26 D aC b0 σ0 (.inl none) τ 84 [(0, .ref (x0)), (1, .int (x1))] [] σ := by
  unfold J_X12_forget_84 at hm
  refine zx_iconst (v := 0) C dX12_forget_84 (by decide) ?_
  refine zx_istore_n C [(2, .int (0)), (0, .ref (x0)), (1, .int (x1))] dX12_forget_85 rfl (by decide) rfl ?_
  exact zx_lv [1, 2, 0] [(0, .ref (x0)), (1, .int (x1)), (2, .int (0))] rfl (l_X12_forget_86 C htab hin  _ _ _ _ _ hm)
set_option maxRecDepth 100000 in
set_option maxHeartbeats 1000000 in
theorem j_X12_forget_31 {p : Program} {l : Launch} {e : Env} {s : State} {m : MethodId} {args : Array Value} {below : List Frame} {meth : Method} {c : Code} {D : va_G} {aC : Nat → ClassId} {b0 fu : Nat} {σ0 τ : tM} {v : Unit}  (C : tCx p l s m args meth c yX12_forget.cls cX12_forget 5 none D aC b0 σ0) (htab : ∀ x ∈ c.exceptionTable.toList, False) (hin : meth.name = yX12_forget.name)  {x0 : Nat} {s0 : Int32} {σ : tM} (hm : J_X12_forget_31 b0 fu  x0 s0 σ = some (v, τ)) : tX p l e s m args below meth c 5 1 26 D aC b0 σ0 (.inl none) τ 31 [(0, .ref (x0))] [.int (s0)] σ := by
  unfold J_X12_forget_31 at hm
  refine zx_istore_n C [(1, .int (s0)), (0, .ref (x0))] dX12_forget_31 rfl (by decide) rfl ?_
  refine zx_iload_n C dX12_forget_32 0 rfl ?_
  refine zx_if_le C 118 dX12_forget_33 (by decide) (fun c4 => ?_) (fun c4 => ?_)
  · replace hm := ip_e hm c4
    exact zx_lv [1] [(0, .ref (x0))] rfl (j_X12_forget_118 C htab hin    hm)
  · replace hm := in_e hm c4
    refine zx_aload_n C dX12_forget_36 1 rfl ?_
    obtain ⟨k172, i173, hm⟩ := ckO_e hm
    obtain ⟨a174, h175, hm⟩ := osm_e hm
    refine zx_get (j := 2) C tC_11 k172 i173 ⟨by decide, Or.inl W_6_222⟩ dX12_forget_37 (.ref a174) (rf_s h175) ?_
    refine zx_iload_n C dX12_forget_40 0 rfl ?_
    refine zx_aload_n C dX12_forget_41 1 rfl ?_
    obtain ⟨a176, h177, hm⟩ := osm_e hm
    refine zx_get (j := 2) C tC_11 k172 i173 ⟨by decide, Or.inl W_6_222⟩ dX12_forget_42 (.ref a176) (rf_s h177) ?_
    refine zx_iconst (v := 0) C dX12_forget_45 (by decide) ?_
    refine zx_aload_n C dX12_forget_46 1 rfl ?_
    refine zx_get (j := 4) C tC_11 k172 i173 ⟨by decide, Or.inl W_6_224⟩ dX12_forget_47 (.int (tI (σ) (x0) 4)) rfl ?_
    refine zx_iload_n C dX12_forget_50 0 rfl ?_
    refine zx_isub C dX12_forget_51 ?_
    obtain ⟨n180, k178, i179, hm⟩ := ckR_e hm
    obtain ⟨n183, k181, i182, hm⟩ := ckR_e hm
    obtain ⟨h184, hm⟩ := ckC_e hm
    refine zx_copyI (σ := σ) C W_7_169 W_2_135 W_2_134 W_1_11 k178 i179 k181 i182 h184  (by decide) (by decide) (Nat.le_of_ble_eq_true rfl) dX12_forget_52 ?_
    refine zx_mem (fun ρ185 hρ185 => ?_)
    replace hm := ltb_e hm hρ185
    have k186 : tk ρ185 (x0) = .inl 11 := by rw [hρ185]; exact k172
    have i187 : tIn b0 ρ185 (x0) := by rw [hρ185]; exact i173
    have k188 : tk ρ185 (a174) = .inr (0, n180) := by rw [hρ185]; exact k178
    have i189 : tIn b0 ρ185 (a174) := by rw [hρ185]; exact i179
    have k190 : tk ρ185 (a176) = .inr (0, n183) := by rw [hρ185]; exact k181
    have i191 : tIn b0 ρ185 (a176) := by rw [hρ185]; exact i182
    refine zx_aload_n C dX12_forget_55 1 rfl ?_
    obtain ⟨a192, h193, hm⟩ := osm_e hm
    refine zx_get (j := 3) C tC_11 k186 i187 ⟨by decide, Or.inl W_6_223⟩ dX12_forget_56 (.ref a192) (rf_s h193) ?_
    refine zx_iload_n C dX12_forget_59 0 rfl ?_
    refine zx_aload_n C dX12_forget_60 1 rfl ?_
    obtain ⟨a194, h195, hm⟩ := osm_e hm
    refine zx_get (j := 3) C tC_11 k186 i187 ⟨by decide, Or.inl W_6_223⟩ dX12_forget_61 (.ref a194) (rf_s h195) ?_
    refine zx_iconst (v := 0) C dX12_forget_64 (by decide) ?_
    refine zx_aload_n C dX12_forget_65 1 rfl ?_
    refine zx_get (j := 4) C tC_11 k186 i187 ⟨by decide, Or.inl W_6_224⟩ dX12_forget_66 (.int (tI (ρ185) (x0) 4)) rfl ?_
    refine zx_iload_n C dX12_forget_69 0 rfl ?_
    refine zx_isub C dX12_forget_70 ?_
    obtain ⟨n198, k196, i197, hm⟩ := ckR_e hm
    obtain ⟨n201, k199, i200, hm⟩ := ckR_e hm
    obtain ⟨h202, hm⟩ := ckC_e hm
    refine zx_copyI (σ := ρ185) C W_7_169 W_2_135 W_2_134 W_1_11 k196 i197 k199 i200 h202  (by decide) (by decide) (Nat.le_of_ble_eq_true rfl) dX12_forget_71 ?_
    refine zx_mem (fun ρ203 hρ203 => ?_)
    replace hm := ltb_e hm hρ203
    have k204 : tk ρ203 (x0) = .inl 11 := by rw [hρ203]; exact k186
    have i205 : tIn b0 ρ203 (x0) := by rw [hρ203]; exact i187
    have k206 : tk ρ203 (a174) = .inr (0, n180) := by rw [hρ203]; exact k188
    have i207 : tIn b0 ρ203 (a174) := by rw [hρ203]; exact i189
    have k208 : tk ρ203 (a176) = .inr (0, n183) := by rw [hρ203]; exact k190
    have i209 : tIn b0 ρ203 (a176) := by rw [hρ203]; exact i191
    have k210 : tk ρ203 (a192) = .inr (0, n198) := by rw [hρ203]; exact k196
    have i211 : tIn b0 ρ203 (a192) := by rw [hρ203]; exact i197
    have k212 : tk ρ203 (a194) = .inr (0, n201) := by rw [hρ203]; exact k199
    have i213 : tIn b0 ρ203 (a194) := by rw [hρ203]; exact i200
    refine zx_aload_n C dX12_forget_74 1 rfl ?_
    refine zx_dup C dX12_forget_75 rfl ?_
    refine zx_get (j := 4) C tC_11 k204 i205 ⟨by decide, Or.inl W_6_224⟩ dX12_forget_76 (.int (tI (ρ203) (x0) 4)) rfl ?_
    refine zx_iload_n C dX12_forget_79 0 rfl ?_
    refine zx_isub C dX12_forget_80 ?_
    refine zx_put (j := 4) (ρ := sI (ρ203) (x0) 4 ((tI (ρ203) (x0) 4) - (s0))) C tC_11 k204 i205 ⟨by decide, Or.inl W_6_224⟩ rfl rfl rfl (sI_ok (fun _ => rfl)) dX12_forget_81 ?_
    exact zx_lv [1, 0] [(0, .ref (x0)), (1, .int (s0))] rfl (j_X12_forget_84 C htab hin    hm)
set_option maxRecDepth 100000 in
set_option maxHeartbeats 1000000 in
theorem c_X12_forget {l : Launch} {D : va_G} {aC : Nat → ClassId} {b0 fu : Nat} {a0 : Nat} {σ τ : tM} {v : Unit} (hm : m_X12_forget b0 fu a0 σ = some (v, τ)) : tMt l D aC b0 yX12_forget (Cond.code yX12_forget cX12_forget 5 none) 1 26 [.ref (a0)] σ (.inl none) τ := by
  unfold m_X12_forget at hm
  obtain ⟨hg, hm⟩ := grw_e hm
  refine tMt_of (n := 0) rfl (Nat.le_of_ble_eq_true rfl) hg ?_
  intro p e s m below meth c C htab hin
  refine zx_lv [0] [(0, .ref (a0))] rfl ?_
  refine zx_aload_n C dX12_forget_0 0 rfl ?_
  obtain ⟨k1, i2, hm⟩ := ckO_e hm
  refine zx_get (j := 28) C tC_11 k1 i2 ⟨by decide, Or.inl W_7_7⟩ dX12_forget_1 (.int (tI (σ) (a0) 28)) rfl ?_
  refine zx_aload_n C dX12_forget_4 0 rfl ?_
  refine zx_get (j := 35) C tC_11 k1 i2 ⟨by decide, Or.inl W_7_14⟩ dX12_forget_5 (.int (tI (σ) (a0) 35)) rfl ?_
  refine zx_icmp_le C 30 dX12_forget_8 (by decide) (fun c3 => ?_) (fun c3 => ?_)
  · replace hm := ip_e hm c3
    refine zx_iconst (v := 0) C dX12_forget_30 (by decide) ?_
    exact zx_lv [0] [(0, .ref (a0))] rfl (j_X12_forget_31 C htab hin    hm)
  · replace hm := in_e hm c3
    refine zx_aload_n C dX12_forget_11 0 rfl ?_
    obtain ⟨a237, h238, hm⟩ := osm_e hm
    refine zx_get (j := 40) C tC_11 k1 i2 ⟨by decide, Or.inl W_7_19⟩ dX12_forget_12 (.ref a237) (rf_s h238) ?_
    refine zx_aload_n C dX12_forget_15 0 rfl ?_
    refine zx_get (j := 28) C tC_11 k1 i2 ⟨by decide, Or.inl W_7_7⟩ dX12_forget_16 (.int (tI (σ) (a0) 28)) rfl ?_
    refine zx_aload_n C dX12_forget_19 0 rfl ?_
    refine zx_get (j := 35) C tC_11 k1 i2 ⟨by decide, Or.inl W_7_14⟩ dX12_forget_20 (.int (tI (σ) (a0) 35)) rfl ?_
    refine zx_isub C dX12_forget_23 ?_
    refine zx_iconst (v := 1) C dX12_forget_24 (by decide) ?_
    refine zx_isub C dX12_forget_25 ?_
    obtain ⟨n241, k239, i240, hm⟩ := ckR_e hm
    obtain ⟨h242, hm⟩ := ckI_e hm
    refine zx_iald C k239 i240 h242 dX12_forget_26 ?_
    refine zx_goto C 31 dX12_forget_27 (by decide) ?_
    exact zx_lv [0] [(0, .ref (a0))] rfl (j_X12_forget_31 C htab hin    hm)
abbrev cX12_isRevoked : ByteArray := prog_13_method_25_code
def yX12_isRevoked : MethodName := ⟨"SyncTreeModel", "isRevoked", "(II)Z"⟩
theorem Y_X12_isRevoked : tY yX12_isRevoked cX12_isRevoked 5 (some .boolean) 2 := ⟨W_8_8, W_1_14, ⟨by decide +kernel, by decide +kernel⟩, by decide +kernel⟩
theorem dX12_isRevoked_0 : decode cX12_isRevoked 0 = .ok (.iload_n 1, 1) := by decide +kernel
theorem dX12_isRevoked_1 : decode cX12_isRevoked 1 = .ok (.aload_n 0, 1) := by decide +kernel
theorem dX12_isRevoked_2 : decode cX12_isRevoked 2 = .ok (.getfield 128, 3) := by decide +kernel
theorem dX12_isRevoked_5 : decode cX12_isRevoked 5 = .ok (.isub, 1) := by decide +kernel
theorem dX12_isRevoked_6 : decode cX12_isRevoked 6 = .ok (.iconst 1, 1) := by decide +kernel
theorem dX12_isRevoked_7 : decode cX12_isRevoked 7 = .ok (.isub, 1) := by decide +kernel
theorem dX12_isRevoked_8 : decode cX12_isRevoked 8 = .ok (.istore_n 3, 1) := by decide +kernel
theorem dX12_isRevoked_9 : decode cX12_isRevoked 9 = .ok (.iconst 0, 1) := by decide +kernel
theorem dX12_isRevoked_10 : decode cX12_isRevoked 10 = .ok (.istore 4, 2) := by decide +kernel
theorem dX12_isRevoked_12 : decode cX12_isRevoked 12 = .ok (.iload 4, 2) := by decide +kernel
theorem dX12_isRevoked_14 : decode cX12_isRevoked 14 = .ok (.aload_n 0, 1) := by decide +kernel
theorem dX12_isRevoked_15 : decode cX12_isRevoked 15 = .ok (.getfield 155, 3) := by decide +kernel
theorem dX12_isRevoked_18 : decode cX12_isRevoked 18 = .ok (.iload_n 3, 1) := by decide +kernel
theorem dX12_isRevoked_19 : decode cX12_isRevoked 19 = .ok (.iaload, 1) := by decide +kernel
theorem dX12_isRevoked_20 : decode cX12_isRevoked 20 = .ok (.if_icmp .ge 36, 3) := by decide +kernel
theorem dX12_isRevoked_23 : decode cX12_isRevoked 23 = .ok (.aload_n 0, 1) := by decide +kernel
theorem dX12_isRevoked_24 : decode cX12_isRevoked 24 = .ok (.getfield 134, 3) := by decide +kernel
theorem dX12_isRevoked_27 : decode cX12_isRevoked 27 = .ok (.aload_n 0, 1) := by decide +kernel
theorem dX12_isRevoked_28 : decode cX12_isRevoked 28 = .ok (.getfield 149, 3) := by decide +kernel
theorem dX12_isRevoked_31 : decode cX12_isRevoked 31 = .ok (.iload_n 3, 1) := by decide +kernel
theorem dX12_isRevoked_32 : decode cX12_isRevoked 32 = .ok (.iaload, 1) := by decide +kernel
theorem dX12_isRevoked_33 : decode cX12_isRevoked 33 = .ok (.aload_n 0, 1) := by decide +kernel
theorem dX12_isRevoked_34 : decode cX12_isRevoked 34 = .ok (.getfield 152, 3) := by decide +kernel
theorem dX12_isRevoked_37 : decode cX12_isRevoked 37 = .ok (.iload_n 3, 1) := by decide +kernel
theorem dX12_isRevoked_38 : decode cX12_isRevoked 38 = .ok (.iaload, 1) := by decide +kernel
theorem dX12_isRevoked_39 : decode cX12_isRevoked 39 = .ok (.iadd, 1) := by decide +kernel
theorem dX12_isRevoked_40 : decode cX12_isRevoked 40 = .ok (.iload 4, 2) := by decide +kernel
theorem dX12_isRevoked_42 : decode cX12_isRevoked 42 = .ok (.iadd, 1) := by decide +kernel
theorem dX12_isRevoked_43 : decode cX12_isRevoked 43 = .ok (.iaload, 1) := by decide +kernel
theorem dX12_isRevoked_44 : decode cX12_isRevoked 44 = .ok (.iload_n 2, 1) := by decide +kernel
theorem dX12_isRevoked_45 : decode cX12_isRevoked 45 = .ok (.if_icmp .ne 5, 3) := by decide +kernel
theorem dX12_isRevoked_48 : decode cX12_isRevoked 48 = .ok (.iconst 1, 1) := by decide +kernel
theorem dX12_isRevoked_49 : decode cX12_isRevoked 49 = .ok (.ireturn, 1) := by decide +kernel
theorem dX12_isRevoked_50 : decode cX12_isRevoked 50 = .ok (.iinc 4 1, 3) := by decide +kernel
theorem dX12_isRevoked_53 : decode cX12_isRevoked 53 = .ok (.goto (-41), 3) := by decide +kernel
theorem dX12_isRevoked_56 : decode cX12_isRevoked 56 = .ok (.iconst 0, 1) := by decide +kernel
theorem dX12_isRevoked_57 : decode cX12_isRevoked 57 = .ok (.ireturn, 1) := by decide +kernel
set_option maxRecDepth 100000 in
set_option maxHeartbeats 1000000 in
theorem l_X12_isRevoked_12 {p : Program} {l : Launch} {e : Env} {s : State} {m : MethodId} {args : Array Value} {below : List Frame} {meth : Method} {c : Code} {D : va_G} {aC : Nat → ClassId} {b0 fu : Nat} {σ0 τ : tM} {v : Int32}  (C : tCx p l s m args meth c yX12_isRevoked.cls cX12_isRevoked 5 (some .boolean) D aC b0 σ0) (htab : ∀ x ∈ c.exceptionTable.toList, False) (hin : meth.name = yX12_isRevoked.name)  : ∀ (n : Nat) (x0 : Nat) (x2 : Int32) (x3 : Int32) (x4 : Int32) (σ : tM), L_X12_isRevoked_12 b0 fu  n x0 x2 x3 x4 σ = some (v, τ) → tX p l e s m args below meth c 5 0 0 D aC b0 σ0 (.inl (some (.int v))) τ 12 [(0, .ref (x0)), (2, .int (x2)), (3, .int (x3)), (4, .int (x4))] [] σ := by
  intro n
  induction n with
  | zero => intro x0 x2 x3 x4 σ hm; unfold L_X12_isRevoked_12 at hm; cases hm
  | succ n ih =>
    intro x0 x2 x3 x4 σ hm
    unfold L_X12_isRevoked_12 at hm
    obtain ⟨rc12, hrc⟩ : ∃ z, z = L_X12_isRevoked_12 b0 fu  n := ⟨_, rfl⟩
    replace hm := ltb_e hm hrc
    rw [← hrc] at ih
    have hrc12 := ih
    clear ih hrc
    refine zx_iload C dX12_isRevoked_12 3 rfl ?_
    refine zx_aload_n C dX12_isRevoked_14 0 rfl ?_
    obtain ⟨k4, i5, hm⟩ := ckO_e hm
    obtain ⟨a6, h7, hm⟩ := osm_e hm
    refine zx_get (j := 43) C tC_11 k4 i5 ⟨by decide, Or.inl W_7_22⟩ dX12_isRevoked_15 (.ref a6) (rf_s h7) ?_
    refine zx_iload_n C dX12_isRevoked_18 2 rfl ?_
    obtain ⟨n10, k8, i9, hm⟩ := ckR_e hm
    obtain ⟨h11, hm⟩ := ckI_e hm
    refine zx_iald C k8 i9 h11 dX12_isRevoked_19 ?_
    refine zx_icmp_ge C 56 dX12_isRevoked_20 (by decide) (fun c12 => ?_) (fun c12 => ?_)
    · replace hm := ip_e hm c12
      refine zx_iconst (v := 0) C dX12_isRevoked_56 (by decide) ?_
      obtain ⟨rfl, rfl⟩ := ret_e hm
      exact zx_zret C rfl (by decide) rfl rfl dX12_isRevoked_57
    · replace hm := in_e hm c12
      refine zx_aload_n C dX12_isRevoked_23 0 rfl ?_
      obtain ⟨a13, h14, hm⟩ := osm_e hm
      refine zx_get (j := 44) C tC_11 k4 i5 ⟨by decide, Or.inl W_7_23⟩ dX12_isRevoked_24 (.ref a13) (rf_s h14) ?_
      refine zx_aload_n C dX12_isRevoked_27 0 rfl ?_
      obtain ⟨a15, h16, hm⟩ := osm_e hm
      refine zx_get (j := 41) C tC_11 k4 i5 ⟨by decide, Or.inl W_7_20⟩ dX12_isRevoked_28 (.ref a15) (rf_s h16) ?_
      refine zx_iload_n C dX12_isRevoked_31 2 rfl ?_
      obtain ⟨n19, k17, i18, hm⟩ := ckR_e hm
      obtain ⟨h20, hm⟩ := ckI_e hm
      refine zx_iald C k17 i18 h20 dX12_isRevoked_32 ?_
      refine zx_aload_n C dX12_isRevoked_33 0 rfl ?_
      obtain ⟨a21, h22, hm⟩ := osm_e hm
      refine zx_get (j := 42) C tC_11 k4 i5 ⟨by decide, Or.inl W_7_21⟩ dX12_isRevoked_34 (.ref a21) (rf_s h22) ?_
      refine zx_iload_n C dX12_isRevoked_37 2 rfl ?_
      obtain ⟨n25, k23, i24, hm⟩ := ckR_e hm
      obtain ⟨h26, hm⟩ := ckI_e hm
      refine zx_iald C k23 i24 h26 dX12_isRevoked_38 ?_
      refine zx_iadd C dX12_isRevoked_39 ?_
      refine zx_iload C dX12_isRevoked_40 3 rfl ?_
      refine zx_iadd C dX12_isRevoked_42 ?_
      obtain ⟨n29, k27, i28, hm⟩ := ckR_e hm
      obtain ⟨h30, hm⟩ := ckI_e hm
      refine zx_iald C k27 i28 h30 dX12_isRevoked_43 ?_
      refine zx_iload_n C dX12_isRevoked_44 1 rfl ?_
      refine zx_icmp_ne C 50 dX12_isRevoked_45 (by decide) (fun c31 => ?_) (fun c31 => ?_)
      · replace hm := in_e hm c31
        obtain ⟨y32, hy32⟩ : ∃ z : Int32, z = (x4) + Int32.ofInt 1 := ⟨_, rfl⟩
        replace hm := ltb_e hm hy32
        refine zx_iinc C [(4, .int (y32)), (0, .ref (x0)), (2, .int (x2)), (3, .int (x3))] dX12_isRevoked_50 3 rfl hy32.symm (by decide) rfl ?_
        refine zx_goto C 12 dX12_isRevoked_53 (by decide) ?_
        exact zx_lv [1, 2, 3, 0] [(0, .ref (x0)), (2, .int (x2)), (3, .int (x3)), (4, .int (y32))] rfl (hrc12 _ _ _ _ _ hm)
      · replace hm := ip_e hm c31
        refine zx_iconst (v := 1) C dX12_isRevoked_48 (by decide) ?_
        obtain ⟨rfl, rfl⟩ := ret_e hm
        exact zx_zret C rfl (by decide) rfl rfl dX12_isRevoked_49
set_option maxRecDepth 100000 in
set_option maxHeartbeats 1000000 in
theorem c_X12_isRevoked {l : Launch} {D : va_G} {aC : Nat → ClassId} {b0 fu : Nat} {a0 : Nat} {p0 : Int32} {p1 : Int32} {σ τ : tM} {v : Int32} (hm : m_X12_isRevoked b0 fu a0 p0 p1 σ = some (v, τ)) : tMt l D aC b0 yX12_isRevoked (Cond.code yX12_isRevoked cX12_isRevoked 5 (some .boolean)) 0 0 [.ref (a0), .int (p0), .int (p1)] σ (.inl (some (.int v))) τ := by
  unfold m_X12_isRevoked at hm
  obtain ⟨hg, hm⟩ := grw_e hm
  refine tMt_of (n := 0) rfl (Nat.le_of_ble_eq_true rfl) hg ?_
  intro p e s m below meth c C htab hin
  refine zx_lv [0, 1, 2] [(0, .ref (a0)), (1, .int (p0)), (2, .int (p1))] rfl ?_
  refine zx_iload_n C dX12_isRevoked_0 1 rfl ?_
  refine zx_aload_n C dX12_isRevoked_1 0 rfl ?_
  obtain ⟨k1, i2, hm⟩ := ckO_e hm
  refine zx_get (j := 35) C tC_11 k1 i2 ⟨by decide, Or.inl W_7_14⟩ dX12_isRevoked_2 (.int (tI (σ) (a0) 35)) rfl ?_
  refine zx_isub C dX12_isRevoked_5 ?_
  refine zx_iconst (v := 1) C dX12_isRevoked_6 (by decide) ?_
  refine zx_isub C dX12_isRevoked_7 ?_
  refine zx_topi (fun y3 hy3 => ?_)
  replace hm := ltb_e hm hy3
  refine zx_istore_n C [(3, .int (y3)), (0, .ref (a0)), (1, .int (p0)), (2, .int (p1))] dX12_isRevoked_8 rfl (by decide) rfl ?_
  refine zx_iconst (v := 0) C dX12_isRevoked_9 (by decide) ?_
  refine zx_istore C [(4, .int (0)), (3, .int (y3)), (0, .ref (a0)), (1, .int (p0)), (2, .int (p1))] dX12_isRevoked_10 (by decide) rfl ?_
  exact zx_lv [2, 4, 1, 0] [(0, .ref (a0)), (2, .int (p1)), (3, .int (y3)), (4, .int (0))] rfl (l_X12_isRevoked_12 C htab hin  _ _ _ _ _ _ hm)
abbrev cX12_isFree : ByteArray := prog_13_method_29_code
def yX12_isFree : MethodName := ⟨"SyncTreeModel", "isFree", "(I)Z"⟩
theorem Y_X12_isFree : tY yX12_isFree cX12_isFree 2 (some .boolean) 1 := ⟨W_8_98, W_1_14, ⟨by decide +kernel, by decide +kernel⟩, by decide +kernel⟩
theorem dX12_isFree_0 : decode cX12_isFree 0 = .ok (.aload_n 0, 1) := by decide +kernel
theorem dX12_isFree_1 : decode cX12_isFree 1 = .ok (.getfield 13, 3) := by decide +kernel
theorem dX12_isFree_4 : decode cX12_isFree 4 = .ok (.iload_n 1, 1) := by decide +kernel
theorem dX12_isFree_5 : decode cX12_isFree 5 = .ok (.iconst 0, 1) := by decide +kernel
theorem dX12_isFree_6 : decode cX12_isFree 6 = .ok (.invokestatic 233, 3) := by decide +kernel
theorem dX12_isFree_9 : decode cX12_isFree 9 = .ok (.iaload, 1) := by decide +kernel
theorem dX12_isFree_10 : decode cX12_isFree 10 = .ok (.ifCond .ne 16, 3) := by decide +kernel
theorem dX12_isFree_13 : decode cX12_isFree 13 = .ok (.aload_n 0, 1) := by decide +kernel
theorem dX12_isFree_14 : decode cX12_isFree 14 = .ok (.getfield 190, 3) := by decide +kernel
theorem dX12_isFree_17 : decode cX12_isFree 17 = .ok (.iload_n 1, 1) := by decide +kernel
theorem dX12_isFree_18 : decode cX12_isFree 18 = .ok (.iaload, 1) := by decide +kernel
theorem dX12_isFree_19 : decode cX12_isFree 19 = .ok (.ifCond .ne 7, 3) := by decide +kernel
theorem dX12_isFree_22 : decode cX12_isFree 22 = .ok (.iconst 1, 1) := by decide +kernel
theorem dX12_isFree_23 : decode cX12_isFree 23 = .ok (.goto 4, 3) := by decide +kernel
theorem dX12_isFree_26 : decode cX12_isFree 26 = .ok (.iconst 0, 1) := by decide +kernel
theorem dX12_isFree_27 : decode cX12_isFree 27 = .ok (.ireturn, 1) := by decide +kernel
set_option maxRecDepth 100000 in
set_option maxHeartbeats 1000000 in
theorem j_X12_isFree_27 {p : Program} {l : Launch} {e : Env} {s : State} {m : MethodId} {args : Array Value} {below : List Frame} {meth : Method} {c : Code} {D : va_G} {aC : Nat → ClassId} {b0 fu : Nat} {σ0 τ : tM} {v : Int32}  (C : tCx p l s m args meth c yX12_isFree.cls cX12_isFree 2 (some .boolean) D aC b0 σ0) (htab : ∀ x ∈ c.exceptionTable.toList, False) (hin : meth.name = yX12_isFree.name)  {s0 : Int32} {σ : tM} (hm : J_X12_isFree_27 b0 fu  s0 σ = some (v, τ)) : tX p l e s m args below meth c 2 1 21 D aC b0 σ0 (.inl (some (.int v))) τ 27 [] [.int (s0)] σ := by
  unfold J_X12_isFree_27 at hm
  obtain ⟨h13, hm⟩ := ckZ_e hm
  obtain ⟨rfl, rfl⟩ := ret_e hm
  exact zx_zret C rfl h13 rfl rfl dX12_isFree_27
set_option maxRecDepth 100000 in
set_option maxHeartbeats 1000000 in
theorem j_X12_isFree_26 {p : Program} {l : Launch} {e : Env} {s : State} {m : MethodId} {args : Array Value} {below : List Frame} {meth : Method} {c : Code} {D : va_G} {aC : Nat → ClassId} {b0 fu : Nat} {σ0 τ : tM} {v : Int32}  (C : tCx p l s m args meth c yX12_isFree.cls cX12_isFree 2 (some .boolean) D aC b0 σ0) (htab : ∀ x ∈ c.exceptionTable.toList, False) (hin : meth.name = yX12_isFree.name)   {σ : tM} (hm : J_X12_isFree_26 b0 fu   σ = some (v, τ)) : tX p l e s m args below meth c 2 1 21 D aC b0 σ0 (.inl (some (.int v))) τ 26 [] [] σ := by
  unfold J_X12_isFree_26 at hm
  refine zx_iconst (v := 0) C dX12_isFree_26 (by decide) ?_
  exact zx_lv [] [] rfl (j_X12_isFree_27 C htab hin    hm)
set_option maxRecDepth 100000 in
set_option maxHeartbeats 1000000 in
theorem c_X12_isFree {l : Launch} {D : va_G} {aC : Nat → ClassId} {b0 fu : Nat} {a0 : Nat} {p0 : Int32} {σ τ : tM} {v : Int32} (hm : m_X12_isFree b0 fu a0 p0 σ = some (v, τ)) : tMt l D aC b0 yX12_isFree (Cond.code yX12_isFree cX12_isFree 2 (some .boolean)) 1 21 [.ref (a0), .int (p0)] σ (.inl (some (.int v))) τ := by
  unfold m_X12_isFree at hm
  obtain ⟨hg, hm⟩ := grw_e hm
  refine tMt_of (n := 0) rfl (Nat.le_of_ble_eq_true rfl) hg ?_
  intro p e s m below meth c C htab hin
  refine zx_lv [0, 1] [(0, .ref (a0)), (1, .int (p0))] rfl ?_
  refine zx_aload_n C dX12_isFree_0 0 rfl ?_
  obtain ⟨k1, i2, hm⟩ := ckO_e hm
  obtain ⟨a3, h4, hm⟩ := osm_e hm
  refine zx_get (j := 1) C tC_11 k1 i2 ⟨by decide, Or.inl W_6_221⟩ dX12_isFree_1 (.ref a3) (rf_s h4) ?_
  refine zx_iload_n C dX12_isFree_4 1 rfl ?_
  refine zx_iconst (v := 0) C dX12_isFree_5 (by decide) ?_
  obtain ⟨v5, ρ6, h7, hm⟩ := cll_e hm
  refine zx_callS (σ := σ) C [.int (p0), .int (0)] Y_X12_room W_6_209 W_6_210 (c_X12_room h7) (by decide) (by decide) rfl (Nat.le_of_ble_eq_true rfl) dX12_isFree_6 rfl ?_
  obtain ⟨n10, k8, i9, hm⟩ := ckR_e hm
  obtain ⟨h11, hm⟩ := ckI_e hm
  refine zx_iald C k8 i9 h11 dX12_isFree_9 ?_
  refine zx_if_ne C 26 dX12_isFree_10 (by decide) (fun c12 => ?_) (fun c12 => ?_)
  · replace hm := in_e hm c12
    exact zx_lv [] [] rfl (j_X12_isFree_26 C htab hin    hm)
  · replace hm := ip_e hm c12
    refine zx_aload_n C dX12_isFree_13 0 rfl ?_
    obtain ⟨k14, i15, hm⟩ := ckO_e hm
    obtain ⟨a16, h17, hm⟩ := osm_e hm
    refine zx_get (j := 24) C tC_11 k14 i15 ⟨by decide, Or.inl W_7_3⟩ dX12_isFree_14 (.ref a16) (rf_s h17) ?_
    refine zx_iload_n C dX12_isFree_17 1 rfl ?_
    obtain ⟨n20, k18, i19, hm⟩ := ckR_e hm
    obtain ⟨h21, hm⟩ := ckI_e hm
    refine zx_iald C k18 i19 h21 dX12_isFree_18 ?_
    refine zx_if_ne C 26 dX12_isFree_19 (by decide) (fun c22 => ?_) (fun c22 => ?_)
    · replace hm := in_e hm c22
      exact zx_lv [] [] rfl (j_X12_isFree_26 C htab hin    hm)
    · replace hm := ip_e hm c22
      refine zx_iconst (v := 1) C dX12_isFree_22 (by decide) ?_
      refine zx_goto C 27 dX12_isFree_23 (by decide) ?_
      exact zx_lv [] [] rfl (j_X12_isFree_27 C htab hin    hm)
abbrev cX12_freeBlocks : ByteArray := prog_13_method_30_code
def yX12_freeBlocks : MethodName := ⟨"SyncTreeModel", "freeBlocks", "()I"⟩
theorem Y_X12_freeBlocks : tY yX12_freeBlocks cX12_freeBlocks 3 (some .int) 0 := ⟨W_8_94, W_1_14, ⟨by decide +kernel, by decide +kernel⟩, by decide +kernel⟩
theorem dX12_freeBlocks_0 : decode cX12_freeBlocks 0 = .ok (.iconst 0, 1) := by decide +kernel
theorem dX12_freeBlocks_1 : decode cX12_freeBlocks 1 = .ok (.istore_n 1, 1) := by decide +kernel
theorem dX12_freeBlocks_2 : decode cX12_freeBlocks 2 = .ok (.iconst 0, 1) := by decide +kernel
theorem dX12_freeBlocks_3 : decode cX12_freeBlocks 3 = .ok (.istore_n 2, 1) := by decide +kernel
theorem dX12_freeBlocks_4 : decode cX12_freeBlocks 4 = .ok (.iload_n 2, 1) := by decide +kernel
theorem dX12_freeBlocks_5 : decode cX12_freeBlocks 5 = .ok (.aload_n 0, 1) := by decide +kernel
theorem dX12_freeBlocks_6 : decode cX12_freeBlocks 6 = .ok (.getfield 41, 3) := by decide +kernel
theorem dX12_freeBlocks_9 : decode cX12_freeBlocks 9 = .ok (.if_icmp .ge 20, 3) := by decide +kernel
theorem dX12_freeBlocks_12 : decode cX12_freeBlocks 12 = .ok (.aload_n 0, 1) := by decide +kernel
theorem dX12_freeBlocks_13 : decode cX12_freeBlocks 13 = .ok (.iload_n 2, 1) := by decide +kernel
theorem dX12_freeBlocks_14 : decode cX12_freeBlocks 14 = .ok (.invokevirtual 236, 3) := by decide +kernel
theorem dX12_freeBlocks_17 : decode cX12_freeBlocks 17 = .ok (.ifCond .eq 6, 3) := by decide +kernel
theorem dX12_freeBlocks_20 : decode cX12_freeBlocks 20 = .ok (.iinc 1 1, 3) := by decide +kernel
theorem dX12_freeBlocks_23 : decode cX12_freeBlocks 23 = .ok (.iinc 2 1, 3) := by decide +kernel
theorem dX12_freeBlocks_26 : decode cX12_freeBlocks 26 = .ok (.goto (-22), 3) := by decide +kernel
theorem dX12_freeBlocks_29 : decode cX12_freeBlocks 29 = .ok (.iload_n 1, 1) := by decide +kernel
theorem dX12_freeBlocks_30 : decode cX12_freeBlocks 30 = .ok (.ireturn, 1) := by decide +kernel
set_option maxRecDepth 100000 in
set_option maxHeartbeats 1000000 in
theorem j_X12_freeBlocks_23 {p : Program} {l : Launch} {e : Env} {s : State} {m : MethodId} {args : Array Value} {below : List Frame} {meth : Method} {c : Code} {D : va_G} {aC : Nat → ClassId} {b0 fu : Nat} {σ0 τ : tM} {v : Int32} {rc4 : Nat → Int32 → Int32 → tM → Option ((Int32) × tM)} (C : tCx p l s m args meth c yX12_freeBlocks.cls cX12_freeBlocks 3 (some .int) D aC b0 σ0) (htab : ∀ x ∈ c.exceptionTable.toList, False) (hin : meth.name = yX12_freeBlocks.name) (hrc4 : ∀ (x0 : Nat) (x1 : Int32) (x2 : Int32) (ρ : tM), rc4 x0 x1 x2 ρ = some (v, τ) → tX p l e s m args below meth c 3 2 42 D aC b0 σ0 (.inl (some (.int v))) τ 4 [(0, .ref (x0)), (1, .int (x1)), (2, .int (x2))] [] ρ) {x0 : Nat} {x1 : Int32} {x2 : Int32} {σ : tM} (hm : J_X12_freeBlocks_23 b0 fu rc4 x0 x1 x2 σ = some (v, τ)) : tX p l e s m args below meth c 3 2 42 D aC b0 σ0 (.inl (some (.int v))) τ 23 [(0, .ref (x0)), (1, .int (x1)), (2, .int (x2))] [] σ := by
  unfold J_X12_freeBlocks_23 at hm
  obtain ⟨y8, hy8⟩ : ∃ z : Int32, z = (x2) + Int32.ofInt 1 := ⟨_, rfl⟩
  replace hm := ltb_e hm hy8
  refine zx_iinc C [(2, .int (y8)), (0, .ref (x0)), (1, .int (x1))] dX12_freeBlocks_23 2 rfl hy8.symm (by decide) rfl ?_
  refine zx_goto C 4 dX12_freeBlocks_26 (by decide) ?_
  exact zx_lv [1, 2, 0] [(0, .ref (x0)), (1, .int (x1)), (2, .int (y8))] rfl (hrc4 _ _ _ _ hm)
set_option maxRecDepth 100000 in
set_option maxHeartbeats 1000000 in
theorem l_X12_freeBlocks_4 {p : Program} {l : Launch} {e : Env} {s : State} {m : MethodId} {args : Array Value} {below : List Frame} {meth : Method} {c : Code} {D : va_G} {aC : Nat → ClassId} {b0 fu : Nat} {σ0 τ : tM} {v : Int32}  (C : tCx p l s m args meth c yX12_freeBlocks.cls cX12_freeBlocks 3 (some .int) D aC b0 σ0) (htab : ∀ x ∈ c.exceptionTable.toList, False) (hin : meth.name = yX12_freeBlocks.name)  : ∀ (n : Nat) (x0 : Nat) (x1 : Int32) (x2 : Int32) (σ : tM), L_X12_freeBlocks_4 b0 fu  n x0 x1 x2 σ = some (v, τ) → tX p l e s m args below meth c 3 2 42 D aC b0 σ0 (.inl (some (.int v))) τ 4 [(0, .ref (x0)), (1, .int (x1)), (2, .int (x2))] [] σ := by
  intro n
  induction n with
  | zero => intro x0 x1 x2 σ hm; unfold L_X12_freeBlocks_4 at hm; cases hm
  | succ n ih =>
    intro x0 x1 x2 σ hm
    unfold L_X12_freeBlocks_4 at hm
    obtain ⟨rc4, hrc⟩ : ∃ z, z = L_X12_freeBlocks_4 b0 fu  n := ⟨_, rfl⟩
    replace hm := ltb_e hm hrc
    rw [← hrc] at ih
    have hrc4 := ih
    clear ih hrc
    refine zx_iload_n C dX12_freeBlocks_4 2 rfl ?_
    refine zx_aload_n C dX12_freeBlocks_5 0 rfl ?_
    obtain ⟨k1, i2, hm⟩ := ckO_e hm
    refine zx_get (j := 7) C tC_11 k1 i2 ⟨by decide, Or.inl W_6_226⟩ dX12_freeBlocks_6 (.int (tI (σ) (x0) 7)) rfl ?_
    refine zx_icmp_ge C 29 dX12_freeBlocks_9 (by decide) (fun c3 => ?_) (fun c3 => ?_)
    · replace hm := ip_e hm c3
      refine zx_iload_n C dX12_freeBlocks_29 1 rfl ?_
      obtain ⟨rfl, rfl⟩ := ret_e hm
      exact zx_iret C rfl rfl rfl dX12_freeBlocks_30
    · replace hm := in_e hm c3
      refine zx_aload_n C dX12_freeBlocks_12 0 rfl ?_
      refine zx_iload_n C dX12_freeBlocks_13 2 rfl ?_
      obtain ⟨v4, ρ5, h6, hm⟩ := cll_e hm
      refine zx_callV (σ := σ) C [.int (x2)] tC_11 k1 i2 Y_X12_isFree W_8_95 W_8_97 Wp_93 (c_X12_isFree h6) (by decide) (by decide) rfl (Nat.le_of_ble_eq_true rfl) dX12_freeBlocks_14 rfl ?_
      refine zx_if_eq C 23 dX12_freeBlocks_17 (by decide) (fun c7 => ?_) (fun c7 => ?_)
      · replace hm := ip_e hm c7
        exact zx_lv [0, 1, 2] [(0, .ref (x0)), (1, .int (x1)), (2, .int (x2))] rfl (j_X12_freeBlocks_23 C htab hin hrc4   hm)
      · replace hm := in_e hm c7
        obtain ⟨y9, hy9⟩ : ∃ z : Int32, z = (x1) + Int32.ofInt 1 := ⟨_, rfl⟩
        replace hm := ltb_e hm hy9
        refine zx_iinc C [(1, .int (y9)), (0, .ref (x0)), (2, .int (x2))] dX12_freeBlocks_20 1 rfl hy9.symm (by decide) rfl ?_
        exact zx_lv [1, 0, 2] [(0, .ref (x0)), (1, .int (y9)), (2, .int (x2))] rfl (j_X12_freeBlocks_23 C htab hin hrc4   hm)
set_option maxRecDepth 100000 in
set_option maxHeartbeats 1000000 in
theorem c_X12_freeBlocks {l : Launch} {D : va_G} {aC : Nat → ClassId} {b0 fu : Nat} {a0 : Nat} {σ τ : tM} {v : Int32} (hm : m_X12_freeBlocks b0 fu a0 σ = some (v, τ)) : tMt l D aC b0 yX12_freeBlocks (Cond.code yX12_freeBlocks cX12_freeBlocks 3 (some .int)) 2 42 [.ref (a0)] σ (.inl (some (.int v))) τ := by
  unfold m_X12_freeBlocks at hm
  obtain ⟨hg, hm⟩ := grw_e hm
  refine tMt_of (n := 0) rfl (Nat.le_of_ble_eq_true rfl) hg ?_
  intro p e s m below meth c C htab hin
  refine zx_lv [0] [(0, .ref (a0))] rfl ?_
  refine zx_iconst (v := 0) C dX12_freeBlocks_0 (by decide) ?_
  refine zx_istore_n C [(1, .int (0)), (0, .ref (a0))] dX12_freeBlocks_1 rfl (by decide) rfl ?_
  refine zx_iconst (v := 0) C dX12_freeBlocks_2 (by decide) ?_
  refine zx_istore_n C [(2, .int (0)), (1, .int (0)), (0, .ref (a0))] dX12_freeBlocks_3 rfl (by decide) rfl ?_
  exact zx_lv [2, 1, 0] [(0, .ref (a0)), (1, .int (0)), (2, .int (0))] rfl (l_X12_freeBlocks_4 C htab hin  _ _ _ _ _ hm)
abbrev cX12_get : ByteArray := prog_13_method_31_code
def yX12_get : MethodName := ⟨"SyncTreeModel", "get", "(Z)I"⟩
theorem Y_X12_get : tY yX12_get cX12_get 4 (some .int) 1 := ⟨W_8_122, W_1_14, ⟨by decide +kernel, by decide +kernel⟩, by decide +kernel⟩
theorem dX12_get_0 : decode cX12_get 0 = .ok (.iconst 0, 1) := by decide +kernel
theorem dX12_get_1 : decode cX12_get 1 = .ok (.istore_n 2, 1) := by decide +kernel
theorem dX12_get_2 : decode cX12_get 2 = .ok (.aload_n 0, 1) := by decide +kernel
theorem dX12_get_3 : decode cX12_get 3 = .ok (.iload_n 2, 1) := by decide +kernel
theorem dX12_get_4 : decode cX12_get 4 = .ok (.invokevirtual 236, 3) := by decide +kernel
theorem dX12_get_7 : decode cX12_get 7 = .ok (.ifCond .ne 9, 3) := by decide +kernel
theorem dX12_get_10 : decode cX12_get 10 = .ok (.iinc 2 1, 3) := by decide +kernel
theorem dX12_get_13 : decode cX12_get 13 = .ok (.goto (-11), 3) := by decide +kernel
theorem dX12_get_16 : decode cX12_get 16 = .ok (.aload_n 0, 1) := by decide +kernel
theorem dX12_get_17 : decode cX12_get 17 = .ok (.dup, 1) := by decide +kernel
theorem dX12_get_18 : decode cX12_get 18 = .ok (.getfield 158, 3) := by decide +kernel
theorem dX12_get_21 : decode cX12_get 21 = .ok (.iconst 1, 1) := by decide +kernel
theorem dX12_get_22 : decode cX12_get 22 = .ok (.iadd, 1) := by decide +kernel
theorem dX12_get_23 : decode cX12_get 23 = .ok (.putfield 158, 3) := by decide +kernel
theorem dX12_get_26 : decode cX12_get 26 = .ok (.aload_n 0, 1) := by decide +kernel
theorem dX12_get_27 : decode cX12_get 27 = .ok (.iload_n 2, 1) := by decide +kernel
theorem dX12_get_28 : decode cX12_get 28 = .ok (.iconst 0, 1) := by decide +kernel
theorem dX12_get_29 : decode cX12_get 29 = .ok (.invokestatic 233, 3) := by decide +kernel
theorem dX12_get_32 : decode cX12_get 32 = .ok (.iconst 1, 1) := by decide +kernel
theorem dX12_get_33 : decode cX12_get 33 = .ok (.invokevirtual 30, 3) := by decide +kernel
theorem dX12_get_36 : decode cX12_get 36 = .ok (.aload_n 0, 1) := by decide +kernel
theorem dX12_get_37 : decode cX12_get 37 = .ok (.iload_n 2, 1) := by decide +kernel
theorem dX12_get_38 : decode cX12_get 38 = .ok (.iconst 1, 1) := by decide +kernel
theorem dX12_get_39 : decode cX12_get 39 = .ok (.invokestatic 233, 3) := by decide +kernel
theorem dX12_get_42 : decode cX12_get 42 = .ok (.aload_n 0, 1) := by decide +kernel
theorem dX12_get_43 : decode cX12_get 43 = .ok (.getfield 158, 3) := by decide +kernel
theorem dX12_get_46 : decode cX12_get 46 = .ok (.invokevirtual 30, 3) := by decide +kernel
theorem dX12_get_49 : decode cX12_get 49 = .ok (.aload_n 0, 1) := by decide +kernel
theorem dX12_get_50 : decode cX12_get 50 = .ok (.iconst 1, 1) := by decide +kernel
theorem dX12_get_51 : decode cX12_get 51 = .ok (.invokevirtual 34, 3) := by decide +kernel
theorem dX12_get_54 : decode cX12_get 54 = .ok (.iload_n 1, 1) := by decide +kernel
theorem dX12_get_55 : decode cX12_get 55 = .ok (.ifCond .eq 12, 3) := by decide +kernel
theorem dX12_get_58 : decode cX12_get 58 = .ok (.aload_n 0, 1) := by decide +kernel
theorem dX12_get_59 : decode cX12_get 59 = .ok (.aload_n 0, 1) := by decide +kernel
theorem dX12_get_60 : decode cX12_get 60 = .ok (.iload_n 2, 1) := by decide +kernel
theorem dX12_get_61 : decode cX12_get 61 = .ok (.invokevirtual 240, 3) := by decide +kernel
theorem dX12_get_64 : decode cX12_get 64 = .ok (.invokevirtual 34, 3) := by decide +kernel
theorem dX12_get_67 : decode cX12_get 67 = .ok (.iconst 0, 1) := by decide +kernel
theorem dX12_get_68 : decode cX12_get 68 = .ok (.istore_n 3, 1) := by decide +kernel
theorem dX12_get_69 : decode cX12_get 69 = .ok (.iload_n 3, 1) := by decide +kernel
theorem dX12_get_70 : decode cX12_get 70 = .ok (.sipush 256, 3) := by decide +kernel
theorem dX12_get_73 : decode cX12_get 73 = .ok (.if_icmp .ge 22, 3) := by decide +kernel
theorem dX12_get_76 : decode cX12_get 76 = .ok (.aload_n 0, 1) := by decide +kernel
theorem dX12_get_77 : decode cX12_get 77 = .ok (.getfield 102, 3) := by decide +kernel
theorem dX12_get_80 : decode cX12_get 80 = .ok (.sipush 256, 3) := by decide +kernel
theorem dX12_get_83 : decode cX12_get 83 = .ok (.iload_n 2, 1) := by decide +kernel
theorem dX12_get_84 : decode cX12_get 84 = .ok (.imul, 1) := by decide +kernel
theorem dX12_get_85 : decode cX12_get 85 = .ok (.iload_n 3, 1) := by decide +kernel
theorem dX12_get_86 : decode cX12_get 86 = .ok (.iadd, 1) := by decide +kernel
theorem dX12_get_87 : decode cX12_get 87 = .ok (.iconst 0, 1) := by decide +kernel
theorem dX12_get_88 : decode cX12_get 88 = .ok (.bastore, 1) := by decide +kernel
theorem dX12_get_89 : decode cX12_get 89 = .ok (.iinc 3 1, 3) := by decide +kernel
theorem dX12_get_92 : decode cX12_get 92 = .ok (.goto (-23), 3) := by decide +kernel
theorem dX12_get_95 : decode cX12_get 95 = .ok (.aload_n 0, 1) := by decide +kernel
theorem dX12_get_96 : decode cX12_get 96 = .ok (.getfield 244, 3) := by decide +kernel
theorem dX12_get_99 : decode cX12_get 99 = .ok (.iload_n 2, 1) := by decide +kernel
theorem dX12_get_100 : decode cX12_get 100 = .ok (.iconst 0, 1) := by decide +kernel
theorem dX12_get_101 : decode cX12_get 101 = .ok (.bastore, 1) := by decide +kernel
theorem dX12_get_102 : decode cX12_get 102 = .ok (.iload_n 2, 1) := by decide +kernel
theorem dX12_get_103 : decode cX12_get 103 = .ok (.ireturn, 1) := by decide +kernel
set_option maxRecDepth 100000 in
set_option maxHeartbeats 1000000 in
theorem l_X12_get_69 {p : Program} {l : Launch} {e : Env} {s : State} {m : MethodId} {args : Array Value} {below : List Frame} {meth : Method} {c : Code} {D : va_G} {aC : Nat → ClassId} {b0 fu : Nat} {σ0 τ : tM} {v : Int32}  (C : tCx p l s m args meth c yX12_get.cls cX12_get 4 (some .int) D aC b0 σ0) (htab : ∀ x ∈ c.exceptionTable.toList, False) (hin : meth.name = yX12_get.name)  : ∀ (n : Nat) (x0 : Nat) (x2 : Int32) (x3 : Int32) (σ : tM), L_X12_get_69 b0 fu  n x0 x2 x3 σ = some (v, τ) → tX p l e s m args below meth c 4 3 70 D aC b0 σ0 (.inl (some (.int v))) τ 69 [(0, .ref (x0)), (2, .int (x2)), (3, .int (x3))] [] σ := by
  intro n
  induction n with
  | zero => intro x0 x2 x3 σ hm; unfold L_X12_get_69 at hm; cases hm
  | succ n ih =>
    intro x0 x2 x3 σ hm
    unfold L_X12_get_69 at hm
    obtain ⟨rc69, hrc⟩ : ∃ z, z = L_X12_get_69 b0 fu  n := ⟨_, rfl⟩
    replace hm := ltb_e hm hrc
    rw [← hrc] at ih
    have hrc69 := ih
    clear ih hrc
    refine zx_iload_n C dX12_get_69 2 rfl ?_
    refine zx_sipush (v := 256) C dX12_get_70 (by decide) ?_
    refine zx_icmp_ge C 95 dX12_get_73 (by decide) (fun c31 => ?_) (fun c31 => ?_)
    · replace hm := ip_e hm c31
      refine zx_aload_n C dX12_get_95 0 rfl ?_
      obtain ⟨k32, i33, hm⟩ := ckO_e hm
      obtain ⟨a34, h35, hm⟩ := osm_e hm
      refine zx_get (j := 23) C tC_11 k32 i33 ⟨by decide, Or.inl W_7_2⟩ dX12_get_96 (.ref a34) (rf_s h35) ?_
      refine zx_iload_n C dX12_get_99 1 rfl ?_
      refine zx_iconst (v := 0) C dX12_get_100 (by decide) ?_
      obtain ⟨n38, k36, i37, hm⟩ := ckR_e hm
      obtain ⟨h39, hm⟩ := ckI_e hm
      refine zx_zast C k36 i37 h39 dX12_get_101 ?_
      refine zx_iload_n C dX12_get_102 1 rfl ?_
      obtain ⟨rfl, rfl⟩ := ret_e hm
      exact zx_iret C rfl rfl rfl dX12_get_103
    · replace hm := in_e hm c31
      refine zx_aload_n C dX12_get_76 0 rfl ?_
      obtain ⟨k40, i41, hm⟩ := ckO_e hm
      obtain ⟨a42, h43, hm⟩ := osm_e hm
      refine zx_get (j := 22) C tC_11 k40 i41 ⟨by decide, Or.inl W_7_1⟩ dX12_get_77 (.ref a42) (rf_s h43) ?_
      refine zx_sipush (v := 256) C dX12_get_80 (by decide) ?_
      refine zx_iload_n C dX12_get_83 1 rfl ?_
      refine zx_imul C dX12_get_84 ?_
      refine zx_iload_n C dX12_get_85 2 rfl ?_
      refine zx_iadd C dX12_get_86 ?_
      refine zx_iconst (v := 0) C dX12_get_87 (by decide) ?_
      obtain ⟨n46, k44, i45, hm⟩ := ckR_e hm
      obtain ⟨h47, hm⟩ := ckI_e hm
      refine zx_bast C k44 i45 h47 dX12_get_88 ?_
      obtain ⟨y48, hy48⟩ : ∃ z : Int32, z = (x3) + Int32.ofInt 1 := ⟨_, rfl⟩
      replace hm := ltb_e hm hy48
      refine zx_iinc C [(3, .int (y48)), (0, .ref (x0)), (2, .int (x2))] dX12_get_89 2 rfl hy48.symm (by decide) rfl ?_
      refine zx_goto C 69 dX12_get_92 (by decide) ?_
      exact zx_lv [1, 2, 0] [(0, .ref (x0)), (2, .int (x2)), (3, .int (y48))] rfl (hrc69 _ _ _ _ hm)
set_option maxRecDepth 100000 in
set_option maxHeartbeats 1000000 in
theorem j_X12_get_67 {p : Program} {l : Launch} {e : Env} {s : State} {m : MethodId} {args : Array Value} {below : List Frame} {meth : Method} {c : Code} {D : va_G} {aC : Nat → ClassId} {b0 fu : Nat} {σ0 τ : tM} {v : Int32}  (C : tCx p l s m args meth c yX12_get.cls cX12_get 4 (some .int) D aC b0 σ0) (htab : ∀ x ∈ c.exceptionTable.toList, False) (hin : meth.name = yX12_get.name)  {x0 : Nat} {x2 : Int32} {σ : tM} (hm : J_X12_get_67 b0 fu  x0 x2 σ = some (v, τ)) : tX p l e s m args below meth c 4 3 70 D aC b0 σ0 (.inl (some (.int v))) τ 67 [(0, .ref (x0)), (2, .int (x2))] [] σ := by
  unfold J_X12_get_67 at hm
  refine zx_iconst (v := 0) C dX12_get_67 (by decide) ?_
  refine zx_istore_n C [(3, .int (0)), (0, .ref (x0)), (2, .int (x2))] dX12_get_68 rfl (by decide) rfl ?_
  exact zx_lv [1, 2, 0] [(0, .ref (x0)), (2, .int (x2)), (3, .int (0))] rfl (l_X12_get_69 C htab hin  _ _ _ _ _ hm)
set_option maxRecDepth 100000 in
set_option maxHeartbeats 1000000 in
theorem l_X12_get_2 {p : Program} {l : Launch} {e : Env} {s : State} {m : MethodId} {args : Array Value} {below : List Frame} {meth : Method} {c : Code} {D : va_G} {aC : Nat → ClassId} {b0 fu : Nat} {σ0 τ : tM} {v : Int32}  (C : tCx p l s m args meth c yX12_get.cls cX12_get 4 (some .int) D aC b0 σ0) (htab : ∀ x ∈ c.exceptionTable.toList, False) (hin : meth.name = yX12_get.name)  : ∀ (n : Nat) (x0 : Nat) (x1 : Int32) (x2 : Int32) (σ : tM), L_X12_get_2 b0 fu  n x0 x1 x2 σ = some (v, τ) → tX p l e s m args below meth c 4 3 70 D aC b0 σ0 (.inl (some (.int v))) τ 2 [(0, .ref (x0)), (1, .int (x1)), (2, .int (x2))] [] σ := by
  intro n
  induction n with
  | zero => intro x0 x1 x2 σ hm; unfold L_X12_get_2 at hm; cases hm
  | succ n ih =>
    intro x0 x1 x2 σ hm
    unfold L_X12_get_2 at hm
    obtain ⟨rc2, hrc⟩ : ∃ z, z = L_X12_get_2 b0 fu  n := ⟨_, rfl⟩
    replace hm := ltb_e hm hrc
    rw [← hrc] at ih
    have hrc2 := ih
    clear ih hrc
    refine zx_aload_n C dX12_get_2 0 rfl ?_
    refine zx_iload_n C dX12_get_3 2 rfl ?_
    obtain ⟨k1, i2, hm⟩ := ckO_e hm
    obtain ⟨v3, ρ4, h5, hm⟩ := cll_e hm
    refine zx_callV (σ := σ) C [.int (x2)] tC_11 k1 i2 Y_X12_isFree W_8_95 W_8_97 Wp_93 (c_X12_isFree h5) (by decide) (by decide) rfl (Nat.le_of_ble_eq_true rfl) dX12_get_4 rfl ?_
    refine zx_if_ne C 16 dX12_get_7 (by decide) (fun c6 => ?_) (fun c6 => ?_)
    · replace hm := in_e hm c6
      refine zx_aload_n C dX12_get_16 0 rfl ?_
      refine zx_dup C dX12_get_17 rfl ?_
      obtain ⟨k7, i8, hm⟩ := ckO_e hm
      refine zx_get (j := 34) C tC_11 k7 i8 ⟨by decide, Or.inl W_7_13⟩ dX12_get_18 (.int (tI (ρ4) (x0) 34)) rfl ?_
      refine zx_iconst (v := 1) C dX12_get_21 (by decide) ?_
      refine zx_iadd C dX12_get_22 ?_
      refine zx_put (j := 34) (ρ := sI (ρ4) (x0) 34 ((tI (ρ4) (x0) 34) + (1))) C tC_11 k7 i8 ⟨by decide, Or.inl W_7_13⟩ rfl rfl rfl (sI_ok (fun _ => rfl)) dX12_get_23 ?_
      refine zx_aload_n C dX12_get_26 0 rfl ?_
      refine zx_iload_n C dX12_get_27 2 rfl ?_
      refine zx_iconst (v := 0) C dX12_get_28 (by decide) ?_
      obtain ⟨v9, ρ10, h11, hm⟩ := cll_e hm
      refine zx_callS (σ := sI (ρ4) (x0) 34 ((tI (ρ4) (x0) 34) + (1))) C [.int (x2), .int (0)] Y_X12_room W_6_209 W_6_210 (c_X12_room h11) (by decide) (by decide) rfl (Nat.le_of_ble_eq_true rfl) dX12_get_29 rfl ?_
      refine zx_iconst (v := 1) C dX12_get_32 (by decide) ?_
      obtain ⟨k12, i13, hm⟩ := ckO_e hm
      obtain ⟨v14, ρ15, h16, hm⟩ := cll_e hm
      refine zx_callV (σ := ρ10) C [.int (v9), .int (1)] tC_11 k12 i13 Y_X12_put W_8_103 W_8_105 Wp_95 (c_X12_put h16) (by decide) (by decide) rfl (Nat.le_of_ble_eq_true rfl) dX12_get_33 rfl ?_
      refine zx_aload_n C dX12_get_36 0 rfl ?_
      refine zx_iload_n C dX12_get_37 2 rfl ?_
      refine zx_iconst (v := 1) C dX12_get_38 (by decide) ?_
      obtain ⟨v17, ρ18, h19, hm⟩ := cll_e hm
      refine zx_callS (σ := ρ15) C [.int (x2), .int (1)] Y_X12_room W_6_209 W_6_210 (c_X12_room h19) (by decide) (by decide) rfl (Nat.le_of_ble_eq_true rfl) dX12_get_39 rfl ?_
      refine zx_aload_n C dX12_get_42 0 rfl ?_
      obtain ⟨k20, i21, hm⟩ := ckO_e hm
      refine zx_get (j := 34) C tC_11 k20 i21 ⟨by decide, Or.inl W_7_13⟩ dX12_get_43 (.int (tI (ρ18) (x0) 34)) rfl ?_
      obtain ⟨v22, ρ23, h24, hm⟩ := cll_e hm
      refine zx_callV (σ := ρ18) C [.int (v17), .int (tI (ρ18) (x0) 34)] tC_11 k20 i21 Y_X12_put W_8_103 W_8_105 Wp_95 (c_X12_put h24) (by decide) (by decide) rfl (Nat.le_of_ble_eq_true rfl) dX12_get_46 rfl ?_
      refine zx_aload_n C dX12_get_49 0 rfl ?_
      refine zx_iconst (v := 1) C dX12_get_50 (by decide) ?_
      obtain ⟨k25, i26, hm⟩ := ckO_e hm
      obtain ⟨v27, ρ28, h29, hm⟩ := cll_e hm
      refine zx_callV (σ := ρ23) C [.int (1)] tC_11 k25 i26 Y_X12_touch W_8_107 W_8_109 Wp_96 (c_X12_touch h29) (by decide) (by decide) rfl (Nat.le_of_ble_eq_true rfl) dX12_get_51 rfl ?_
      refine zx_iload_n C dX12_get_54 1 rfl ?_
      refine zx_if_eq C 67 dX12_get_55 (by decide) (fun c30 => ?_) (fun c30 => ?_)
      · replace hm := ip_e hm c30
        exact zx_lv [0, 2] [(0, .ref (x0)), (2, .int (x2))] rfl (j_X12_get_67 C htab hin    hm)
      · replace hm := in_e hm c30
        refine zx_aload_n C dX12_get_58 0 rfl ?_
        refine zx_aload_n C dX12_get_59 0 rfl ?_
        refine zx_iload_n C dX12_get_60 2 rfl ?_
        obtain ⟨k49, i50, hm⟩ := ckO_e hm
        obtain ⟨v51, ρ52, h53, hm⟩ := cll_e hm
        refine zx_callV (σ := ρ28) C [.int (x2)] tC_11 k49 i50 Y_X12_numberOf W_8_123 W_8_125 Wp_100 (c_X12_numberOf h53) (by decide) (by decide) rfl (Nat.le_of_ble_eq_true rfl) dX12_get_61 rfl ?_
        obtain ⟨k54, i55, hm⟩ := ckO_e hm
        obtain ⟨v56, ρ57, h58, hm⟩ := cll_e hm
        refine zx_callV (σ := ρ52) C [.int (v51)] tC_11 k54 i55 Y_X12_touch W_8_107 W_8_109 Wp_96 (c_X12_touch h58) (by decide) (by decide) rfl (Nat.le_of_ble_eq_true rfl) dX12_get_64 rfl ?_
        exact zx_lv [0, 2] [(0, .ref (x0)), (2, .int (x2))] rfl (j_X12_get_67 C htab hin    hm)
    · replace hm := ip_e hm c6
      obtain ⟨y59, hy59⟩ : ∃ z : Int32, z = (x2) + Int32.ofInt 1 := ⟨_, rfl⟩
      replace hm := ltb_e hm hy59
      refine zx_iinc C [(2, .int (y59)), (0, .ref (x0)), (1, .int (x1))] dX12_get_10 2 rfl hy59.symm (by decide) rfl ?_
      refine zx_goto C 2 dX12_get_13 (by decide) ?_
      exact zx_lv [1, 2, 0] [(0, .ref (x0)), (1, .int (x1)), (2, .int (y59))] rfl (hrc2 _ _ _ _ hm)
set_option maxRecDepth 100000 in
set_option maxHeartbeats 1000000 in
theorem c_X12_get {l : Launch} {D : va_G} {aC : Nat → ClassId} {b0 fu : Nat} {a0 : Nat} {p0 : Int32} {σ τ : tM} {v : Int32} (hm : m_X12_get b0 fu a0 p0 σ = some (v, τ)) : tMt l D aC b0 yX12_get (Cond.code yX12_get cX12_get 4 (some .int)) 3 70 [.ref (a0), .int (p0)] σ (.inl (some (.int v))) τ := by
  unfold m_X12_get at hm
  obtain ⟨hg, hm⟩ := grw_e hm
  refine tMt_of (n := 0) rfl (Nat.le_of_ble_eq_true rfl) hg ?_
  intro p e s m below meth c C htab hin
  refine zx_lv [0, 1] [(0, .ref (a0)), (1, .int (p0))] rfl ?_
  refine zx_iconst (v := 0) C dX12_get_0 (by decide) ?_
  refine zx_istore_n C [(2, .int (0)), (0, .ref (a0)), (1, .int (p0))] dX12_get_1 rfl (by decide) rfl ?_
  exact zx_lv [1, 2, 0] [(0, .ref (a0)), (1, .int (p0)), (2, .int (0))] rfl (l_X12_get_2 C htab hin  _ _ _ _ _ hm)
abbrev cX12_free : ByteArray := prog_13_method_32_code
def yX12_free : MethodName := ⟨"SyncTreeModel", "free", "(IZ)V"⟩
theorem Y_X12_free : tY yX12_free cX12_free 3 none 2 := ⟨W_8_174, W_1_14, ⟨by decide +kernel, by decide +kernel⟩, by decide +kernel⟩
theorem dX12_free_0 : decode cX12_free 0 = .ok (.aload_n 0, 1) := by decide +kernel
theorem dX12_free_1 : decode cX12_free 1 = .ok (.iload_n 1, 1) := by decide +kernel
theorem dX12_free_2 : decode cX12_free 2 = .ok (.iconst 0, 1) := by decide +kernel
theorem dX12_free_3 : decode cX12_free 3 = .ok (.invokestatic 233, 3) := by decide +kernel
theorem dX12_free_6 : decode cX12_free 6 = .ok (.iconst 0, 1) := by decide +kernel
theorem dX12_free_7 : decode cX12_free 7 = .ok (.invokevirtual 30, 3) := by decide +kernel
theorem dX12_free_10 : decode cX12_free 10 = .ok (.aload_n 0, 1) := by decide +kernel
theorem dX12_free_11 : decode cX12_free 11 = .ok (.iconst 1, 1) := by decide +kernel
theorem dX12_free_12 : decode cX12_free 12 = .ok (.invokevirtual 34, 3) := by decide +kernel
theorem dX12_free_15 : decode cX12_free 15 = .ok (.aload_n 0, 1) := by decide +kernel
theorem dX12_free_16 : decode cX12_free 16 = .ok (.getfield 190, 3) := by decide +kernel
theorem dX12_free_19 : decode cX12_free 19 = .ok (.iload_n 1, 1) := by decide +kernel
theorem dX12_free_20 : decode cX12_free 20 = .ok (.iconst 1, 1) := by decide +kernel
theorem dX12_free_21 : decode cX12_free 21 = .ok (.iastore, 1) := by decide +kernel
theorem dX12_free_22 : decode cX12_free 22 = .ok (.aload_n 0, 1) := by decide +kernel
theorem dX12_free_23 : decode cX12_free 23 = .ok (.getfield 244, 3) := by decide +kernel
theorem dX12_free_26 : decode cX12_free 26 = .ok (.iload_n 1, 1) := by decide +kernel
theorem dX12_free_27 : decode cX12_free 27 = .ok (.iconst 0, 1) := by decide +kernel
theorem dX12_free_28 : decode cX12_free 28 = .ok (.bastore, 1) := by decide +kernel
theorem dX12_free_29 : decode cX12_free 29 = .ok (.iload_n 2, 1) := by decide +kernel
theorem dX12_free_30 : decode cX12_free 30 = .ok (.ifCond .ne 4, 3) := by decide +kernel
theorem dX12_free_33 : decode cX12_free 33 = .ok (.return_, 1) := by decide +kernel
theorem dX12_free_34 : decode cX12_free 34 = .ok (.aload_n 0, 1) := by decide +kernel
theorem dX12_free_35 : decode cX12_free 35 = .ok (.getfield 108, 3) := by decide +kernel
theorem dX12_free_38 : decode cX12_free 38 = .ok (.aload_n 0, 1) := by decide +kernel
theorem dX12_free_39 : decode cX12_free 39 = .ok (.iload_n 1, 1) := by decide +kernel
theorem dX12_free_40 : decode cX12_free 40 = .ok (.invokevirtual 240, 3) := by decide +kernel
theorem dX12_free_43 : decode cX12_free 43 = .ok (.iconst 0, 1) := by decide +kernel
theorem dX12_free_44 : decode cX12_free 44 = .ok (.bastore, 1) := by decide +kernel
theorem dX12_free_45 : decode cX12_free 45 = .ok (.aload_n 0, 1) := by decide +kernel
theorem dX12_free_46 : decode cX12_free 46 = .ok (.getfield 116, 3) := by decide +kernel
theorem dX12_free_49 : decode cX12_free 49 = .ok (.aload_n 0, 1) := by decide +kernel
theorem dX12_free_50 : decode cX12_free 50 = .ok (.iload_n 1, 1) := by decide +kernel
theorem dX12_free_51 : decode cX12_free 51 = .ok (.invokevirtual 240, 3) := by decide +kernel
theorem dX12_free_54 : decode cX12_free 54 = .ok (.iconst 1, 1) := by decide +kernel
theorem dX12_free_55 : decode cX12_free 55 = .ok (.bastore, 1) := by decide +kernel
theorem dX12_free_56 : decode cX12_free 56 = .ok (.return_, 1) := by decide +kernel
set_option maxRecDepth 100000 in
set_option maxHeartbeats 1000000 in
theorem c_X12_free {l : Launch} {D : va_G} {aC : Nat → ClassId} {b0 fu : Nat} {a0 : Nat} {p0 : Int32} {p1 : Int32} {σ τ : tM} {v : Unit} (hm : m_X12_free b0 fu a0 p0 p1 σ = some (v, τ)) : tMt l D aC b0 yX12_free (Cond.code yX12_free cX12_free 3 none) 3 70 [.ref (a0), .int (p0), .int (p1)] σ (.inl none) τ := by
  unfold m_X12_free at hm
  obtain ⟨hg, hm⟩ := grw_e hm
  refine tMt_of (n := 0) rfl (Nat.le_of_ble_eq_true rfl) hg ?_
  intro p e s m below meth c C htab hin
  refine zx_lv [0, 1, 2] [(0, .ref (a0)), (1, .int (p0)), (2, .int (p1))] rfl ?_
  refine zx_aload_n C dX12_free_0 0 rfl ?_
  refine zx_iload_n C dX12_free_1 1 rfl ?_
  refine zx_iconst (v := 0) C dX12_free_2 (by decide) ?_
  obtain ⟨v1, ρ2, h3, hm⟩ := cll_e hm
  refine zx_callS (σ := σ) C [.int (p0), .int (0)] Y_X12_room W_6_209 W_6_210 (c_X12_room h3) (by decide) (by decide) rfl (Nat.le_of_ble_eq_true rfl) dX12_free_3 rfl ?_
  refine zx_iconst (v := 0) C dX12_free_6 (by decide) ?_
  obtain ⟨k4, i5, hm⟩ := ckO_e hm
  obtain ⟨v6, ρ7, h8, hm⟩ := cll_e hm
  refine zx_callV (σ := ρ2) C [.int (v1), .int (0)] tC_11 k4 i5 Y_X12_put W_8_103 W_8_105 Wp_95 (c_X12_put h8) (by decide) (by decide) rfl (Nat.le_of_ble_eq_true rfl) dX12_free_7 rfl ?_
  refine zx_aload_n C dX12_free_10 0 rfl ?_
  refine zx_iconst (v := 1) C dX12_free_11 (by decide) ?_
  obtain ⟨k9, i10, hm⟩ := ckO_e hm
  obtain ⟨v11, ρ12, h13, hm⟩ := cll_e hm
  refine zx_callV (σ := ρ7) C [.int (1)] tC_11 k9 i10 Y_X12_touch W_8_107 W_8_109 Wp_96 (c_X12_touch h13) (by decide) (by decide) rfl (Nat.le_of_ble_eq_true rfl) dX12_free_12 rfl ?_
  refine zx_aload_n C dX12_free_15 0 rfl ?_
  obtain ⟨k14, i15, hm⟩ := ckO_e hm
  obtain ⟨a16, h17, hm⟩ := osm_e hm
  refine zx_get (j := 24) C tC_11 k14 i15 ⟨by decide, Or.inl W_7_3⟩ dX12_free_16 (.ref a16) (rf_s h17) ?_
  refine zx_iload_n C dX12_free_19 1 rfl ?_
  refine zx_iconst (v := 1) C dX12_free_20 (by decide) ?_
  obtain ⟨n20, k18, i19, hm⟩ := ckR_e hm
  obtain ⟨h21, hm⟩ := ckI_e hm
  refine zx_iast C k18 i19 h21 dX12_free_21 ?_
  refine zx_aload_n C dX12_free_22 0 rfl ?_
  obtain ⟨a22, h23, hm⟩ := osm_e hm
  refine zx_get (j := 23) C tC_11 k14 i15 ⟨by decide, Or.inl W_7_2⟩ dX12_free_23 (.ref a22) (rf_s h23) ?_
  refine zx_iload_n C dX12_free_26 1 rfl ?_
  refine zx_iconst (v := 0) C dX12_free_27 (by decide) ?_
  obtain ⟨n26, k24, i25, hm⟩ := ckR_e hm
  obtain ⟨h27, hm⟩ := ckI_e hm
  refine zx_zast C k24 i25 h27 dX12_free_28 ?_
  refine zx_iload_n C dX12_free_29 2 rfl ?_
  refine zx_if_ne C 34 dX12_free_30 (by decide) (fun c28 => ?_) (fun c28 => ?_)
  · replace hm := in_e hm c28
    refine zx_aload_n C dX12_free_34 0 rfl ?_
    obtain ⟨a29, h30, hm⟩ := osm_e hm
    refine zx_get (j := 26) C tC_11 k14 i15 ⟨by decide, Or.inl W_7_5⟩ dX12_free_35 (.ref a29) (rf_s h30) ?_
    refine zx_aload_n C dX12_free_38 0 rfl ?_
    refine zx_iload_n C dX12_free_39 1 rfl ?_
    obtain ⟨v31, ρ32, h33, hm⟩ := cll_e hm
    refine zx_callV (σ := sI (sI (ρ12) (a16) ((p0).toNatClampNeg) (1)) (a22) ((p0).toNatClampNeg) (vp_nar .boolean ((0 : Int32)))) C [.int (p0)] tC_11 k14 i15 Y_X12_numberOf W_8_123 W_8_125 Wp_100 (c_X12_numberOf h33) (by decide) (by decide) rfl (Nat.le_of_ble_eq_true rfl) dX12_free_40 rfl ?_
    refine zx_iconst (v := 0) C dX12_free_43 (by decide) ?_
    obtain ⟨n36, k34, i35, hm⟩ := ckR_e hm
    obtain ⟨h37, hm⟩ := ckI_e hm
    refine zx_zast C k34 i35 h37 dX12_free_44 ?_
    refine zx_aload_n C dX12_free_45 0 rfl ?_
    obtain ⟨k38, i39, hm⟩ := ckO_e hm
    obtain ⟨a40, h41, hm⟩ := osm_e hm
    refine zx_get (j := 27) C tC_11 k38 i39 ⟨by decide, Or.inl W_7_6⟩ dX12_free_46 (.ref a40) (rf_s h41) ?_
    refine zx_aload_n C dX12_free_49 0 rfl ?_
    refine zx_iload_n C dX12_free_50 1 rfl ?_
    obtain ⟨v42, ρ43, h44, hm⟩ := cll_e hm
    refine zx_callV (σ := sI (ρ32) (a29) ((v31).toNatClampNeg) (vp_nar .boolean ((0 : Int32)))) C [.int (p0)] tC_11 k38 i39 Y_X12_numberOf W_8_123 W_8_125 Wp_100 (c_X12_numberOf h44) (by decide) (by decide) rfl (Nat.le_of_ble_eq_true rfl) dX12_free_51 rfl ?_
    refine zx_iconst (v := 1) C dX12_free_54 (by decide) ?_
    obtain ⟨n47, k45, i46, hm⟩ := ckR_e hm
    obtain ⟨h48, hm⟩ := ckI_e hm
    refine zx_zast C k45 i46 h48 dX12_free_55 ?_
    obtain ⟨rfl, rfl⟩ := ret_e hm
    exact zx_vret C rfl rfl rfl dX12_free_56
  · replace hm := ip_e hm c28
    obtain ⟨rfl, rfl⟩ := ret_e hm
    exact zx_vret C rfl rfl rfl dX12_free_33
