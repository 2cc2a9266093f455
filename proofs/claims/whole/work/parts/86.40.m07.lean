abbrev cX12_format : ByteArray := prog_13_method_67_code
def yX12_format : MethodName := ⟨"SyncTreeModel", "format", "(II)I"⟩
theorem Y_X12_format : tY yX12_format cX12_format 5 (some .int) 2 := ⟨W_6_208, W_1_14, ⟨by decide +kernel, by decide +kernel⟩, by decide +kernel⟩
theorem dX12_format_0 : decode cX12_format 0 = .ok (.aload_n 0, 1) := by decide +kernel
theorem dX12_format_1 : decode cX12_format 1 = .ok (.iconst 0, 1) := by decide +kernel
theorem dX12_format_2 : decode cX12_format 2 = .ok (.putfield 3, 3) := by decide +kernel
theorem dX12_format_5 : decode cX12_format 5 = .ok (.iload_n 1, 1) := by decide +kernel
theorem dX12_format_6 : decode cX12_format 6 = .ok (.bipush 40, 2) := by decide +kernel
theorem dX12_format_8 : decode cX12_format 8 = .ok (.if_icmp .lt 23, 3) := by decide +kernel
theorem dX12_format_11 : decode cX12_format 11 = .ok (.iload_n 1, 1) := by decide +kernel
theorem dX12_format_12 : decode cX12_format 12 = .ok (.sipush 4096, 3) := by decide +kernel
theorem dX12_format_15 : decode cX12_format 15 = .ok (.if_icmp .gt 16, 3) := by decide +kernel
theorem dX12_format_18 : decode cX12_format 18 = .ok (.iload_n 2, 1) := by decide +kernel
theorem dX12_format_19 : decode cX12_format 19 = .ok (.bipush 16, 2) := by decide +kernel
theorem dX12_format_21 : decode cX12_format 21 = .ok (.if_icmp .lt 10, 3) := by decide +kernel
theorem dX12_format_24 : decode cX12_format 24 = .ok (.iload_n 2, 1) := by decide +kernel
theorem dX12_format_25 : decode cX12_format 25 = .ok (.sipush 2000, 3) := by decide +kernel
theorem dX12_format_28 : decode cX12_format 28 = .ok (.if_icmp .le 6, 3) := by decide +kernel
theorem dX12_format_31 : decode cX12_format 31 = .ok (.bipush (-9), 2) := by decide +kernel
theorem dX12_format_33 : decode cX12_format 33 = .ok (.ireturn, 1) := by decide +kernel
theorem dX12_format_34 : decode cX12_format 34 = .ok (.aload_n 0, 1) := by decide +kernel
theorem dX12_format_35 : decode cX12_format 35 = .ok (.iload_n 1, 1) := by decide +kernel
theorem dX12_format_36 : decode cX12_format 36 = .ok (.putfield 38, 3) := by decide +kernel
theorem dX12_format_39 : decode cX12_format 39 = .ok (.aload_n 0, 1) := by decide +kernel
theorem dX12_format_40 : decode cX12_format 40 = .ok (.iload_n 2, 1) := by decide +kernel
theorem dX12_format_41 : decode cX12_format 41 = .ok (.putfield 41, 3) := by decide +kernel
theorem dX12_format_44 : decode cX12_format 44 = .ok (.iconst 0, 1) := by decide +kernel
theorem dX12_format_45 : decode cX12_format 45 = .ok (.istore_n 3, 1) := by decide +kernel
theorem dX12_format_46 : decode cX12_format 46 = .ok (.iload_n 3, 1) := by decide +kernel
theorem dX12_format_47 : decode cX12_format 47 = .ok (.aload_n 0, 1) := by decide +kernel
theorem dX12_format_48 : decode cX12_format 48 = .ok (.getfield 13, 3) := by decide +kernel
theorem dX12_format_51 : decode cX12_format 51 = .ok (.arraylength, 1) := by decide +kernel
theorem dX12_format_52 : decode cX12_format 52 = .ok (.if_icmp .ge 16, 3) := by decide +kernel
theorem dX12_format_55 : decode cX12_format 55 = .ok (.aload_n 0, 1) := by decide +kernel
theorem dX12_format_56 : decode cX12_format 56 = .ok (.getfield 13, 3) := by decide +kernel
theorem dX12_format_59 : decode cX12_format 59 = .ok (.iload_n 3, 1) := by decide +kernel
theorem dX12_format_60 : decode cX12_format 60 = .ok (.iconst 0, 1) := by decide +kernel
theorem dX12_format_61 : decode cX12_format 61 = .ok (.iastore, 1) := by decide +kernel
theorem dX12_format_62 : decode cX12_format 62 = .ok (.iinc 3 1, 3) := by decide +kernel
theorem dX12_format_65 : decode cX12_format 65 = .ok (.goto (-19), 3) := by decide +kernel
theorem dX12_format_68 : decode cX12_format 68 = .ok (.iconst 0, 1) := by decide +kernel
theorem dX12_format_69 : decode cX12_format 69 = .ok (.istore_n 3, 1) := by decide +kernel
theorem dX12_format_70 : decode cX12_format 70 = .ok (.iload_n 3, 1) := by decide +kernel
theorem dX12_format_71 : decode cX12_format 71 = .ok (.sipush 2000, 3) := by decide +kernel
theorem dX12_format_74 : decode cX12_format 74 = .ok (.if_icmp .ge 44, 3) := by decide +kernel
theorem dX12_format_77 : decode cX12_format 77 = .ok (.iconst 0, 1) := by decide +kernel
theorem dX12_format_78 : decode cX12_format 78 = .ok (.istore 4, 2) := by decide +kernel
theorem dX12_format_80 : decode cX12_format 80 = .ok (.iload 4, 2) := by decide +kernel
theorem dX12_format_82 : decode cX12_format 82 = .ok (.bipush 8, 2) := by decide +kernel
theorem dX12_format_84 : decode cX12_format 84 = .ok (.if_icmp .ge 28, 3) := by decide +kernel
theorem dX12_format_87 : decode cX12_format 87 = .ok (.aload_n 0, 1) := by decide +kernel
theorem dX12_format_88 : decode cX12_format 88 = .ok (.getfield 13, 3) := by decide +kernel
theorem dX12_format_91 : decode cX12_format 91 = .ok (.iload_n 3, 1) := by decide +kernel
theorem dX12_format_92 : decode cX12_format 92 = .ok (.bipush 34, 2) := by decide +kernel
theorem dX12_format_94 : decode cX12_format 94 = .ok (.iload 4, 2) := by decide +kernel
theorem dX12_format_96 : decode cX12_format 96 = .ok (.bipush 30, 2) := by decide +kernel
theorem dX12_format_98 : decode cX12_format 98 = .ok (.imul, 1) := by decide +kernel
theorem dX12_format_99 : decode cX12_format 99 = .ok (.iadd, 1) := by decide +kernel
theorem dX12_format_100 : decode cX12_format 100 = .ok (.invokestatic 233, 3) := by decide +kernel
theorem dX12_format_103 : decode cX12_format 103 = .ok (.bipush 64, 2) := by decide +kernel
theorem dX12_format_105 : decode cX12_format 105 = .ok (.iastore, 1) := by decide +kernel
theorem dX12_format_106 : decode cX12_format 106 = .ok (.iinc 4 1, 3) := by decide +kernel
theorem dX12_format_109 : decode cX12_format 109 = .ok (.goto (-29), 3) := by decide +kernel
theorem dX12_format_112 : decode cX12_format 112 = .ok (.iinc 3 1, 3) := by decide +kernel
theorem dX12_format_115 : decode cX12_format 115 = .ok (.goto (-45), 3) := by decide +kernel
theorem dX12_format_118 : decode cX12_format 118 = .ok (.aload_n 0, 1) := by decide +kernel
theorem dX12_format_119 : decode cX12_format 119 = .ok (.getfield 13, 3) := by decide +kernel
theorem dX12_format_122 : decode cX12_format 122 = .ok (.iconst 0, 1) := by decide +kernel
theorem dX12_format_123 : decode cX12_format 123 = .ok (.iconst 2, 1) := by decide +kernel
theorem dX12_format_124 : decode cX12_format 124 = .ok (.iastore, 1) := by decide +kernel
theorem dX12_format_125 : decode cX12_format 125 = .ok (.aload_n 0, 1) := by decide +kernel
theorem dX12_format_126 : decode cX12_format 126 = .ok (.iconst 0, 1) := by decide +kernel
theorem dX12_format_127 : decode cX12_format 127 = .ok (.putfield 17, 3) := by decide +kernel
theorem dX12_format_130 : decode cX12_format 130 = .ok (.iconst 0, 1) := by decide +kernel
theorem dX12_format_131 : decode cX12_format 131 = .ok (.istore_n 3, 1) := by decide +kernel
theorem dX12_format_132 : decode cX12_format 132 = .ok (.iload_n 3, 1) := by decide +kernel
theorem dX12_format_133 : decode cX12_format 133 = .ok (.aload_n 0, 1) := by decide +kernel
theorem dX12_format_134 : decode cX12_format 134 = .ok (.getfield 68, 3) := by decide +kernel
theorem dX12_format_137 : decode cX12_format 137 = .ok (.arraylength, 1) := by decide +kernel
theorem dX12_format_138 : decode cX12_format 138 = .ok (.if_icmp .ge 16, 3) := by decide +kernel
theorem dX12_format_141 : decode cX12_format 141 = .ok (.aload_n 0, 1) := by decide +kernel
theorem dX12_format_142 : decode cX12_format 142 = .ok (.getfield 68, 3) := by decide +kernel
theorem dX12_format_145 : decode cX12_format 145 = .ok (.iload_n 3, 1) := by decide +kernel
theorem dX12_format_146 : decode cX12_format 146 = .ok (.iconst 0, 1) := by decide +kernel
theorem dX12_format_147 : decode cX12_format 147 = .ok (.iastore, 1) := by decide +kernel
theorem dX12_format_148 : decode cX12_format 148 = .ok (.iinc 3 1, 3) := by decide +kernel
theorem dX12_format_151 : decode cX12_format 151 = .ok (.goto (-19), 3) := by decide +kernel
theorem dX12_format_154 : decode cX12_format 154 = .ok (.aload_n 0, 1) := by decide +kernel
theorem dX12_format_155 : decode cX12_format 155 = .ok (.iconst 0, 1) := by decide +kernel
theorem dX12_format_156 : decode cX12_format 156 = .ok (.putfield 87, 3) := by decide +kernel
theorem dX12_format_159 : decode cX12_format 159 = .ok (.aload_n 0, 1) := by decide +kernel
theorem dX12_format_160 : decode cX12_format 160 = .ok (.iconst 0, 1) := by decide +kernel
theorem dX12_format_161 : decode cX12_format 161 = .ok (.putfield 93, 3) := by decide +kernel
theorem dX12_format_164 : decode cX12_format 164 = .ok (.aload_n 0, 1) := by decide +kernel
theorem dX12_format_165 : decode cX12_format 165 = .ok (.iconst 1, 1) := by decide +kernel
theorem dX12_format_166 : decode cX12_format 166 = .ok (.putfield 58, 3) := by decide +kernel
theorem dX12_format_169 : decode cX12_format 169 = .ok (.aload_n 0, 1) := by decide +kernel
theorem dX12_format_170 : decode cX12_format 170 = .ok (.iconst (-1), 1) := by decide +kernel
theorem dX12_format_171 : decode cX12_format 171 = .ok (.putfield 44, 3) := by decide +kernel
theorem dX12_format_174 : decode cX12_format 174 = .ok (.aload_n 0, 1) := by decide +kernel
theorem dX12_format_175 : decode cX12_format 175 = .ok (.iconst 0, 1) := by decide +kernel
theorem dX12_format_176 : decode cX12_format 176 = .ok (.putfield 55, 3) := by decide +kernel
theorem dX12_format_179 : decode cX12_format 179 = .ok (.aload_n 0, 1) := by decide +kernel
theorem dX12_format_180 : decode cX12_format 180 = .ok (.iconst 0, 1) := by decide +kernel
theorem dX12_format_181 : decode cX12_format 181 = .ok (.putfield 105, 3) := by decide +kernel
theorem dX12_format_184 : decode cX12_format 184 = .ok (.aload_n 0, 1) := by decide +kernel
theorem dX12_format_185 : decode cX12_format 185 = .ok (.iconst 0, 1) := by decide +kernel
theorem dX12_format_186 : decode cX12_format 186 = .ok (.putfield 128, 3) := by decide +kernel
theorem dX12_format_189 : decode cX12_format 189 = .ok (.aload_n 0, 1) := by decide +kernel
theorem dX12_format_190 : decode cX12_format 190 = .ok (.iconst 0, 1) := by decide +kernel
theorem dX12_format_191 : decode cX12_format 191 = .ok (.putfield 137, 3) := by decide +kernel
theorem dX12_format_194 : decode cX12_format 194 = .ok (.aload_n 0, 1) := by decide +kernel
theorem dX12_format_195 : decode cX12_format 195 = .ok (.iconst 0, 1) := by decide +kernel
theorem dX12_format_196 : decode cX12_format 196 = .ok (.putfield 131, 3) := by decide +kernel
theorem dX12_format_199 : decode cX12_format 199 = .ok (.aload_n 0, 1) := by decide +kernel
theorem dX12_format_200 : decode cX12_format 200 = .ok (.iconst 0, 1) := by decide +kernel
theorem dX12_format_201 : decode cX12_format 201 = .ok (.putfield 122, 3) := by decide +kernel
theorem dX12_format_204 : decode cX12_format 204 = .ok (.aload_n 0, 1) := by decide +kernel
theorem dX12_format_205 : decode cX12_format 205 = .ok (.iconst 0, 1) := by decide +kernel
theorem dX12_format_206 : decode cX12_format 206 = .ok (.putfield 199, 3) := by decide +kernel
theorem dX12_format_209 : decode cX12_format 209 = .ok (.aload_n 0, 1) := by decide +kernel
theorem dX12_format_210 : decode cX12_format 210 = .ok (.iconst 0, 1) := by decide +kernel
theorem dX12_format_211 : decode cX12_format 211 = .ok (.putfield 208, 3) := by decide +kernel
theorem dX12_format_214 : decode cX12_format 214 = .ok (.aload_n 0, 1) := by decide +kernel
theorem dX12_format_215 : decode cX12_format 215 = .ok (.iconst 0, 1) := by decide +kernel
theorem dX12_format_216 : decode cX12_format 216 = .ok (.putfield 202, 3) := by decide +kernel
theorem dX12_format_219 : decode cX12_format 219 = .ok (.aload_n 0, 1) := by decide +kernel
theorem dX12_format_220 : decode cX12_format 220 = .ok (.iconst 0, 1) := by decide +kernel
theorem dX12_format_221 : decode cX12_format 221 = .ok (.putfield 119, 3) := by decide +kernel
theorem dX12_format_224 : decode cX12_format 224 = .ok (.aload_n 0, 1) := by decide +kernel
theorem dX12_format_225 : decode cX12_format 225 = .ok (.iconst 0, 1) := by decide +kernel
theorem dX12_format_226 : decode cX12_format 226 = .ok (.putfield 161, 3) := by decide +kernel
theorem dX12_format_229 : decode cX12_format 229 = .ok (.aload_n 0, 1) := by decide +kernel
theorem dX12_format_230 : decode cX12_format 230 = .ok (.iconst 0, 1) := by decide +kernel
theorem dX12_format_231 : decode cX12_format 231 = .ok (.putfield 217, 3) := by decide +kernel
theorem dX12_format_234 : decode cX12_format 234 = .ok (.aload_n 0, 1) := by decide +kernel
theorem dX12_format_235 : decode cX12_format 235 = .ok (.invokevirtual 187, 3) := by decide +kernel
theorem dX12_format_238 : decode cX12_format 238 = .ok (.iconst 0, 1) := by decide +kernel
theorem dX12_format_239 : decode cX12_format 239 = .ok (.istore_n 3, 1) := by decide +kernel
theorem dX12_format_240 : decode cX12_format 240 = .ok (.iload_n 3, 1) := by decide +kernel
theorem dX12_format_241 : decode cX12_format 241 = .ok (.aload_n 0, 1) := by decide +kernel
theorem dX12_format_242 : decode cX12_format 242 = .ok (.getfield 62, 3) := by decide +kernel
theorem dX12_format_245 : decode cX12_format 245 = .ok (.arraylength, 1) := by decide +kernel
theorem dX12_format_246 : decode cX12_format 246 = .ok (.if_icmp .ge 16, 3) := by decide +kernel
theorem dX12_format_249 : decode cX12_format 249 = .ok (.aload_n 0, 1) := by decide +kernel
theorem dX12_format_250 : decode cX12_format 250 = .ok (.getfield 62, 3) := by decide +kernel
theorem dX12_format_253 : decode cX12_format 253 = .ok (.iload_n 3, 1) := by decide +kernel
theorem dX12_format_254 : decode cX12_format 254 = .ok (.iconst 0, 1) := by decide +kernel
theorem dX12_format_255 : decode cX12_format 255 = .ok (.iastore, 1) := by decide +kernel
theorem dX12_format_256 : decode cX12_format 256 = .ok (.iinc 3 1, 3) := by decide +kernel
theorem dX12_format_259 : decode cX12_format 259 = .ok (.goto (-19), 3) := by decide +kernel
theorem dX12_format_262 : decode cX12_format 262 = .ok (.iconst 0, 1) := by decide +kernel
theorem dX12_format_263 : decode cX12_format 263 = .ok (.istore_n 3, 1) := by decide +kernel
theorem dX12_format_264 : decode cX12_format 264 = .ok (.iload_n 3, 1) := by decide +kernel
theorem dX12_format_265 : decode cX12_format 265 = .ok (.sipush 2000, 3) := by decide +kernel
theorem dX12_format_268 : decode cX12_format 268 = .ok (.if_icmp .ge 23, 3) := by decide +kernel
theorem dX12_format_271 : decode cX12_format 271 = .ok (.aload_n 0, 1) := by decide +kernel
theorem dX12_format_272 : decode cX12_format 272 = .ok (.getfield 244, 3) := by decide +kernel
theorem dX12_format_275 : decode cX12_format 275 = .ok (.iload_n 3, 1) := by decide +kernel
theorem dX12_format_276 : decode cX12_format 276 = .ok (.iconst 0, 1) := by decide +kernel
theorem dX12_format_277 : decode cX12_format 277 = .ok (.bastore, 1) := by decide +kernel
theorem dX12_format_278 : decode cX12_format 278 = .ok (.aload_n 0, 1) := by decide +kernel
theorem dX12_format_279 : decode cX12_format 279 = .ok (.getfield 190, 3) := by decide +kernel
theorem dX12_format_282 : decode cX12_format 282 = .ok (.iload_n 3, 1) := by decide +kernel
theorem dX12_format_283 : decode cX12_format 283 = .ok (.iconst 0, 1) := by decide +kernel
theorem dX12_format_284 : decode cX12_format 284 = .ok (.iastore, 1) := by decide +kernel
theorem dX12_format_285 : decode cX12_format 285 = .ok (.iinc 3 1, 3) := by decide +kernel
theorem dX12_format_288 : decode cX12_format 288 = .ok (.goto (-24), 3) := by decide +kernel
theorem dX12_format_291 : decode cX12_format 291 = .ok (.iconst 0, 1) := by decide +kernel
theorem dX12_format_292 : decode cX12_format 292 = .ok (.istore_n 3, 1) := by decide +kernel
theorem dX12_format_293 : decode cX12_format 293 = .ok (.iload_n 3, 1) := by decide +kernel
theorem dX12_format_294 : decode cX12_format 294 = .ok (.bipush 16, 2) := by decide +kernel
theorem dX12_format_296 : decode cX12_format 296 = .ok (.if_icmp .ge 16, 3) := by decide +kernel
theorem dX12_format_299 : decode cX12_format 299 = .ok (.aload_n 0, 1) := by decide +kernel
theorem dX12_format_300 : decode cX12_format 300 = .ok (.getfield 286, 3) := by decide +kernel
theorem dX12_format_303 : decode cX12_format 303 = .ok (.iload_n 3, 1) := by decide +kernel
theorem dX12_format_304 : decode cX12_format 304 = .ok (.iconst (-1), 1) := by decide +kernel
theorem dX12_format_305 : decode cX12_format 305 = .ok (.iastore, 1) := by decide +kernel
theorem dX12_format_306 : decode cX12_format 306 = .ok (.iinc 3 1, 3) := by decide +kernel
theorem dX12_format_309 : decode cX12_format 309 = .ok (.goto (-16), 3) := by decide +kernel
theorem dX12_format_312 : decode cX12_format 312 = .ok (.aload_n 0, 1) := by decide +kernel
theorem dX12_format_313 : decode cX12_format 313 = .ok (.getfield 346, 3) := by decide +kernel
theorem dX12_format_316 : decode cX12_format 316 = .ok (.iconst 0, 1) := by decide +kernel
theorem dX12_format_317 : decode cX12_format 317 = .ok (.iconst 0, 1) := by decide +kernel
theorem dX12_format_318 : decode cX12_format 318 = .ok (.iastore, 1) := by decide +kernel
theorem dX12_format_319 : decode cX12_format 319 = .ok (.aload_n 0, 1) := by decide +kernel
theorem dX12_format_320 : decode cX12_format 320 = .ok (.getfield 346, 3) := by decide +kernel
theorem dX12_format_323 : decode cX12_format 323 = .ok (.iconst 1, 1) := by decide +kernel
theorem dX12_format_324 : decode cX12_format 324 = .ok (.iconst 0, 1) := by decide +kernel
theorem dX12_format_325 : decode cX12_format 325 = .ok (.iastore, 1) := by decide +kernel
theorem dX12_format_326 : decode cX12_format 326 = .ok (.aload_n 0, 1) := by decide +kernel
theorem dX12_format_327 : decode cX12_format 327 = .ok (.iconst 0, 1) := by decide +kernel
theorem dX12_format_328 : decode cX12_format 328 = .ok (.putfield 400, 3) := by decide +kernel
theorem dX12_format_331 : decode cX12_format 331 = .ok (.aload_n 0, 1) := by decide +kernel
theorem dX12_format_332 : decode cX12_format 332 = .ok (.invokevirtual 164, 3) := by decide +kernel
theorem dX12_format_335 : decode cX12_format 335 = .ok (.ireturn, 1) := by decide +kernel
set_option maxRecDepth 100000 in
set_option maxHeartbeats 1000000 in
theorem j_X12_format_31 {p : Program} {l : Launch} {e : Env} {s : State} {m : MethodId} {args : Array Value} {below : List Frame} {meth : Method} {c : Code} {D : va_G} {aC : Nat → ClassId} {b0 fu : Nat} {σ0 τ : tM} {v : Int32}  (C : tCx p l s m args meth c yX12_format.cls cX12_format 5 (some .int) D aC b0 σ0) (htab : ∀ x ∈ c.exceptionTable.toList, False) (hin : meth.name = yX12_format.name)   {σ : tM} (hm : J_X12_format_31 b0 fu   σ = some (v, τ)) : tX p l e s m args below meth c 5 1 21 D aC b0 σ0 (.inl (some (.int v))) τ 31 [] [] σ := by
  unfold J_X12_format_31 at hm
  refine zx_bipush (v := (-9)) C dX12_format_31 (by decide) ?_
  obtain ⟨rfl, rfl⟩ := ret_e hm
  exact zx_iret C rfl rfl rfl dX12_format_33
set_option maxRecDepth 100000 in
set_option maxHeartbeats 1000000 in
theorem l_X12_format_293 {p : Program} {l : Launch} {e : Env} {s : State} {m : MethodId} {args : Array Value} {below : List Frame} {meth : Method} {c : Code} {D : va_G} {aC : Nat → ClassId} {b0 fu : Nat} {σ0 τ : tM} {v : Int32}  (C : tCx p l s m args meth c yX12_format.cls cX12_format 5 (some .int) D aC b0 σ0) (htab : ∀ x ∈ c.exceptionTable.toList, False) (hin : meth.name = yX12_format.name)  : ∀ (n : Nat) (x0 : Nat) (x3 : Int32) (σ : tM), L_X12_format_293 b0 fu  n x0 x3 σ = some (v, τ) → tX p l e s m args below meth c 5 1 21 D aC b0 σ0 (.inl (some (.int v))) τ 293 [(0, .ref (x0)), (3, .int (x3))] [] σ := by
  intro n
  induction n with
  | zero => intro x0 x3 σ hm; unfold L_X12_format_293 at hm; cases hm
  | succ n ih =>
    intro x0 x3 σ hm
    unfold L_X12_format_293 at hm
    obtain ⟨rc293, hrc⟩ : ∃ z, z = L_X12_format_293 b0 fu  n := ⟨_, rfl⟩
    replace hm := ltb_e hm hrc
    rw [← hrc] at ih
    have hrc293 := ih
    clear ih hrc
    refine zx_iload_n C dX12_format_293 1 rfl ?_
    refine zx_bipush (v := 16) C dX12_format_294 (by decide) ?_
    refine zx_icmp_ge C 312 dX12_format_296 (by decide) (fun c51 => ?_) (fun c51 => ?_)
    · replace hm := ip_e hm c51
      refine zx_aload_n C dX12_format_312 0 rfl ?_
      obtain ⟨k52, i53, hm⟩ := ckO_e hm
      obtain ⟨a54, h55, hm⟩ := osm_e hm
      refine zx_get (j := 48) C tC_11 k52 i53 ⟨by decide, Or.inl W_7_27⟩ dX12_format_313 (.ref a54) (rf_s h55) ?_
      refine zx_iconst (v := 0) C dX12_format_316 (by decide) ?_
      refine zx_iconst (v := 0) C dX12_format_317 (by decide) ?_
      obtain ⟨n58, k56, i57, hm⟩ := ckR_e hm
      obtain ⟨h59, hm⟩ := ckI_e hm
      refine zx_iast C k56 i57 h59 dX12_format_318 ?_
      refine zx_aload_n C dX12_format_319 0 rfl ?_
      obtain ⟨a60, h61, hm⟩ := osm_e hm
      refine zx_get (j := 48) C tC_11 k52 i53 ⟨by decide, Or.inl W_7_27⟩ dX12_format_320 (.ref a60) (rf_s h61) ?_
      refine zx_iconst (v := 1) C dX12_format_323 (by decide) ?_
      refine zx_iconst (v := 0) C dX12_format_324 (by decide) ?_
      obtain ⟨n64, k62, i63, hm⟩ := ckR_e hm
      obtain ⟨h65, hm⟩ := ckI_e hm
      refine zx_iast C k62 i63 h65 dX12_format_325 ?_
      refine zx_aload_n C dX12_format_326 0 rfl ?_
      refine zx_iconst (v := 0) C dX12_format_327 (by decide) ?_
      refine zx_put (j := 57) (ρ := sI (sI (sI (σ) (a54) (((0 : Int32)).toNatClampNeg) (0)) (a60) (((1 : Int32)).toNatClampNeg) (0)) (x0) 57 (0)) C tC_11 k52 i53 ⟨by decide, Or.inl W_7_36⟩ rfl rfl rfl (sI_ok (fun _ => rfl)) dX12_format_328 ?_
      refine zx_aload_n C dX12_format_331 0 rfl ?_
      obtain ⟨v66, ρ67, h68, hm⟩ := cll_e hm
      refine zx_callV (σ := sI (sI (sI (σ) (a54) (((0 : Int32)).toNatClampNeg) (0)) (a60) (((1 : Int32)).toNatClampNeg) (0)) (x0) 57 (0)) C [] tC_11 k52 i53 Y_X12_blocks W_6_216 W_6_218 Wp_55 (c_X12_blocks h68) (by decide) (by decide) rfl (Nat.le_of_ble_eq_true rfl) dX12_format_332 rfl ?_
      obtain ⟨rfl, rfl⟩ := ret_e hm
      exact zx_iret C rfl rfl rfl dX12_format_335
    · replace hm := in_e hm c51
      refine zx_aload_n C dX12_format_299 0 rfl ?_
      obtain ⟨k69, i70, hm⟩ := ckO_e hm
      obtain ⟨a71, h72, hm⟩ := osm_e hm
      refine zx_get (j := 58) C tC_11 k69 i70 ⟨by decide, Or.inl W_7_37⟩ dX12_format_300 (.ref a71) (rf_s h72) ?_
      refine zx_iload_n C dX12_format_303 1 rfl ?_
      refine zx_iconst (v := (-1)) C dX12_format_304 (by decide) ?_
      obtain ⟨n75, k73, i74, hm⟩ := ckR_e hm
      obtain ⟨h76, hm⟩ := ckI_e hm
      refine zx_iast C k73 i74 h76 dX12_format_305 ?_
      obtain ⟨y77, hy77⟩ : ∃ z : Int32, z = (x3) + Int32.ofInt 1 := ⟨_, rfl⟩
      replace hm := ltb_e hm hy77
      refine zx_iinc C [(3, .int (y77)), (0, .ref (x0))] dX12_format_306 1 rfl hy77.symm (by decide) rfl ?_
      refine zx_goto C 293 dX12_format_309 (by decide) ?_
      exact zx_lv [1, 0] [(0, .ref (x0)), (3, .int (y77))] rfl (hrc293 _ _ _ hm)
set_option maxRecDepth 100000 in
set_option maxHeartbeats 1000000 in
theorem l_X12_format_264 {p : Program} {l : Launch} {e : Env} {s : State} {m : MethodId} {args : Array Value} {below : List Frame} {meth : Method} {c : Code} {D : va_G} {aC : Nat → ClassId} {b0 fu : Nat} {σ0 τ : tM} {v : Int32}  (C : tCx p l s m args meth c yX12_format.cls cX12_format 5 (some .int) D aC b0 σ0) (htab : ∀ x ∈ c.exceptionTable.toList, False) (hin : meth.name = yX12_format.name)  : ∀ (n : Nat) (x0 : Nat) (x3 : Int32) (σ : tM), L_X12_format_264 b0 fu  n x0 x3 σ = some (v, τ) → tX p l e s m args below meth c 5 1 21 D aC b0 σ0 (.inl (some (.int v))) τ 264 [(0, .ref (x0)), (3, .int (x3))] [] σ := by
  intro n
  induction n with
  | zero => intro x0 x3 σ hm; unfold L_X12_format_264 at hm; cases hm
  | succ n ih =>
    intro x0 x3 σ hm
    unfold L_X12_format_264 at hm
    obtain ⟨rc264, hrc⟩ : ∃ z, z = L_X12_format_264 b0 fu  n := ⟨_, rfl⟩
    replace hm := ltb_e hm hrc
    rw [← hrc] at ih
    have hrc264 := ih
    clear ih hrc
    refine zx_iload_n C dX12_format_264 1 rfl ?_
    refine zx_sipush (v := 2000) C dX12_format_265 (by decide) ?_
    refine zx_icmp_ge C 291 dX12_format_268 (by decide) (fun c50 => ?_) (fun c50 => ?_)
    · replace hm := ip_e hm c50
      refine zx_iconst (v := 0) C dX12_format_291 (by decide) ?_
      refine zx_istore_n C [(3, .int (0)), (0, .ref (x0))] dX12_format_292 rfl (by decide) rfl ?_
      exact zx_lv [1, 0] [(0, .ref (x0)), (3, .int (0))] rfl (l_X12_format_293 C htab hin  _ _ _ _ hm)
    · replace hm := in_e hm c50
      refine zx_aload_n C dX12_format_271 0 rfl ?_
      obtain ⟨k78, i79, hm⟩ := ckO_e hm
      obtain ⟨a80, h81, hm⟩ := osm_e hm
      refine zx_get (j := 23) C tC_11 k78 i79 ⟨by decide, Or.inl W_7_2⟩ dX12_format_272 (.ref a80) (rf_s h81) ?_
      refine zx_iload_n C dX12_format_275 1 rfl ?_
      refine zx_iconst (v := 0) C dX12_format_276 (by decide) ?_
      obtain ⟨n84, k82, i83, hm⟩ := ckR_e hm
      obtain ⟨h85, hm⟩ := ckI_e hm
      refine zx_zast C k82 i83 h85 dX12_format_277 ?_
      refine zx_aload_n C dX12_format_278 0 rfl ?_
      obtain ⟨a86, h87, hm⟩ := osm_e hm
      refine zx_get (j := 24) C tC_11 k78 i79 ⟨by decide, Or.inl W_7_3⟩ dX12_format_279 (.ref a86) (rf_s h87) ?_
      refine zx_iload_n C dX12_format_282 1 rfl ?_
      refine zx_iconst (v := 0) C dX12_format_283 (by decide) ?_
      obtain ⟨n90, k88, i89, hm⟩ := ckR_e hm
      obtain ⟨h91, hm⟩ := ckI_e hm
      refine zx_iast C k88 i89 h91 dX12_format_284 ?_
      obtain ⟨y92, hy92⟩ : ∃ z : Int32, z = (x3) + Int32.ofInt 1 := ⟨_, rfl⟩
      replace hm := ltb_e hm hy92
      refine zx_iinc C [(3, .int (y92)), (0, .ref (x0))] dX12_format_285 1 rfl hy92.symm (by decide) rfl ?_
      refine zx_goto C 264 dX12_format_288 (by decide) ?_
      exact zx_lv [1, 0] [(0, .ref (x0)), (3, .int (y92))] rfl (hrc264 _ _ _ hm)
set_option maxRecDepth 100000 in
set_option maxHeartbeats 1000000 in
theorem l_X12_format_240 {p : Program} {l : Launch} {e : Env} {s : State} {m : MethodId} {args : Array Value} {below : List Frame} {meth : Method} {c : Code} {D : va_G} {aC : Nat → ClassId} {b0 fu : Nat} {σ0 τ : tM} {v : Int32}  (C : tCx p l s m args meth c yX12_format.cls cX12_format 5 (some .int) D aC b0 σ0) (htab : ∀ x ∈ c.exceptionTable.toList, False) (hin : meth.name = yX12_format.name)  : ∀ (n : Nat) (x0 : Nat) (x3 : Int32) (σ : tM), L_X12_format_240 b0 fu  n x0 x3 σ = some (v, τ) → tX p l e s m args below meth c 5 1 21 D aC b0 σ0 (.inl (some (.int v))) τ 240 [(0, .ref (x0)), (3, .int (x3))] [] σ := by
  intro n
  induction n with
  | zero => intro x0 x3 σ hm; unfold L_X12_format_240 at hm; cases hm
  | succ n ih =>
    intro x0 x3 σ hm
    unfold L_X12_format_240 at hm
    obtain ⟨rc240, hrc⟩ : ∃ z, z = L_X12_format_240 b0 fu  n := ⟨_, rfl⟩
    replace hm := ltb_e hm hrc
    rw [← hrc] at ih
    have hrc240 := ih
    clear ih hrc
    refine zx_iload_n C dX12_format_240 1 rfl ?_
    refine zx_aload_n C dX12_format_241 0 rfl ?_
    obtain ⟨k42, i43, hm⟩ := ckO_e hm
    obtain ⟨a44, h45, hm⟩ := osm_e hm
    refine zx_get (j := 17) C tC_11 k42 i43 ⟨by decide, Or.inl W_6_236⟩ dX12_format_242 (.ref a44) (rf_s h45) ?_
    obtain ⟨n48, k46, i47, hm⟩ := ckR_e hm
    refine zx_alen C k46 (by decide) i47 dX12_format_245 ?_
    refine zx_icmp_ge C 262 dX12_format_246 (by decide) (fun c49 => ?_) (fun c49 => ?_)
    · replace hm := ip_e hm c49
      refine zx_iconst (v := 0) C dX12_format_262 (by decide) ?_
      refine zx_istore_n C [(3, .int (0)), (0, .ref (x0))] dX12_format_263 rfl (by decide) rfl ?_
      exact zx_lv [1, 0] [(0, .ref (x0)), (3, .int (0))] rfl (l_X12_format_264 C htab hin  _ _ _ _ hm)
    · replace hm := in_e hm c49
      refine zx_aload_n C dX12_format_249 0 rfl ?_
      obtain ⟨a93, h94, hm⟩ := osm_e hm
      refine zx_get (j := 17) C tC_11 k42 i43 ⟨by decide, Or.inl W_6_236⟩ dX12_format_250 (.ref a93) (rf_s h94) ?_
      refine zx_iload_n C dX12_format_253 1 rfl ?_
      refine zx_iconst (v := 0) C dX12_format_254 (by decide) ?_
      obtain ⟨n97, k95, i96, hm⟩ := ckR_e hm
      obtain ⟨h98, hm⟩ := ckI_e hm
      refine zx_iast C k95 i96 h98 dX12_format_255 ?_
      obtain ⟨y99, hy99⟩ : ∃ z : Int32, z = (x3) + Int32.ofInt 1 := ⟨_, rfl⟩
      replace hm := ltb_e hm hy99
      refine zx_iinc C [(3, .int (y99)), (0, .ref (x0))] dX12_format_256 1 rfl hy99.symm (by decide) rfl ?_
      refine zx_goto C 240 dX12_format_259 (by decide) ?_
      exact zx_lv [1, 0] [(0, .ref (x0)), (3, .int (y99))] rfl (hrc240 _ _ _ hm)
set_option maxRecDepth 100000 in
set_option maxHeartbeats 1000000 in
theorem j_X12_format_234 {p : Program} {l : Launch} {e : Env} {s : State} {m : MethodId} {args : Array Value} {below : List Frame} {meth : Method} {c : Code} {D : va_G} {aC : Nat → ClassId} {b0 fu : Nat} {σ0 τ : tM} {v : Int32}  (C : tCx p l s m args meth c yX12_format.cls cX12_format 5 (some .int) D aC b0 σ0) (htab : ∀ x ∈ c.exceptionTable.toList, False) (hin : meth.name = yX12_format.name)  {x0 : Nat} {σ : tM} (hm : J_X12_format_234 b0 fu  x0 σ = some (v, τ)) : tX p l e s m args below meth c 5 1 21 D aC b0 σ0 (.inl (some (.int v))) τ 234 [(0, .ref (x0))] [] σ := by
  unfold J_X12_format_234 at hm
  refine zx_aload_n C dX12_format_234 0 rfl ?_
  obtain ⟨k37, i38, hm⟩ := ckO_e hm
  obtain ⟨v39, ρ40, h41, hm⟩ := cll_e hm
  refine zx_callV (σ := σ) C [] tC_11 k37 i38 Y_X12_emptyGroup W_6_212 W_6_214 Wp_54 (c_X12_emptyGroup h41) (by decide) (by decide) rfl (Nat.le_of_ble_eq_true rfl) dX12_format_235 rfl ?_
  refine zx_iconst (v := 0) C dX12_format_238 (by decide) ?_
  refine zx_istore_n C [(3, .int (0)), (0, .ref (x0))] dX12_format_239 rfl (by decide) rfl ?_
  exact zx_lv [1, 0] [(0, .ref (x0)), (3, .int (0))] rfl (l_X12_format_240 C htab hin  _ _ _ _ hm)
set_option maxRecDepth 100000 in
set_option maxHeartbeats 1000000 in
theorem j_X12_format_184 {p : Program} {l : Launch} {e : Env} {s : State} {m : MethodId} {args : Array Value} {below : List Frame} {meth : Method} {c : Code} {D : va_G} {aC : Nat → ClassId} {b0 fu : Nat} {σ0 τ : tM} {v : Int32}  (C : tCx p l s m args meth c yX12_format.cls cX12_format 5 (some .int) D aC b0 σ0) (htab : ∀ x ∈ c.exceptionTable.toList, False) (hin : meth.name = yX12_format.name)  {x0 : Nat} {σ : tM} (hm : J_X12_format_184 b0 fu  x0 σ = some (v, τ)) : tX p l e s m args below meth c 5 1 21 D aC b0 σ0 (.inl (some (.int v))) τ 184 [(0, .ref (x0))] [] σ := by
  unfold J_X12_format_184 at hm
  refine zx_aload_n C dX12_format_184 0 rfl ?_
  refine zx_iconst (v := 0) C dX12_format_185 (by decide) ?_
  obtain ⟨k32, i33, hm⟩ := ckO_e hm
  refine zx_put (j := 35) (ρ := sI (σ) (x0) 35 (0)) C tC_11 k32 i33 ⟨by decide, Or.inl W_7_14⟩ rfl rfl rfl (sI_ok (fun _ => rfl)) dX12_format_186 ?_
  refine zx_aload_n C dX12_format_189 0 rfl ?_
  refine zx_iconst (v := 0) C dX12_format_190 (by decide) ?_
  refine zx_put (j := 36) (ρ := sI (sI (σ) (x0) 35 (0)) (x0) 36 (0)) C tC_11 k32 i33 ⟨by decide, Or.inl W_7_15⟩ rfl rfl rfl (sI_ok (fun _ => rfl)) dX12_format_191 ?_
  refine zx_aload_n C dX12_format_194 0 rfl ?_
  refine zx_iconst (v := 0) C dX12_format_195 (by decide) ?_
  refine zx_put (j := 45) (ρ := sI (sI (sI (σ) (x0) 35 (0)) (x0) 36 (0)) (x0) 45 (0)) C tC_11 k32 i33 ⟨by decide, Or.inl W_7_24⟩ rfl rfl rfl (sI_ok (fun _ => rfl)) dX12_format_196 ?_
  refine zx_aload_n C dX12_format_199 0 rfl ?_
  refine zx_iconst (v := 0) C dX12_format_200 (by decide) ?_
  refine zx_put (j := 28) (ρ := sI (sI (sI (sI (σ) (x0) 35 (0)) (x0) 36 (0)) (x0) 45 (0)) (x0) 28 (0)) C tC_11 k32 i33 ⟨by decide, Or.inl W_7_7⟩ rfl rfl rfl (sI_ok (fun _ => rfl)) dX12_format_201 ?_
  refine zx_aload_n C dX12_format_204 0 rfl ?_
  refine zx_iconst (v := 0) C dX12_format_205 (by decide) ?_
  refine zx_put (j := 29) (ρ := sI (sI (sI (sI (sI (σ) (x0) 35 (0)) (x0) 36 (0)) (x0) 45 (0)) (x0) 28 (0)) (x0) 29 (0)) C tC_11 k32 i33 ⟨by decide, Or.inl W_7_8⟩ rfl rfl rfl (sI_ok (fun _ => rfl)) dX12_format_206 ?_
  refine zx_aload_n C dX12_format_209 0 rfl ?_
  refine zx_iconst (v := 0) C dX12_format_210 (by decide) ?_
  refine zx_put (j := 30) (ρ := sI (sI (sI (sI (sI (sI (σ) (x0) 35 (0)) (x0) 36 (0)) (x0) 45 (0)) (x0) 28 (0)) (x0) 29 (0)) (x0) 30 (0)) C tC_11 k32 i33 ⟨by decide, Or.inl W_7_9⟩ rfl rfl rfl (sI_ok (fun _ => rfl)) dX12_format_211 ?_
  refine zx_aload_n C dX12_format_214 0 rfl ?_
  refine zx_iconst (v := 0) C dX12_format_215 (by decide) ?_
  refine zx_put (j := 31) (ρ := sI (sI (sI (sI (sI (sI (sI (σ) (x0) 35 (0)) (x0) 36 (0)) (x0) 45 (0)) (x0) 28 (0)) (x0) 29 (0)) (x0) 30 (0)) (x0) 31 (0)) C tC_11 k32 i33 ⟨by decide, Or.inl W_7_10⟩ rfl rfl rfl (sI_ok (fun _ => rfl)) dX12_format_216 ?_
  refine zx_aload_n C dX12_format_219 0 rfl ?_
  refine zx_iconst (v := 0) C dX12_format_220 (by decide) ?_
  refine zx_put (j := 32) (ρ := sI (sI (sI (sI (sI (sI (sI (sI (σ) (x0) 35 (0)) (x0) 36 (0)) (x0) 45 (0)) (x0) 28 (0)) (x0) 29 (0)) (x0) 30 (0)) (x0) 31 (0)) (x0) 32 (0)) C tC_11 k32 i33 ⟨by decide, Or.inl W_7_11⟩ rfl rfl rfl (sI_ok (fun _ => rfl)) dX12_format_221 ?_
  refine zx_aload_n C dX12_format_224 0 rfl ?_
  refine zx_iconst (v := 0) C dX12_format_225 (by decide) ?_
  refine zx_put (j := 33) (ρ := sI (sI (sI (sI (sI (sI (sI (sI (sI (σ) (x0) 35 (0)) (x0) 36 (0)) (x0) 45 (0)) (x0) 28 (0)) (x0) 29 (0)) (x0) 30 (0)) (x0) 31 (0)) (x0) 32 (0)) (x0) 33 (0)) C tC_11 k32 i33 ⟨by decide, Or.inl W_7_12⟩ rfl rfl rfl (sI_ok (fun _ => rfl)) dX12_format_226 ?_
  refine zx_mem (fun ρ34 hρ34 => ?_)
  replace hm := ltb_e hm hρ34
  have k35 : tk ρ34 (x0) = .inl 11 := by rw [hρ34]; exact k32
  have i36 : tIn b0 ρ34 (x0) := by rw [hρ34]; exact i33
  refine zx_aload_n C dX12_format_229 0 rfl ?_
  refine zx_iconst (v := 0) C dX12_format_230 (by decide) ?_
  refine zx_put (j := 46) (ρ := sI (ρ34) (x0) 46 (0)) C tC_11 k35 i36 ⟨by decide, Or.inl W_7_25⟩ rfl rfl rfl (sI_ok (fun _ => rfl)) dX12_format_231 ?_
  exact zx_lv [0] [(0, .ref (x0))] rfl (j_X12_format_234 C htab hin    hm)
set_option maxRecDepth 100000 in
set_option maxHeartbeats 1000000 in
theorem l_X12_format_132 {p : Program} {l : Launch} {e : Env} {s : State} {m : MethodId} {args : Array Value} {below : List Frame} {meth : Method} {c : Code} {D : va_G} {aC : Nat → ClassId} {b0 fu : Nat} {σ0 τ : tM} {v : Int32}  (C : tCx p l s m args meth c yX12_format.cls cX12_format 5 (some .int) D aC b0 σ0) (htab : ∀ x ∈ c.exceptionTable.toList, False) (hin : meth.name = yX12_format.name)  : ∀ (n : Nat) (x0 : Nat) (x3 : Int32) (σ : tM), L_X12_format_132 b0 fu  n x0 x3 σ = some (v, τ) → tX p l e s m args below meth c 5 1 21 D aC b0 σ0 (.inl (some (.int v))) τ 132 [(0, .ref (x0)), (3, .int (x3))] [] σ := by
  intro n
  induction n with
  | zero => intro x0 x3 σ hm; unfold L_X12_format_132 at hm; cases hm
  | succ n ih =>
    intro x0 x3 σ hm
    unfold L_X12_format_132 at hm
    obtain ⟨rc132, hrc⟩ : ∃ z, z = L_X12_format_132 b0 fu  n := ⟨_, rfl⟩
    replace hm := ltb_e hm hrc
    rw [← hrc] at ih
    have hrc132 := ih
    clear ih hrc
    refine zx_iload_n C dX12_format_132 1 rfl ?_
    refine zx_aload_n C dX12_format_133 0 rfl ?_
    obtain ⟨k24, i25, hm⟩ := ckO_e hm
    obtain ⟨a26, h27, hm⟩ := osm_e hm
    refine zx_get (j := 8) C tC_11 k24 i25 ⟨by decide, Or.inl W_6_227⟩ dX12_format_134 (.ref a26) (rf_s h27) ?_
    obtain ⟨n30, k28, i29, hm⟩ := ckR_e hm
    refine zx_alen C k28 (by decide) i29 dX12_format_137 ?_
    refine zx_icmp_ge C 154 dX12_format_138 (by decide) (fun c31 => ?_) (fun c31 => ?_)
    · replace hm := ip_e hm c31
      refine zx_aload_n C dX12_format_154 0 rfl ?_
      refine zx_iconst (v := 0) C dX12_format_155 (by decide) ?_
      refine zx_put (j := 15) (ρ := sI (σ) (x0) 15 (0)) C tC_11 k24 i25 ⟨by decide, Or.inl W_6_234⟩ rfl rfl rfl (sI_ok (fun _ => rfl)) dX12_format_156 ?_
      refine zx_aload_n C dX12_format_159 0 rfl ?_
      refine zx_iconst (v := 0) C dX12_format_160 (by decide) ?_
      refine zx_put (j := 16) (ρ := sI (sI (σ) (x0) 15 (0)) (x0) 16 (0)) C tC_11 k24 i25 ⟨by decide, Or.inl W_6_235⟩ rfl rfl rfl (sI_ok (fun _ => rfl)) dX12_format_161 ?_
      refine zx_aload_n C dX12_format_164 0 rfl ?_
      refine zx_iconst (v := 1) C dX12_format_165 (by decide) ?_
      refine zx_put (j := 18) (ρ := sI (sI (sI (σ) (x0) 15 (0)) (x0) 16 (0)) (x0) 18 (1)) C tC_11 k24 i25 ⟨by decide, Or.inl W_6_237⟩ rfl rfl rfl (sI_ok (fun _ => rfl)) dX12_format_166 ?_
      refine zx_aload_n C dX12_format_169 0 rfl ?_
      refine zx_iconst (v := (-1)) C dX12_format_170 (by decide) ?_
      refine zx_put (j := 19) (ρ := sI (sI (sI (sI (σ) (x0) 15 (0)) (x0) 16 (0)) (x0) 18 (1)) (x0) 19 ((-1))) C tC_11 k24 i25 ⟨by decide, Or.inl W_6_238⟩ rfl rfl rfl (sI_ok (fun _ => rfl)) dX12_format_171 ?_
      refine zx_aload_n C dX12_format_174 0 rfl ?_
      refine zx_iconst (v := 0) C dX12_format_175 (by decide) ?_
      refine zx_put (j := 20) (ρ := sI (sI (sI (sI (sI (σ) (x0) 15 (0)) (x0) 16 (0)) (x0) 18 (1)) (x0) 19 ((-1))) (x0) 20 (0)) C tC_11 k24 i25 ⟨by decide, Or.inl W_6_239⟩ rfl rfl rfl (sI_ok (fun _ => rfl)) dX12_format_176 ?_
      refine zx_aload_n C dX12_format_179 0 rfl ?_
      refine zx_iconst (v := 0) C dX12_format_180 (by decide) ?_
      refine zx_put (j := 21) (ρ := sI (sI (sI (sI (sI (sI (σ) (x0) 15 (0)) (x0) 16 (0)) (x0) 18 (1)) (x0) 19 ((-1))) (x0) 20 (0)) (x0) 21 (0)) C tC_11 k24 i25 ⟨by decide, Or.inl W_7_0⟩ rfl rfl rfl (sI_ok (fun _ => rfl)) dX12_format_181 ?_
      exact zx_lv [0] [(0, .ref (x0))] rfl (j_X12_format_184 C htab hin    hm)
    · replace hm := in_e hm c31
      refine zx_aload_n C dX12_format_141 0 rfl ?_
      obtain ⟨a100, h101, hm⟩ := osm_e hm
      refine zx_get (j := 8) C tC_11 k24 i25 ⟨by decide, Or.inl W_6_227⟩ dX12_format_142 (.ref a100) (rf_s h101) ?_
      refine zx_iload_n C dX12_format_145 1 rfl ?_
      refine zx_iconst (v := 0) C dX12_format_146 (by decide) ?_
      obtain ⟨n104, k102, i103, hm⟩ := ckR_e hm
      obtain ⟨h105, hm⟩ := ckI_e hm
      refine zx_iast C k102 i103 h105 dX12_format_147 ?_
      obtain ⟨y106, hy106⟩ : ∃ z : Int32, z = (x3) + Int32.ofInt 1 := ⟨_, rfl⟩
      replace hm := ltb_e hm hy106
      refine zx_iinc C [(3, .int (y106)), (0, .ref (x0))] dX12_format_148 1 rfl hy106.symm (by decide) rfl ?_
      refine zx_goto C 132 dX12_format_151 (by decide) ?_
      exact zx_lv [1, 0] [(0, .ref (x0)), (3, .int (y106))] rfl (hrc132 _ _ _ hm)
set_option maxRecDepth 100000 in
set_option maxHeartbeats 1000000 in
theorem l_X12_format_80 {p : Program} {l : Launch} {e : Env} {s : State} {m : MethodId} {args : Array Value} {below : List Frame} {meth : Method} {c : Code} {D : va_G} {aC : Nat → ClassId} {b0 fu : Nat} {σ0 τ : tM} {v : Int32} {rc70 : Nat → Int32 → tM → Option ((Int32) × tM)} (C : tCx p l s m args meth c yX12_format.cls cX12_format 5 (some .int) D aC b0 σ0) (htab : ∀ x ∈ c.exceptionTable.toList, False) (hin : meth.name = yX12_format.name) (hrc70 : ∀ (x0 : Nat) (x3 : Int32) (ρ : tM), rc70 x0 x3 ρ = some (v, τ) → tX p l e s m args below meth c 5 1 21 D aC b0 σ0 (.inl (some (.int v))) τ 70 [(0, .ref (x0)), (3, .int (x3))] [] ρ) : ∀ (n : Nat) (x0 : Nat) (x3 : Int32) (x4 : Int32) (σ : tM), L_X12_format_80 b0 fu rc70 n x0 x3 x4 σ = some (v, τ) → tX p l e s m args below meth c 5 1 21 D aC b0 σ0 (.inl (some (.int v))) τ 80 [(0, .ref (x0)), (3, .int (x3)), (4, .int (x4))] [] σ := by
  intro n
  induction n with
  | zero => intro x0 x3 x4 σ hm; unfold L_X12_format_80 at hm; cases hm
  | succ n ih =>
    intro x0 x3 x4 σ hm
    unfold L_X12_format_80 at hm
    obtain ⟨rc80, hrc⟩ : ∃ z, z = L_X12_format_80 b0 fu rc70 n := ⟨_, rfl⟩
    replace hm := ltb_e hm hrc
    rw [← hrc] at ih
    have hrc80 := ih
    clear ih hrc
    refine zx_iload C dX12_format_80 2 rfl ?_
    refine zx_bipush (v := 8) C dX12_format_82 (by decide) ?_
    refine zx_icmp_ge C 112 dX12_format_84 (by decide) (fun c107 => ?_) (fun c107 => ?_)
    · replace hm := ip_e hm c107
      obtain ⟨y108, hy108⟩ : ∃ z : Int32, z = (x3) + Int32.ofInt 1 := ⟨_, rfl⟩
      replace hm := ltb_e hm hy108
      refine zx_iinc C [(3, .int (y108)), (0, .ref (x0)), (4, .int (x4))] dX12_format_112 1 rfl hy108.symm (by decide) rfl ?_
      refine zx_goto C 70 dX12_format_115 (by decide) ?_
      exact zx_lv [1, 0] [(0, .ref (x0)), (3, .int (y108))] rfl (hrc70 _ _ _ hm)
    · replace hm := in_e hm c107
      refine zx_aload_n C dX12_format_87 0 rfl ?_
      obtain ⟨k109, i110, hm⟩ := ckO_e hm
      obtain ⟨a111, h112, hm⟩ := osm_e hm
      refine zx_get (j := 1) C tC_11 k109 i110 ⟨by decide, Or.inl W_6_221⟩ dX12_format_88 (.ref a111) (rf_s h112) ?_
      refine zx_iload_n C dX12_format_91 1 rfl ?_
      refine zx_bipush (v := 34) C dX12_format_92 (by decide) ?_
      refine zx_iload C dX12_format_94 2 rfl ?_
      refine zx_bipush (v := 30) C dX12_format_96 (by decide) ?_
      refine zx_imul C dX12_format_98 ?_
      refine zx_iadd C dX12_format_99 ?_
      obtain ⟨v113, ρ114, h115, hm⟩ := cll_e hm
      refine zx_callS (σ := σ) C [.int (x3), .int ((34) + ((x4) * (30)))] Y_X12_room W_6_209 W_6_210 (c_X12_room h115) (by decide) (by decide) rfl (Nat.le_of_ble_eq_true rfl) dX12_format_100 rfl ?_
      refine zx_bipush (v := 64) C dX12_format_103 (by decide) ?_
      obtain ⟨n118, k116, i117, hm⟩ := ckR_e hm
      obtain ⟨h119, hm⟩ := ckI_e hm
      refine zx_iast C k116 i117 h119 dX12_format_105 ?_
      obtain ⟨y120, hy120⟩ : ∃ z : Int32, z = (x4) + Int32.ofInt 1 := ⟨_, rfl⟩
      replace hm := ltb_e hm hy120
      refine zx_iinc C [(4, .int (y120)), (0, .ref (x0)), (3, .int (x3))] dX12_format_106 2 rfl hy120.symm (by decide) rfl ?_
      refine zx_goto C 80 dX12_format_109 (by decide) ?_
      exact zx_lv [1, 2, 0] [(0, .ref (x0)), (3, .int (x3)), (4, .int (y120))] rfl (hrc80 _ _ _ _ hm)
set_option maxRecDepth 100000 in
set_option maxHeartbeats 1000000 in
theorem l_X12_format_70 {p : Program} {l : Launch} {e : Env} {s : State} {m : MethodId} {args : Array Value} {below : List Frame} {meth : Method} {c : Code} {D : va_G} {aC : Nat → ClassId} {b0 fu : Nat} {σ0 τ : tM} {v : Int32}  (C : tCx p l s m args meth c yX12_format.cls cX12_format 5 (some .int) D aC b0 σ0) (htab : ∀ x ∈ c.exceptionTable.toList, False) (hin : meth.name = yX12_format.name)  : ∀ (n : Nat) (x0 : Nat) (x3 : Int32) (σ : tM), L_X12_format_70 b0 fu  n x0 x3 σ = some (v, τ) → tX p l e s m args below meth c 5 1 21 D aC b0 σ0 (.inl (some (.int v))) τ 70 [(0, .ref (x0)), (3, .int (x3))] [] σ := by
  intro n
  induction n with
  | zero => intro x0 x3 σ hm; unfold L_X12_format_70 at hm; cases hm
  | succ n ih =>
    intro x0 x3 σ hm
    unfold L_X12_format_70 at hm
    obtain ⟨rc70, hrc⟩ : ∃ z, z = L_X12_format_70 b0 fu  n := ⟨_, rfl⟩
    replace hm := ltb_e hm hrc
    rw [← hrc] at ih
    have hrc70 := ih
    clear ih hrc
    refine zx_iload_n C dX12_format_70 1 rfl ?_
    refine zx_sipush (v := 2000) C dX12_format_71 (by decide) ?_
    refine zx_icmp_ge C 118 dX12_format_74 (by decide) (fun c15 => ?_) (fun c15 => ?_)
    · replace hm := ip_e hm c15
      refine zx_aload_n C dX12_format_118 0 rfl ?_
      obtain ⟨k16, i17, hm⟩ := ckO_e hm
      obtain ⟨a18, h19, hm⟩ := osm_e hm
      refine zx_get (j := 1) C tC_11 k16 i17 ⟨by decide, Or.inl W_6_221⟩ dX12_format_119 (.ref a18) (rf_s h19) ?_
      refine zx_iconst (v := 0) C dX12_format_122 (by decide) ?_
      refine zx_iconst (v := 2) C dX12_format_123 (by decide) ?_
      obtain ⟨n22, k20, i21, hm⟩ := ckR_e hm
      obtain ⟨h23, hm⟩ := ckI_e hm
      refine zx_iast C k20 i21 h23 dX12_format_124 ?_
      refine zx_aload_n C dX12_format_125 0 rfl ?_
      refine zx_iconst (v := 0) C dX12_format_126 (by decide) ?_
      refine zx_put (j := 4) (ρ := sI (sI (σ) (a18) (((0 : Int32)).toNatClampNeg) (2)) (x0) 4 (0)) C tC_11 k16 i17 ⟨by decide, Or.inl W_6_224⟩ rfl rfl rfl (sI_ok (fun _ => rfl)) dX12_format_127 ?_
      refine zx_iconst (v := 0) C dX12_format_130 (by decide) ?_
      refine zx_istore_n C [(3, .int (0)), (0, .ref (x0))] dX12_format_131 rfl (by decide) rfl ?_
      exact zx_lv [1, 0] [(0, .ref (x0)), (3, .int (0))] rfl (l_X12_format_132 C htab hin  _ _ _ _ hm)
    · replace hm := in_e hm c15
      refine zx_iconst (v := 0) C dX12_format_77 (by decide) ?_
      refine zx_istore C [(4, .int (0)), (0, .ref (x0)), (3, .int (x3))] dX12_format_78 (by decide) rfl ?_
      exact zx_lv [1, 2, 0] [(0, .ref (x0)), (3, .int (x3)), (4, .int (0))] rfl (l_X12_format_80 C htab hin hrc70 _ _ _ _ _ hm)
set_option maxRecDepth 100000 in
set_option maxHeartbeats 1000000 in
theorem l_X12_format_46 {p : Program} {l : Launch} {e : Env} {s : State} {m : MethodId} {args : Array Value} {below : List Frame} {meth : Method} {c : Code} {D : va_G} {aC : Nat → ClassId} {b0 fu : Nat} {σ0 τ : tM} {v : Int32}  (C : tCx p l s m args meth c yX12_format.cls cX12_format 5 (some .int) D aC b0 σ0) (htab : ∀ x ∈ c.exceptionTable.toList, False) (hin : meth.name = yX12_format.name)  : ∀ (n : Nat) (x0 : Nat) (x3 : Int32) (σ : tM), L_X12_format_46 b0 fu  n x0 x3 σ = some (v, τ) → tX p l e s m args below meth c 5 1 21 D aC b0 σ0 (.inl (some (.int v))) τ 46 [(0, .ref (x0)), (3, .int (x3))] [] σ := by
  intro n
  induction n with
  | zero => intro x0 x3 σ hm; unfold L_X12_format_46 at hm; cases hm
  | succ n ih =>
    intro x0 x3 σ hm
    unfold L_X12_format_46 at hm
    obtain ⟨rc46, hrc⟩ : ∃ z, z = L_X12_format_46 b0 fu  n := ⟨_, rfl⟩
    replace hm := ltb_e hm hrc
    rw [← hrc] at ih
    have hrc46 := ih
    clear ih hrc
    refine zx_iload_n C dX12_format_46 1 rfl ?_
    refine zx_aload_n C dX12_format_47 0 rfl ?_
    obtain ⟨k7, i8, hm⟩ := ckO_e hm
    obtain ⟨a9, h10, hm⟩ := osm_e hm
    refine zx_get (j := 1) C tC_11 k7 i8 ⟨by decide, Or.inl W_6_221⟩ dX12_format_48 (.ref a9) (rf_s h10) ?_
    obtain ⟨n13, k11, i12, hm⟩ := ckR_e hm
    refine zx_alen C k11 (by decide) i12 dX12_format_51 ?_
    refine zx_icmp_ge C 68 dX12_format_52 (by decide) (fun c14 => ?_) (fun c14 => ?_)
    · replace hm := ip_e hm c14
      refine zx_iconst (v := 0) C dX12_format_68 (by decide) ?_
      refine zx_istore_n C [(3, .int (0)), (0, .ref (x0))] dX12_format_69 rfl (by decide) rfl ?_
      exact zx_lv [1, 0] [(0, .ref (x0)), (3, .int (0))] rfl (l_X12_format_70 C htab hin  _ _ _ _ hm)
    · replace hm := in_e hm c14
      refine zx_aload_n C dX12_format_55 0 rfl ?_
      obtain ⟨a121, h122, hm⟩ := osm_e hm
      refine zx_get (j := 1) C tC_11 k7 i8 ⟨by decide, Or.inl W_6_221⟩ dX12_format_56 (.ref a121) (rf_s h122) ?_
      refine zx_iload_n C dX12_format_59 1 rfl ?_
      refine zx_iconst (v := 0) C dX12_format_60 (by decide) ?_
      obtain ⟨n125, k123, i124, hm⟩ := ckR_e hm
      obtain ⟨h126, hm⟩ := ckI_e hm
      refine zx_iast C k123 i124 h126 dX12_format_61 ?_
      obtain ⟨y127, hy127⟩ : ∃ z : Int32, z = (x3) + Int32.ofInt 1 := ⟨_, rfl⟩
      replace hm := ltb_e hm hy127
      refine zx_iinc C [(3, .int (y127)), (0, .ref (x0))] dX12_format_62 1 rfl hy127.symm (by decide) rfl ?_
      refine zx_goto C 46 dX12_format_65 (by decide) ?_
      exact zx_lv [1, 0] [(0, .ref (x0)), (3, .int (y127))] rfl (hrc46 _ _ _ hm)
set_option maxRecDepth 100000 in
set_option maxHeartbeats 1000000 in
theorem c_X12_format {l : Launch} {D : va_G} {aC : Nat → ClassId} {b0 fu : Nat} {a0 : Nat} {p0 : Int32} {p1 : Int32} {σ τ : tM} {v : Int32} (hm : m_X12_format b0 fu a0 p0 p1 σ = some (v, τ)) : tMt l D aC b0 yX12_format (Cond.code yX12_format cX12_format 5 (some .int)) 1 21 [.ref (a0), .int (p0), .int (p1)] σ (.inl (some (.int v))) τ := by
  unfold m_X12_format at hm
  obtain ⟨hg, hm⟩ := grw_e hm
  refine tMt_of (n := 0) rfl (Nat.le_of_ble_eq_true rfl) hg ?_
  intro p e s m below meth c C htab hin
  refine zx_lv [0, 1, 2] [(0, .ref (a0)), (1, .int (p0)), (2, .int (p1))] rfl ?_
  refine zx_aload_n C dX12_format_0 0 rfl ?_
  refine zx_iconst (v := 0) C dX12_format_1 (by decide) ?_
  obtain ⟨k1, i2, hm⟩ := ckO_e hm
  refine zx_put (j := 0) (ρ := sI (σ) (a0) 0 (0)) C tC_11 k1 i2 ⟨by decide, Or.inl W_6_220⟩ rfl rfl rfl (sI_ok (fun _ => rfl)) dX12_format_2 ?_
  refine zx_iload_n C dX12_format_5 1 rfl ?_
  refine zx_bipush (v := 40) C dX12_format_6 (by decide) ?_
  refine zx_icmp_lt C 31 dX12_format_8 (by decide) (fun c3 => ?_) (fun c3 => ?_)
  · replace hm := ip_e hm c3
    exact zx_lv [] [] rfl (j_X12_format_31 C htab hin    hm)
  · replace hm := in_e hm c3
    refine zx_iload_n C dX12_format_11 1 rfl ?_
    refine zx_sipush (v := 4096) C dX12_format_12 (by decide) ?_
    refine zx_icmp_gt C 31 dX12_format_15 (by decide) (fun c4 => ?_) (fun c4 => ?_)
    · replace hm := ip_e hm c4
      exact zx_lv [] [] rfl (j_X12_format_31 C htab hin    hm)
    · replace hm := in_e hm c4
      refine zx_iload_n C dX12_format_18 2 rfl ?_
      refine zx_bipush (v := 16) C dX12_format_19 (by decide) ?_
      refine zx_icmp_lt C 31 dX12_format_21 (by decide) (fun c5 => ?_) (fun c5 => ?_)
      · replace hm := ip_e hm c5
        exact zx_lv [] [] rfl (j_X12_format_31 C htab hin    hm)
      · replace hm := in_e hm c5
        refine zx_iload_n C dX12_format_24 2 rfl ?_
        refine zx_sipush (v := 2000) C dX12_format_25 (by decide) ?_
        refine zx_icmp_le C 34 dX12_format_28 (by decide) (fun c6 => ?_) (fun c6 => ?_)
        · replace hm := ip_e hm c6
          refine zx_aload_n C dX12_format_34 0 rfl ?_
          refine zx_iload_n C dX12_format_35 1 rfl ?_
          refine zx_put (j := 6) (ρ := sI (sI (σ) (a0) 0 (0)) (a0) 6 (p0)) C tC_11 k1 i2 ⟨by decide, Or.inl W_6_225⟩ rfl rfl rfl (sI_ok (fun _ => rfl)) dX12_format_36 ?_
          refine zx_aload_n C dX12_format_39 0 rfl ?_
          refine zx_iload_n C dX12_format_40 2 rfl ?_
          refine zx_put (j := 7) (ρ := sI (sI (sI (σ) (a0) 0 (0)) (a0) 6 (p0)) (a0) 7 (p1)) C tC_11 k1 i2 ⟨by decide, Or.inl W_6_226⟩ rfl rfl rfl (sI_ok (fun _ => rfl)) dX12_format_41 ?_
          refine zx_iconst (v := 0) C dX12_format_44 (by decide) ?_
          refine zx_istore_n C [(3, .int (0)), (0, .ref (a0)), (1, .int (p0)), (2, .int (p1))] dX12_format_45 rfl (by decide) rfl ?_
          exact zx_lv [1, 0] [(0, .ref (a0)), (3, .int (0))] rfl (l_X12_format_46 C htab hin  _ _ _ _ hm)
        · replace hm := in_e hm c6
          exact zx_lv [] [] rfl (j_X12_format_31 C htab hin    hm)
abbrev cX12_feed : ByteArray := prog_13_method_68_code
def yX12_feed : MethodName := ⟨"SyncTreeModel", "feed", "(IIIII)I"⟩
theorem Y_X12_feed : tY yX12_feed cX12_feed 8 (some .int) 5 := ⟨W_7_164, W_1_14, ⟨by decide +kernel, by decide +kernel⟩, by decide +kernel⟩
theorem dX12_feed_0 : decode cX12_feed 0 = .ok (.aload_n 0, 1) := by decide +kernel
theorem dX12_feed_1 : decode cX12_feed 1 = .ok (.iconst 0, 1) := by decide +kernel
theorem dX12_feed_2 : decode cX12_feed 2 = .ok (.putfield 3, 3) := by decide +kernel
theorem dX12_feed_5 : decode cX12_feed 5 = .ok (.aload_n 0, 1) := by decide +kernel
theorem dX12_feed_6 : decode cX12_feed 6 = .ok (.getfield 400, 3) := by decide +kernel
theorem dX12_feed_9 : decode cX12_feed 9 = .ok (.bipush 20, 2) := by decide +kernel
theorem dX12_feed_11 : decode cX12_feed 11 = .ok (.iadd, 1) := by decide +kernel
theorem dX12_feed_12 : decode cX12_feed 12 = .ok (.sipush 4000, 3) := by decide +kernel
theorem dX12_feed_15 : decode cX12_feed 15 = .ok (.if_icmp .le 6, 3) := by decide +kernel
theorem dX12_feed_18 : decode cX12_feed 18 = .ok (.bipush (-9), 2) := by decide +kernel
theorem dX12_feed_20 : decode cX12_feed 20 = .ok (.ireturn, 1) := by decide +kernel
theorem dX12_feed_21 : decode cX12_feed 21 = .ok (.iconst 0, 1) := by decide +kernel
theorem dX12_feed_22 : decode cX12_feed 22 = .ok (.istore 6, 2) := by decide +kernel
theorem dX12_feed_24 : decode cX12_feed 24 = .ok (.iload 6, 2) := by decide +kernel
theorem dX12_feed_26 : decode cX12_feed 26 = .ok (.bipush 20, 2) := by decide +kernel
theorem dX12_feed_28 : decode cX12_feed 28 = .ok (.if_icmp .ge 83, 3) := by decide +kernel
theorem dX12_feed_31 : decode cX12_feed 31 = .ok (.iload 6, 2) := by decide +kernel
theorem dX12_feed_33 : decode cX12_feed 33 = .ok (.iconst 4, 1) := by decide +kernel
theorem dX12_feed_34 : decode cX12_feed 34 = .ok (.if_icmp .ge 7, 3) := by decide +kernel
theorem dX12_feed_37 : decode cX12_feed 37 = .ok (.iload_n 1, 1) := by decide +kernel
theorem dX12_feed_38 : decode cX12_feed 38 = .ok (.goto 39, 3) := by decide +kernel
theorem dX12_feed_41 : decode cX12_feed 41 = .ok (.iload 6, 2) := by decide +kernel
theorem dX12_feed_43 : decode cX12_feed 43 = .ok (.bipush 8, 2) := by decide +kernel
theorem dX12_feed_45 : decode cX12_feed 45 = .ok (.if_icmp .ge 7, 3) := by decide +kernel
theorem dX12_feed_48 : decode cX12_feed 48 = .ok (.iload_n 2, 1) := by decide +kernel
theorem dX12_feed_49 : decode cX12_feed 49 = .ok (.goto 28, 3) := by decide +kernel
theorem dX12_feed_52 : decode cX12_feed 52 = .ok (.iload 6, 2) := by decide +kernel
theorem dX12_feed_54 : decode cX12_feed 54 = .ok (.bipush 12, 2) := by decide +kernel
theorem dX12_feed_56 : decode cX12_feed 56 = .ok (.if_icmp .ge 7, 3) := by decide +kernel
theorem dX12_feed_59 : decode cX12_feed 59 = .ok (.iload_n 3, 1) := by decide +kernel
theorem dX12_feed_60 : decode cX12_feed 60 = .ok (.goto 17, 3) := by decide +kernel
theorem dX12_feed_63 : decode cX12_feed 63 = .ok (.iload 6, 2) := by decide +kernel
theorem dX12_feed_65 : decode cX12_feed 65 = .ok (.bipush 16, 2) := by decide +kernel
theorem dX12_feed_67 : decode cX12_feed 67 = .ok (.if_icmp .ge 8, 3) := by decide +kernel
theorem dX12_feed_70 : decode cX12_feed 70 = .ok (.iload 4, 2) := by decide +kernel
theorem dX12_feed_72 : decode cX12_feed 72 = .ok (.goto 5, 3) := by decide +kernel
theorem dX12_feed_75 : decode cX12_feed 75 = .ok (.iload 5, 2) := by decide +kernel
theorem dX12_feed_77 : decode cX12_feed 77 = .ok (.istore 7, 2) := by decide +kernel
theorem dX12_feed_79 : decode cX12_feed 79 = .ok (.aload_n 0, 1) := by decide +kernel
theorem dX12_feed_80 : decode cX12_feed 80 = .ok (.getfield 391, 3) := by decide +kernel
theorem dX12_feed_83 : decode cX12_feed 83 = .ok (.aload_n 0, 1) := by decide +kernel
theorem dX12_feed_84 : decode cX12_feed 84 = .ok (.getfield 400, 3) := by decide +kernel
theorem dX12_feed_87 : decode cX12_feed 87 = .ok (.iload 6, 2) := by decide +kernel
theorem dX12_feed_89 : decode cX12_feed 89 = .ok (.iadd, 1) := by decide +kernel
theorem dX12_feed_90 : decode cX12_feed 90 = .ok (.iload 7, 2) := by decide +kernel
theorem dX12_feed_92 : decode cX12_feed 92 = .ok (.bipush 24, 2) := by decide +kernel
theorem dX12_feed_94 : decode cX12_feed 94 = .ok (.bipush 8, 2) := by decide +kernel
theorem dX12_feed_96 : decode cX12_feed 96 = .ok (.iload 6, 2) := by decide +kernel
theorem dX12_feed_98 : decode cX12_feed 98 = .ok (.iconst 4, 1) := by decide +kernel
theorem dX12_feed_99 : decode cX12_feed 99 = .ok (.irem, 1) := by decide +kernel
theorem dX12_feed_100 : decode cX12_feed 100 = .ok (.imul, 1) := by decide +kernel
theorem dX12_feed_101 : decode cX12_feed 101 = .ok (.isub, 1) := by decide +kernel
theorem dX12_feed_102 : decode cX12_feed 102 = .ok (.ishr, 1) := by decide +kernel
theorem dX12_feed_103 : decode cX12_feed 103 = .ok (.i2b, 1) := by decide +kernel
theorem dX12_feed_104 : decode cX12_feed 104 = .ok (.bastore, 1) := by decide +kernel
theorem dX12_feed_105 : decode cX12_feed 105 = .ok (.iinc 6 1, 3) := by decide +kernel
theorem dX12_feed_108 : decode cX12_feed 108 = .ok (.goto (-84), 3) := by decide +kernel
theorem dX12_feed_111 : decode cX12_feed 111 = .ok (.aload_n 0, 1) := by decide +kernel
theorem dX12_feed_112 : decode cX12_feed 112 = .ok (.dup, 1) := by decide +kernel
theorem dX12_feed_113 : decode cX12_feed 113 = .ok (.getfield 400, 3) := by decide +kernel
theorem dX12_feed_116 : decode cX12_feed 116 = .ok (.bipush 20, 2) := by decide +kernel
theorem dX12_feed_118 : decode cX12_feed 118 = .ok (.iadd, 1) := by decide +kernel
theorem dX12_feed_119 : decode cX12_feed 119 = .ok (.putfield 400, 3) := by decide +kernel
theorem dX12_feed_122 : decode cX12_feed 122 = .ok (.aload_n 0, 1) := by decide +kernel
theorem dX12_feed_123 : decode cX12_feed 123 = .ok (.getfield 400, 3) := by decide +kernel
theorem dX12_feed_126 : decode cX12_feed 126 = .ok (.ireturn, 1) := by decide +kernel
set_option maxRecDepth 100000 in
set_option maxHeartbeats 1000000 in
theorem j_X12_feed_77 {p : Program} {l : Launch} {e : Env} {s : State} {m : MethodId} {args : Array Value} {below : List Frame} {meth : Method} {c : Code} {D : va_G} {aC : Nat → ClassId} {b0 fu : Nat} {σ0 τ : tM} {v : Int32} {rc24 : Nat → Int32 → Int32 → Int32 → Int32 → Int32 → Int32 → tM → Option ((Int32) × tM)} (C : tCx p l s m args meth c yX12_feed.cls cX12_feed 8 (some .int) D aC b0 σ0) (htab : ∀ x ∈ c.exceptionTable.toList, False) (hin : meth.name = yX12_feed.name) (hrc24 : ∀ (x0 : Nat) (x1 : Int32) (x2 : Int32) (x3 : Int32) (x4 : Int32) (x5 : Int32) (x6 : Int32) (ρ : tM), rc24 x0 x1 x2 x3 x4 x5 x6 ρ = some (v, τ) → tX p l e s m args below meth c 8 0 0 D aC b0 σ0 (.inl (some (.int v))) τ 24 [(0, .ref (x0)), (1, .int (x1)), (2, .int (x2)), (3, .int (x3)), (4, .int (x4)), (5, .int (x5)), (6, .int (x6))] [] ρ) {x0 : Nat} {x1 : Int32} {x2 : Int32} {x3 : Int32} {x4 : Int32} {x5 : Int32} {x6 : Int32} {s0 : Int32} {σ : tM} (hm : J_X12_feed_77 b0 fu rc24 x0 x1 x2 x3 x4 x5 x6 s0 σ = some (v, τ)) : tX p l e s m args below meth c 8 0 0 D aC b0 σ0 (.inl (some (.int v))) τ 77 [(0, .ref (x0)), (1, .int (x1)), (2, .int (x2)), (3, .int (x3)), (4, .int (x4)), (5, .int (x5)), (6, .int (x6))] [.int (s0)] σ := by
  unfold J_X12_feed_77 at hm
  refine zx_istore C [(7, .int (s0)), (0, .ref (x0)), (1, .int (x1)), (2, .int (x2)), (3, .int (x3)), (4, .int (x4)), (5, .int (x5)), (6, .int (x6))] dX12_feed_77 (by decide) rfl ?_
  refine zx_aload_n C dX12_feed_79 1 rfl ?_
  obtain ⟨k11, i12, hm⟩ := ckO_e hm
  obtain ⟨a13, h14, hm⟩ := osm_e hm
  refine zx_get (j := 56) C tC_11 k11 i12 ⟨by decide, Or.inl W_7_35⟩ dX12_feed_80 (.ref a13) (rf_s h14) ?_
  refine zx_aload_n C dX12_feed_83 1 rfl ?_
  refine zx_get (j := 57) C tC_11 k11 i12 ⟨by decide, Or.inl W_7_36⟩ dX12_feed_84 (.int (tI (σ) (x0) 57)) rfl ?_
  refine zx_iload C dX12_feed_87 7 rfl ?_
  refine zx_iadd C dX12_feed_89 ?_
  refine zx_iload C dX12_feed_90 0 rfl ?_
  refine zx_bipush (v := 24) C dX12_feed_92 (by decide) ?_
  refine zx_bipush (v := 8) C dX12_feed_94 (by decide) ?_
  refine zx_iload C dX12_feed_96 7 rfl ?_
  refine zx_iconst (v := 4) C dX12_feed_98 (by decide) ?_
  refine zx_irem C dX12_feed_99 (by decide) ?_
  refine zx_imul C dX12_feed_100 ?_
  refine zx_isub C dX12_feed_101 ?_
  refine zx_ishr C dX12_feed_102 ?_
  refine zx_i2b C dX12_feed_103 ?_
  obtain ⟨n17, k15, i16, hm⟩ := ckR_e hm
  obtain ⟨h18, hm⟩ := ckI_e hm
  refine zx_bast C k15 i16 h18 dX12_feed_104 ?_
  obtain ⟨y19, hy19⟩ : ∃ z : Int32, z = (x6) + Int32.ofInt 1 := ⟨_, rfl⟩
  replace hm := ltb_e hm hy19
  refine zx_iinc C [(6, .int (y19)), (7, .int (s0)), (0, .ref (x0)), (1, .int (x1)), (2, .int (x2)), (3, .int (x3)), (4, .int (x4)), (5, .int (x5))] dX12_feed_105 7 rfl hy19.symm (by decide) rfl ?_
  refine zx_goto C 24 dX12_feed_108 (by decide) ?_
  exact zx_lv [2, 3, 4, 5, 6, 7, 0] [(0, .ref (x0)), (1, .int (x1)), (2, .int (x2)), (3, .int (x3)), (4, .int (x4)), (5, .int (x5)), (6, .int (y19))] rfl (hrc24 _ _ _ _ _ _ _ _ hm)
set_option maxRecDepth 100000 in
set_option maxHeartbeats 1000000 in
theorem l_X12_feed_24 {p : Program} {l : Launch} {e : Env} {s : State} {m : MethodId} {args : Array Value} {below : List Frame} {meth : Method} {c : Code} {D : va_G} {aC : Nat → ClassId} {b0 fu : Nat} {σ0 τ : tM} {v : Int32}  (C : tCx p l s m args meth c yX12_feed.cls cX12_feed 8 (some .int) D aC b0 σ0) (htab : ∀ x ∈ c.exceptionTable.toList, False) (hin : meth.name = yX12_feed.name)  : ∀ (n : Nat) (x0 : Nat) (x1 : Int32) (x2 : Int32) (x3 : Int32) (x4 : Int32) (x5 : Int32) (x6 : Int32) (σ : tM), L_X12_feed_24 b0 fu  n x0 x1 x2 x3 x4 x5 x6 σ = some (v, τ) → tX p l e s m args below meth c 8 0 0 D aC b0 σ0 (.inl (some (.int v))) τ 24 [(0, .ref (x0)), (1, .int (x1)), (2, .int (x2)), (3, .int (x3)), (4, .int (x4)), (5, .int (x5)), (6, .int (x6))] [] σ := by
  intro n
  induction n with
  | zero => intro x0 x1 x2 x3 x4 x5 x6 σ hm; unfold L_X12_feed_24 at hm; cases hm
  | succ n ih =>
    intro x0 x1 x2 x3 x4 x5 x6 σ hm
    unfold L_X12_feed_24 at hm
    obtain ⟨rc24, hrc⟩ : ∃ z, z = L_X12_feed_24 b0 fu  n := ⟨_, rfl⟩
    replace hm := ltb_e hm hrc
    rw [← hrc] at ih
    have hrc24 := ih
    clear ih hrc
    refine zx_iload C dX12_feed_24 6 rfl ?_
    refine zx_bipush (v := 20) C dX12_feed_26 (by decide) ?_
    refine zx_icmp_ge C 111 dX12_feed_28 (by decide) (fun c4 => ?_) (fun c4 => ?_)
    · replace hm := ip_e hm c4
      refine zx_aload_n C dX12_feed_111 0 rfl ?_
      refine zx_dup C dX12_feed_112 rfl ?_
      obtain ⟨k5, i6, hm⟩ := ckO_e hm
      refine zx_get (j := 57) C tC_11 k5 i6 ⟨by decide, Or.inl W_7_36⟩ dX12_feed_113 (.int (tI (σ) (x0) 57)) rfl ?_
      refine zx_bipush (v := 20) C dX12_feed_116 (by decide) ?_
      refine zx_iadd C dX12_feed_118 ?_
      refine zx_put (j := 57) (ρ := sI (σ) (x0) 57 ((tI (σ) (x0) 57) + (20))) C tC_11 k5 i6 ⟨by decide, Or.inl W_7_36⟩ rfl rfl rfl (sI_ok (fun _ => rfl)) dX12_feed_119 ?_
      refine zx_aload_n C dX12_feed_122 0 rfl ?_
      refine zx_get (j := 57) C tC_11 k5 i6 ⟨by decide, Or.inl W_7_36⟩ dX12_feed_123 (.int (tI (sI (σ) (x0) 57 ((tI (σ) (x0) 57) + (20))) (x0) 57)) rfl ?_
      obtain ⟨rfl, rfl⟩ := ret_e hm
      exact zx_iret C rfl rfl rfl dX12_feed_126
    · replace hm := in_e hm c4
      refine zx_iload C dX12_feed_31 6 rfl ?_
      refine zx_iconst (v := 4) C dX12_feed_33 (by decide) ?_
      refine zx_icmp_ge C 41 dX12_feed_34 (by decide) (fun c7 => ?_) (fun c7 => ?_)
      · replace hm := ip_e hm c7
        refine zx_iload C dX12_feed_41 6 rfl ?_
        refine zx_bipush (v := 8) C dX12_feed_43 (by decide) ?_
        refine zx_icmp_ge C 52 dX12_feed_45 (by decide) (fun c8 => ?_) (fun c8 => ?_)
        · replace hm := ip_e hm c8
          refine zx_iload C dX12_feed_52 6 rfl ?_
          refine zx_bipush (v := 12) C dX12_feed_54 (by decide) ?_
          refine zx_icmp_ge C 63 dX12_feed_56 (by decide) (fun c9 => ?_) (fun c9 => ?_)
          · replace hm := ip_e hm c9
            refine zx_iload C dX12_feed_63 6 rfl ?_
            refine zx_bipush (v := 16) C dX12_feed_65 (by decide) ?_
            refine zx_icmp_ge C 75 dX12_feed_67 (by decide) (fun c10 => ?_) (fun c10 => ?_)
            · replace hm := ip_e hm c10
              refine zx_iload C dX12_feed_75 5 rfl ?_
              exact zx_lv [0, 1, 2, 3, 4, 5, 6] [(0, .ref (x0)), (1, .int (x1)), (2, .int (x2)), (3, .int (x3)), (4, .int (x4)), (5, .int (x5)), (6, .int (x6))] rfl (j_X12_feed_77 C htab hin hrc24   hm)
            · replace hm := in_e hm c10
              refine zx_iload C dX12_feed_70 4 rfl ?_
              refine zx_goto C 77 dX12_feed_72 (by decide) ?_
              exact zx_lv [0, 1, 2, 3, 4, 5, 6] [(0, .ref (x0)), (1, .int (x1)), (2, .int (x2)), (3, .int (x3)), (4, .int (x4)), (5, .int (x5)), (6, .int (x6))] rfl (j_X12_feed_77 C htab hin hrc24   hm)
          · replace hm := in_e hm c9
            refine zx_iload_n C dX12_feed_59 3 rfl ?_
            refine zx_goto C 77 dX12_feed_60 (by decide) ?_
            exact zx_lv [0, 1, 2, 3, 4, 5, 6] [(0, .ref (x0)), (1, .int (x1)), (2, .int (x2)), (3, .int (x3)), (4, .int (x4)), (5, .int (x5)), (6, .int (x6))] rfl (j_X12_feed_77 C htab hin hrc24   hm)
        · replace hm := in_e hm c8
          refine zx_iload_n C dX12_feed_48 2 rfl ?_
          refine zx_goto C 77 dX12_feed_49 (by decide) ?_
          exact zx_lv [0, 1, 2, 3, 4, 5, 6] [(0, .ref (x0)), (1, .int (x1)), (2, .int (x2)), (3, .int (x3)), (4, .int (x4)), (5, .int (x5)), (6, .int (x6))] rfl (j_X12_feed_77 C htab hin hrc24   hm)
      · replace hm := in_e hm c7
        refine zx_iload_n C dX12_feed_37 1 rfl ?_
        refine zx_goto C 77 dX12_feed_38 (by decide) ?_
        exact zx_lv [0, 1, 2, 3, 4, 5, 6] [(0, .ref (x0)), (1, .int (x1)), (2, .int (x2)), (3, .int (x3)), (4, .int (x4)), (5, .int (x5)), (6, .int (x6))] rfl (j_X12_feed_77 C htab hin hrc24   hm)
set_option maxRecDepth 100000 in
set_option maxHeartbeats 1000000 in
theorem c_X12_feed {l : Launch} {D : va_G} {aC : Nat → ClassId} {b0 fu : Nat} {a0 : Nat} {p0 : Int32} {p1 : Int32} {p2 : Int32} {p3 : Int32} {p4 : Int32} {σ τ : tM} {v : Int32} (hm : m_X12_feed b0 fu a0 p0 p1 p2 p3 p4 σ = some (v, τ)) : tMt l D aC b0 yX12_feed (Cond.code yX12_feed cX12_feed 8 (some .int)) 0 0 [.ref (a0), .int (p0), .int (p1), .int (p2), .int (p3), .int (p4)] σ (.inl (some (.int v))) τ := by
  unfold m_X12_feed at hm
  obtain ⟨hg, hm⟩ := grw_e hm
  refine tMt_of (n := 0) rfl (Nat.le_of_ble_eq_true rfl) hg ?_
  intro p e s m below meth c C htab hin
  refine zx_lv [0, 1, 2, 3, 4, 5] [(0, .ref (a0)), (1, .int (p0)), (2, .int (p1)), (3, .int (p2)), (4, .int (p3)), (5, .int (p4))] rfl ?_
  refine zx_aload_n C dX12_feed_0 0 rfl ?_
  refine zx_iconst (v := 0) C dX12_feed_1 (by decide) ?_
  obtain ⟨k1, i2, hm⟩ := ckO_e hm
  refine zx_put (j := 0) (ρ := sI (σ) (a0) 0 (0)) C tC_11 k1 i2 ⟨by decide, Or.inl W_6_220⟩ rfl rfl rfl (sI_ok (fun _ => rfl)) dX12_feed_2 ?_
  refine zx_aload_n C dX12_feed_5 0 rfl ?_
  refine zx_get (j := 57) C tC_11 k1 i2 ⟨by decide, Or.inl W_7_36⟩ dX12_feed_6 (.int (tI (sI (σ) (a0) 0 (0)) (a0) 57)) rfl ?_
  refine zx_bipush (v := 20) C dX12_feed_9 (by decide) ?_
  refine zx_iadd C dX12_feed_11 ?_
  refine zx_sipush (v := 4000) C dX12_feed_12 (by decide) ?_
  refine zx_icmp_le C 21 dX12_feed_15 (by decide) (fun c3 => ?_) (fun c3 => ?_)
  · replace hm := ip_e hm c3
    refine zx_iconst (v := 0) C dX12_feed_21 (by decide) ?_
    refine zx_istore C [(6, .int (0)), (0, .ref (a0)), (1, .int (p0)), (2, .int (p1)), (3, .int (p2)), (4, .int (p3)), (5, .int (p4))] dX12_feed_22 (by decide) rfl ?_
    exact zx_lv [1, 2, 3, 4, 5, 6, 0] [(0, .ref (a0)), (1, .int (p0)), (2, .int (p1)), (3, .int (p2)), (4, .int (p3)), (5, .int (p4)), (6, .int (0))] rfl (l_X12_feed_24 C htab hin  _ _ _ _ _ _ _ _ _ hm)
  · replace hm := in_e hm c3
    refine zx_bipush (v := (-9)) C dX12_feed_18 (by decide) ?_
    obtain ⟨rfl, rfl⟩ := ret_e hm
    exact zx_iret C rfl rfl rfl dX12_feed_20
abbrev cX12_path : ByteArray := prog_13_method_69_code
def yX12_path : MethodName := ⟨"SyncTreeModel", "path", "(II)I"⟩
theorem Y_X12_path : tY yX12_path cX12_path 5 (some .int) 2 := ⟨W_7_168, W_1_14, ⟨by decide +kernel, by decide +kernel⟩, by decide +kernel⟩
theorem dX12_path_0 : decode cX12_path 0 = .ok (.aload_n 0, 1) := by decide +kernel
theorem dX12_path_1 : decode cX12_path 1 = .ok (.iconst 0, 1) := by decide +kernel
theorem dX12_path_2 : decode cX12_path 2 = .ok (.putfield 3, 3) := by decide +kernel
theorem dX12_path_5 : decode cX12_path 5 = .ok (.aload_n 0, 1) := by decide +kernel
theorem dX12_path_6 : decode cX12_path 6 = .ok (.getfield 400, 3) := by decide +kernel
theorem dX12_path_9 : decode cX12_path 9 = .ok (.istore_n 3, 1) := by decide +kernel
theorem dX12_path_10 : decode cX12_path 10 = .ok (.aload_n 0, 1) := by decide +kernel
theorem dX12_path_11 : decode cX12_path 11 = .ok (.iconst 0, 1) := by decide +kernel
theorem dX12_path_12 : decode cX12_path 12 = .ok (.putfield 400, 3) := by decide +kernel
theorem dX12_path_15 : decode cX12_path 15 = .ok (.iload_n 1, 1) := by decide +kernel
theorem dX12_path_16 : decode cX12_path 16 = .ok (.ifCond .lt 23, 3) := by decide +kernel
theorem dX12_path_19 : decode cX12_path 19 = .ok (.iload_n 1, 1) := by decide +kernel
theorem dX12_path_20 : decode cX12_path 20 = .ok (.iconst 1, 1) := by decide +kernel
theorem dX12_path_21 : decode cX12_path 21 = .ok (.if_icmp .gt 18, 3) := by decide +kernel
theorem dX12_path_24 : decode cX12_path 24 = .ok (.iload_n 2, 1) := by decide +kernel
theorem dX12_path_25 : decode cX12_path 25 = .ok (.ifCond .lt 14, 3) := by decide +kernel
theorem dX12_path_28 : decode cX12_path 28 = .ok (.iload_n 2, 1) := by decide +kernel
theorem dX12_path_29 : decode cX12_path 29 = .ok (.bipush 120, 2) := by decide +kernel
theorem dX12_path_31 : decode cX12_path 31 = .ok (.if_icmp .gt 8, 3) := by decide +kernel
theorem dX12_path_34 : decode cX12_path 34 = .ok (.iload_n 2, 1) := by decide +kernel
theorem dX12_path_35 : decode cX12_path 35 = .ok (.iload_n 3, 1) := by decide +kernel
theorem dX12_path_36 : decode cX12_path 36 = .ok (.if_icmp .le 6, 3) := by decide +kernel
theorem dX12_path_39 : decode cX12_path 39 = .ok (.bipush (-9), 2) := by decide +kernel
theorem dX12_path_41 : decode cX12_path 41 = .ok (.ireturn, 1) := by decide +kernel
theorem dX12_path_42 : decode cX12_path 42 = .ok (.iconst 0, 1) := by decide +kernel
theorem dX12_path_43 : decode cX12_path 43 = .ok (.istore 4, 2) := by decide +kernel
theorem dX12_path_45 : decode cX12_path 45 = .ok (.iload 4, 2) := by decide +kernel
theorem dX12_path_47 : decode cX12_path 47 = .ok (.iload_n 2, 1) := by decide +kernel
theorem dX12_path_48 : decode cX12_path 48 = .ok (.if_icmp .ge 36, 3) := by decide +kernel
theorem dX12_path_51 : decode cX12_path 51 = .ok (.aload_n 0, 1) := by decide +kernel
theorem dX12_path_52 : decode cX12_path 52 = .ok (.getfield 391, 3) := by decide +kernel
theorem dX12_path_55 : decode cX12_path 55 = .ok (.iload 4, 2) := by decide +kernel
theorem dX12_path_57 : decode cX12_path 57 = .ok (.baload, 1) := by decide +kernel
theorem dX12_path_58 : decode cX12_path 58 = .ok (.bipush 33, 2) := by decide +kernel
theorem dX12_path_60 : decode cX12_path 60 = .ok (.if_icmp .lt 15, 3) := by decide +kernel
theorem dX12_path_63 : decode cX12_path 63 = .ok (.aload_n 0, 1) := by decide +kernel
theorem dX12_path_64 : decode cX12_path 64 = .ok (.getfield 391, 3) := by decide +kernel
theorem dX12_path_67 : decode cX12_path 67 = .ok (.iload 4, 2) := by decide +kernel
theorem dX12_path_69 : decode cX12_path 69 = .ok (.baload, 1) := by decide +kernel
theorem dX12_path_70 : decode cX12_path 70 = .ok (.bipush 126, 2) := by decide +kernel
theorem dX12_path_72 : decode cX12_path 72 = .ok (.if_icmp .le 6, 3) := by decide +kernel
theorem dX12_path_75 : decode cX12_path 75 = .ok (.bipush (-9), 2) := by decide +kernel
theorem dX12_path_77 : decode cX12_path 77 = .ok (.ireturn, 1) := by decide +kernel
theorem dX12_path_78 : decode cX12_path 78 = .ok (.iinc 4 1, 3) := by decide +kernel
theorem dX12_path_81 : decode cX12_path 81 = .ok (.goto (-36), 3) := by decide +kernel
theorem dX12_path_84 : decode cX12_path 84 = .ok (.aload_n 0, 1) := by decide +kernel
theorem dX12_path_85 : decode cX12_path 85 = .ok (.getfield 391, 3) := by decide +kernel
theorem dX12_path_88 : decode cX12_path 88 = .ok (.iconst 0, 1) := by decide +kernel
theorem dX12_path_89 : decode cX12_path 89 = .ok (.aload_n 0, 1) := by decide +kernel
theorem dX12_path_90 : decode cX12_path 90 = .ok (.getfield 323, 3) := by decide +kernel
theorem dX12_path_93 : decode cX12_path 93 = .ok (.iload_n 1, 1) := by decide +kernel
theorem dX12_path_94 : decode cX12_path 94 = .ok (.aaload, 1) := by decide +kernel
theorem dX12_path_95 : decode cX12_path 95 = .ok (.iconst 0, 1) := by decide +kernel
theorem dX12_path_96 : decode cX12_path 96 = .ok (.iload_n 2, 1) := by decide +kernel
theorem dX12_path_97 : decode cX12_path 97 = .ok (.invokestatic 7, 3) := by decide +kernel
theorem dX12_path_100 : decode cX12_path 100 = .ok (.aload_n 0, 1) := by decide +kernel
theorem dX12_path_101 : decode cX12_path 101 = .ok (.getfield 346, 3) := by decide +kernel
theorem dX12_path_104 : decode cX12_path 104 = .ok (.iload_n 1, 1) := by decide +kernel
theorem dX12_path_105 : decode cX12_path 105 = .ok (.iload_n 2, 1) := by decide +kernel
theorem dX12_path_106 : decode cX12_path 106 = .ok (.iastore, 1) := by decide +kernel
theorem dX12_path_107 : decode cX12_path 107 = .ok (.iload_n 2, 1) := by decide +kernel
theorem dX12_path_108 : decode cX12_path 108 = .ok (.ireturn, 1) := by decide +kernel
set_option maxRecDepth 100000 in
set_option maxHeartbeats 1000000 in
theorem j_X12_path_39 {p : Program} {l : Launch} {e : Env} {s : State} {m : MethodId} {args : Array Value} {below : List Frame} {meth : Method} {c : Code} {D : va_G} {aC : Nat → ClassId} {b0 fu : Nat} {σ0 τ : tM} {v : Int32}  (C : tCx p l s m args meth c yX12_path.cls cX12_path 5 (some .int) D aC b0 σ0) (htab : ∀ x ∈ c.exceptionTable.toList, False) (hin : meth.name = yX12_path.name)   {σ : tM} (hm : J_X12_path_39 b0 fu   σ = some (v, τ)) : tX p l e s m args below meth c 5 1 26 D aC b0 σ0 (.inl (some (.int v))) τ 39 [] [] σ := by
  unfold J_X12_path_39 at hm
  refine zx_bipush (v := (-9)) C dX12_path_39 (by decide) ?_
  obtain ⟨rfl, rfl⟩ := ret_e hm
  exact zx_iret C rfl rfl rfl dX12_path_41
set_option maxRecDepth 100000 in
set_option maxHeartbeats 1000000 in
theorem j_X12_path_75 {p : Program} {l : Launch} {e : Env} {s : State} {m : MethodId} {args : Array Value} {below : List Frame} {meth : Method} {c : Code} {D : va_G} {aC : Nat → ClassId} {b0 fu : Nat} {σ0 τ : tM} {v : Int32}  (C : tCx p l s m args meth c yX12_path.cls cX12_path 5 (some .int) D aC b0 σ0) (htab : ∀ x ∈ c.exceptionTable.toList, False) (hin : meth.name = yX12_path.name)   {σ : tM} (hm : J_X12_path_75 b0 fu   σ = some (v, τ)) : tX p l e s m args below meth c 5 1 26 D aC b0 σ0 (.inl (some (.int v))) τ 75 [] [] σ := by
  unfold J_X12_path_75 at hm
  refine zx_bipush (v := (-9)) C dX12_path_75 (by decide) ?_
  obtain ⟨rfl, rfl⟩ := ret_e hm
  exact zx_iret C rfl rfl rfl dX12_path_77
set_option maxRecDepth 100000 in
set_option maxHeartbeats 1000000 in
theorem l_X12_path_45 {p : Program} {l : Launch} {e : Env} {s : State} {m : MethodId} {args : Array Value} {below : List Frame} {meth : Method} {c : Code} {D : va_G} {aC : Nat → ClassId} {b0 fu : Nat} {σ0 τ : tM} {v : Int32}  (C : tCx p l s m args meth c yX12_path.cls cX12_path 5 (some .int) D aC b0 σ0) (htab : ∀ x ∈ c.exceptionTable.toList, False) (hin : meth.name = yX12_path.name)  : ∀ (n : Nat) (x0 : Nat) (x1 : Int32) (x2 : Int32) (x4 : Int32) (σ : tM), L_X12_path_45 b0 fu  n x0 x1 x2 x4 σ = some (v, τ) → tX p l e s m args below meth c 5 1 26 D aC b0 σ0 (.inl (some (.int v))) τ 45 [(0, .ref (x0)), (1, .int (x1)), (2, .int (x2)), (4, .int (x4))] [] σ := by
  intro n
  induction n with
  | zero => intro x0 x1 x2 x4 σ hm; unfold L_X12_path_45 at hm; cases hm
  | succ n ih =>
    intro x0 x1 x2 x4 σ hm
    unfold L_X12_path_45 at hm
    obtain ⟨rc45, hrc⟩ : ∃ z, z = L_X12_path_45 b0 fu  n := ⟨_, rfl⟩
    replace hm := ltb_e hm hrc
    rw [← hrc] at ih
    have hrc45 := ih
    clear ih hrc
    refine zx_iload C dX12_path_45 3 rfl ?_
    refine zx_iload_n C dX12_path_47 2 rfl ?_
    refine zx_icmp_ge C 84 dX12_path_48 (by decide) (fun c9 => ?_) (fun c9 => ?_)
    · replace hm := ip_e hm c9
      refine zx_aload_n C dX12_path_84 0 rfl ?_
      obtain ⟨k10, i11, hm⟩ := ckO_e hm
      obtain ⟨a12, h13, hm⟩ := osm_e hm
      refine zx_get (j := 56) C tC_11 k10 i11 ⟨by decide, Or.inl W_7_35⟩ dX12_path_85 (.ref a12) (rf_s h13) ?_
      refine zx_iconst (v := 0) C dX12_path_88 (by decide) ?_
      refine zx_aload_n C dX12_path_89 0 rfl ?_
      obtain ⟨a14, h15, hm⟩ := osm_e hm
      refine zx_get (j := 47) C tC_11 k10 i11 ⟨by decide, Or.inl W_7_26⟩ dX12_path_90 (.ref a14) (rf_s h15) ?_
      refine zx_iload_n C dX12_path_93 1 rfl ?_
      obtain ⟨n18, k16, i17, hm⟩ := ckR_e hm
      obtain ⟨h19, hm⟩ := ckI_e hm
      obtain ⟨a20, h21, hm⟩ := osm_e hm
      refine zx_aald5 C k16 i17 h19 dX12_path_94 (.ref a20) (rf_s h21) ?_
      refine zx_iconst (v := 0) C dX12_path_95 (by decide) ?_
      refine zx_iload_n C dX12_path_96 2 rfl ?_
      obtain ⟨n24, k22, i23, hm⟩ := ckR_e hm
      obtain ⟨n27, k25, i26, hm⟩ := ckR_e hm
      obtain ⟨h28, hm⟩ := ckC_e hm
      obtain ⟨h44, hm⟩ := ckF_e hm
      refine zx_copyB (σ := σ) C W_7_169 W_2_135 W_2_134 W_1_11 k22 i23 k25 i26 h28 h44 (by decide) (by decide) (Nat.le_of_ble_eq_true rfl) dX12_path_97 ?_
      refine zx_mem (fun ρ29 hρ29 => ?_)
      replace hm := ltb_e hm hρ29
      have k30 : tk ρ29 (x0) = .inl 11 := by rw [hρ29]; exact k10
      have i31 : tIn b0 ρ29 (x0) := by rw [hρ29]; exact i11
      have k32 : tk ρ29 (a14) = .inr (5, n18) := by rw [hρ29]; exact k16
      have i33 : tIn b0 ρ29 (a14) := by rw [hρ29]; exact i17
      have k34 : tk ρ29 (a12) = .inr (1, n24) := by rw [hρ29]; exact k22
      have i35 : tIn b0 ρ29 (a12) := by rw [hρ29]; exact i23
      have k36 : tk ρ29 (a20) = .inr (1, n27) := by rw [hρ29]; exact k25
      have i37 : tIn b0 ρ29 (a20) := by rw [hρ29]; exact i26
      refine zx_aload_n C dX12_path_100 0 rfl ?_
      obtain ⟨a38, h39, hm⟩ := osm_e hm
      refine zx_get (j := 48) C tC_11 k30 i31 ⟨by decide, Or.inl W_7_27⟩ dX12_path_101 (.ref a38) (rf_s h39) ?_
      refine zx_iload_n C dX12_path_104 1 rfl ?_
      refine zx_iload_n C dX12_path_105 2 rfl ?_
      obtain ⟨n42, k40, i41, hm⟩ := ckR_e hm
      obtain ⟨h43, hm⟩ := ckI_e hm
      refine zx_iast C k40 i41 h43 dX12_path_106 ?_
      refine zx_iload_n C dX12_path_107 2 rfl ?_
      obtain ⟨rfl, rfl⟩ := ret_e hm
      exact zx_iret C rfl rfl rfl dX12_path_108
    · replace hm := in_e hm c9
      refine zx_aload_n C dX12_path_51 0 rfl ?_
      obtain ⟨k45, i46, hm⟩ := ckO_e hm
      obtain ⟨a47, h48, hm⟩ := osm_e hm
      refine zx_get (j := 56) C tC_11 k45 i46 ⟨by decide, Or.inl W_7_35⟩ dX12_path_52 (.ref a47) (rf_s h48) ?_
      refine zx_iload C dX12_path_55 3 rfl ?_
      obtain ⟨n51, k49, i50, hm⟩ := ckR_e hm
      obtain ⟨h52, hm⟩ := ckI_e hm
      refine zx_bald C k49 i50 h52 dX12_path_57 ?_
      refine zx_bipush (v := 33) C dX12_path_58 (by decide) ?_
      refine zx_icmp_lt C 75 dX12_path_60 (by decide) (fun c53 => ?_) (fun c53 => ?_)
      · replace hm := ip_e hm c53
        exact zx_lv [] [] rfl (j_X12_path_75 C htab hin    hm)
      · replace hm := in_e hm c53
        refine zx_aload_n C dX12_path_63 0 rfl ?_
        obtain ⟨a54, h55, hm⟩ := osm_e hm
        refine zx_get (j := 56) C tC_11 k45 i46 ⟨by decide, Or.inl W_7_35⟩ dX12_path_64 (.ref a54) (rf_s h55) ?_
        refine zx_iload C dX12_path_67 3 rfl ?_
        obtain ⟨n58, k56, i57, hm⟩ := ckR_e hm
        obtain ⟨h59, hm⟩ := ckI_e hm
        refine zx_bald C k56 i57 h59 dX12_path_69 ?_
        refine zx_bipush (v := 126) C dX12_path_70 (by decide) ?_
        refine zx_icmp_le C 78 dX12_path_72 (by decide) (fun c60 => ?_) (fun c60 => ?_)
        · replace hm := ip_e hm c60
          obtain ⟨y61, hy61⟩ : ∃ z : Int32, z = (x4) + Int32.ofInt 1 := ⟨_, rfl⟩
          replace hm := ltb_e hm hy61
          refine zx_iinc C [(4, .int (y61)), (0, .ref (x0)), (1, .int (x1)), (2, .int (x2))] dX12_path_78 3 rfl hy61.symm (by decide) rfl ?_
          refine zx_goto C 45 dX12_path_81 (by decide) ?_
          exact zx_lv [1, 2, 3, 0] [(0, .ref (x0)), (1, .int (x1)), (2, .int (x2)), (4, .int (y61))] rfl (hrc45 _ _ _ _ _ hm)
        · replace hm := in_e hm c60
          exact zx_lv [] [] rfl (j_X12_path_75 C htab hin    hm)
set_option maxRecDepth 100000 in
set_option maxHeartbeats 1000000 in
theorem c_X12_path {l : Launch} {D : va_G} {aC : Nat → ClassId} {b0 fu : Nat} {a0 : Nat} {p0 : Int32} {p1 : Int32} {σ τ : tM} {v : Int32} (hm : m_X12_path b0 fu a0 p0 p1 σ = some (v, τ)) : tMt l D aC b0 yX12_path (Cond.code yX12_path cX12_path 5 (some .int)) 1 26 [.ref (a0), .int (p0), .int (p1)] σ (.inl (some (.int v))) τ := by
  unfold m_X12_path at hm
  obtain ⟨hg, hm⟩ := grw_e hm
  refine tMt_of (n := 0) rfl (Nat.le_of_ble_eq_true rfl) hg ?_
  intro p e s m below meth c C htab hin
  refine zx_lv [0, 1, 2] [(0, .ref (a0)), (1, .int (p0)), (2, .int (p1))] rfl ?_
  refine zx_aload_n C dX12_path_0 0 rfl ?_
  refine zx_iconst (v := 0) C dX12_path_1 (by decide) ?_
  obtain ⟨k1, i2, hm⟩ := ckO_e hm
  refine zx_put (j := 0) (ρ := sI (σ) (a0) 0 (0)) C tC_11 k1 i2 ⟨by decide, Or.inl W_6_220⟩ rfl rfl rfl (sI_ok (fun _ => rfl)) dX12_path_2 ?_
  refine zx_aload_n C dX12_path_5 0 rfl ?_
  refine zx_get (j := 57) C tC_11 k1 i2 ⟨by decide, Or.inl W_7_36⟩ dX12_path_6 (.int (tI (sI (σ) (a0) 0 (0)) (a0) 57)) rfl ?_
  refine zx_topi (fun y3 hy3 => ?_)
  replace hm := ltb_e hm hy3
  refine zx_istore_n C [(3, .int (y3)), (0, .ref (a0)), (1, .int (p0)), (2, .int (p1))] dX12_path_9 rfl (by decide) rfl ?_
  refine zx_aload_n C dX12_path_10 1 rfl ?_
  refine zx_iconst (v := 0) C dX12_path_11 (by decide) ?_
  refine zx_put (j := 57) (ρ := sI (sI (σ) (a0) 0 (0)) (a0) 57 (0)) C tC_11 k1 i2 ⟨by decide, Or.inl W_7_36⟩ rfl rfl rfl (sI_ok (fun _ => rfl)) dX12_path_12 ?_
  refine zx_iload_n C dX12_path_15 2 rfl ?_
  refine zx_if_lt C 39 dX12_path_16 (by decide) (fun c4 => ?_) (fun c4 => ?_)
  · replace hm := ip_e hm c4
    exact zx_lv [] [] rfl (j_X12_path_39 C htab hin    hm)
  · replace hm := in_e hm c4
    refine zx_iload_n C dX12_path_19 2 rfl ?_
    refine zx_iconst (v := 1) C dX12_path_20 (by decide) ?_
    refine zx_icmp_gt C 39 dX12_path_21 (by decide) (fun c5 => ?_) (fun c5 => ?_)
    · replace hm := ip_e hm c5
      exact zx_lv [] [] rfl (j_X12_path_39 C htab hin    hm)
    · replace hm := in_e hm c5
      refine zx_iload_n C dX12_path_24 3 rfl ?_
      refine zx_if_lt C 39 dX12_path_25 (by decide) (fun c6 => ?_) (fun c6 => ?_)
      · replace hm := ip_e hm c6
        exact zx_lv [] [] rfl (j_X12_path_39 C htab hin    hm)
      · replace hm := in_e hm c6
        refine zx_iload_n C dX12_path_28 3 rfl ?_
        refine zx_bipush (v := 120) C dX12_path_29 (by decide) ?_
        refine zx_icmp_gt C 39 dX12_path_31 (by decide) (fun c7 => ?_) (fun c7 => ?_)
        · replace hm := ip_e hm c7
          exact zx_lv [] [] rfl (j_X12_path_39 C htab hin    hm)
        · replace hm := in_e hm c7
          refine zx_iload_n C dX12_path_34 3 rfl ?_
          refine zx_iload_n C dX12_path_35 0 rfl ?_
          refine zx_icmp_le C 42 dX12_path_36 (by decide) (fun c8 => ?_) (fun c8 => ?_)
          · replace hm := ip_e hm c8
            refine zx_iconst (v := 0) C dX12_path_42 (by decide) ?_
            refine zx_istore C [(4, .int (0)), (3, .int (y3)), (0, .ref (a0)), (1, .int (p0)), (2, .int (p1))] dX12_path_43 (by decide) rfl ?_
            exact zx_lv [2, 3, 4, 0] [(0, .ref (a0)), (1, .int (p0)), (2, .int (p1)), (4, .int (0))] rfl (l_X12_path_45 C htab hin  _ _ _ _ _ _ hm)
          · replace hm := in_e hm c8
            exact zx_lv [] [] rfl (j_X12_path_39 C htab hin    hm)
abbrev cX12_up : ByteArray := prog_13_method_70_code
def yX12_up : MethodName := ⟨"SyncTreeModel", "up", "()V"⟩
theorem Y_X12_up : tY yX12_up cX12_up 1 none 0 := ⟨W_7_182, W_1_14, ⟨by decide +kernel, by decide +kernel⟩, by decide +kernel⟩
theorem dX12_up_0 : decode cX12_up 0 = .ok (.aload_n 0, 1) := by decide +kernel
theorem dX12_up_1 : decode cX12_up 1 = .ok (.getfield 58, 3) := by decide +kernel
theorem dX12_up_4 : decode cX12_up 4 = .ok (.ifCond .ne 7, 3) := by decide +kernel
theorem dX12_up_7 : decode cX12_up 7 = .ok (.getstatic 51, 3) := by decide +kernel
theorem dX12_up_10 : decode cX12_up 10 = .ok (.athrow, 1) := by decide +kernel
theorem dX12_up_11 : decode cX12_up 11 = .ok (.return_, 1) := by decide +kernel
set_option maxRecDepth 100000 in
set_option maxHeartbeats 1000000 in
theorem c_X12_up {l : Launch} {D : va_G} {aC : Nat → ClassId} {b0 fu : Nat} {a0 : Nat} {σ τ : tM} {v : (Unit) ⊕ Unit} (hm : m_X12_up b0 fu a0 σ = some (v, τ)) : tMt l D aC b0 yX12_up (Cond.code yX12_up cX12_up 1 none) 0 0 [.ref (a0)] σ (rxV "SyncTreeModel$Off" v) τ := by
  unfold m_X12_up at hm
  obtain ⟨hg, hm⟩ := grw_e hm
  refine tMt_of (n := 0) rfl (Nat.le_of_ble_eq_true rfl) hg ?_
  intro p e s m below meth c C htab hin
  refine zx_lv [0] [(0, .ref (a0))] rfl ?_
  refine zx_aload_n C dX12_up_0 0 rfl ?_
  obtain ⟨k1, i2, hm⟩ := ckO_e hm
  refine zx_get (j := 18) C tC_11 k1 i2 ⟨by decide, Or.inl W_6_237⟩ dX12_up_1 (.int (tI (σ) (a0) 18)) rfl ?_
  refine zx_if_ne C 11 dX12_up_4 (by decide) (fun c3 => ?_) (fun c3 => ?_)
  · replace hm := in_e hm c3
    obtain ⟨rfl, rfl⟩ := ret_e hm
    exact zx_vret C rfl rfl rfl dX12_up_11
  · replace hm := ip_e hm c3
    obtain ⟨rfl, rfl⟩ := ret_e hm
    exact zx_off C htab W_7_183 dX12_up_7 dX12_up_10 rfl rfl
abbrev cX12_off : ByteArray := prog_13_method_72_code
def yX12_off : MethodName := ⟨"SyncTreeModel", "off", "()I"⟩
theorem Y_X12_off : tY yX12_off cX12_off 1 (some .int) 0 := ⟨W_8_138, W_1_14, ⟨by decide +kernel, by decide +kernel⟩, by decide +kernel⟩
theorem dX12_off_0 : decode cX12_off 0 = .ok (.aload_n 0, 1) := by decide +kernel
theorem dX12_off_1 : decode cX12_off 1 = .ok (.iconst 1, 1) := by decide +kernel
theorem dX12_off_2 : decode cX12_off 2 = .ok (.putfield 3, 3) := by decide +kernel
theorem dX12_off_5 : decode cX12_off 5 = .ok (.iconst 0, 1) := by decide +kernel
theorem dX12_off_6 : decode cX12_off 6 = .ok (.ireturn, 1) := by decide +kernel
set_option maxRecDepth 100000 in
set_option maxHeartbeats 1000000 in
theorem c_X12_off {l : Launch} {D : va_G} {aC : Nat → ClassId} {b0 fu : Nat} {a0 : Nat} {σ τ : tM} {v : Int32} (hm : m_X12_off b0 fu a0 σ = some (v, τ)) : tMt l D aC b0 yX12_off (Cond.code yX12_off cX12_off 1 (some .int)) 0 0 [.ref (a0)] σ (.inl (some (.int v))) τ := by
  unfold m_X12_off at hm
  obtain ⟨hg, hm⟩ := grw_e hm
  refine tMt_of (n := 0) rfl (Nat.le_of_ble_eq_true rfl) hg ?_
  intro p e s m below meth c C htab hin
  refine zx_lv [0] [(0, .ref (a0))] rfl ?_
  refine zx_aload_n C dX12_off_0 0 rfl ?_
  refine zx_iconst (v := 1) C dX12_off_1 (by decide) ?_
  obtain ⟨k1, i2, hm⟩ := ckO_e hm
  refine zx_put (j := 0) (ρ := sI (σ) (a0) 0 (1)) C tC_11 k1 i2 ⟨by decide, Or.inl W_6_220⟩ rfl rfl rfl (sI_ok (fun _ => rfl)) dX12_off_2 ?_
  refine zx_iconst (v := 0) C dX12_off_5 (by decide) ?_
  obtain ⟨rfl, rfl⟩ := ret_e hm
  exact zx_iret C rfl rfl rfl dX12_off_6
abbrev cX12_isBelow : ByteArray := prog_13_method_81_code
def yX12_isBelow : MethodName := ⟨"SyncTreeModel", "isBelow", "(II)Z"⟩
theorem Y_X12_isBelow : tY yX12_isBelow cX12_isBelow 4 (some .boolean) 2 := ⟨W_8_212, W_1_14, ⟨by decide +kernel, by decide +kernel⟩, by decide +kernel⟩
theorem dX12_isBelow_0 : decode cX12_isBelow 0 = .ok (.iload_n 1, 1) := by decide +kernel
theorem dX12_isBelow_1 : decode cX12_isBelow 1 = .ok (.istore_n 3, 1) := by decide +kernel
theorem dX12_isBelow_2 : decode cX12_isBelow 2 = .ok (.iload_n 3, 1) := by decide +kernel
theorem dX12_isBelow_3 : decode cX12_isBelow 3 = .ok (.iload_n 2, 1) := by decide +kernel
theorem dX12_isBelow_4 : decode cX12_isBelow 4 = .ok (.if_icmp .eq 17, 3) := by decide +kernel
theorem dX12_isBelow_7 : decode cX12_isBelow 7 = .ok (.iload_n 3, 1) := by decide +kernel
theorem dX12_isBelow_8 : decode cX12_isBelow 8 = .ok (.ifCond .eq 13, 3) := by decide +kernel
theorem dX12_isBelow_11 : decode cX12_isBelow 11 = .ok (.aload_n 0, 1) := by decide +kernel
theorem dX12_isBelow_12 : decode cX12_isBelow 12 = .ok (.iload_n 3, 1) := by decide +kernel
theorem dX12_isBelow_13 : decode cX12_isBelow 13 = .ok (.iconst 3, 1) := by decide +kernel
theorem dX12_isBelow_14 : decode cX12_isBelow 14 = .ok (.invokevirtual 247, 3) := by decide +kernel
theorem dX12_isBelow_17 : decode cX12_isBelow 17 = .ok (.istore_n 3, 1) := by decide +kernel
theorem dX12_isBelow_18 : decode cX12_isBelow 18 = .ok (.goto (-16), 3) := by decide +kernel
theorem dX12_isBelow_21 : decode cX12_isBelow 21 = .ok (.iload_n 3, 1) := by decide +kernel
theorem dX12_isBelow_22 : decode cX12_isBelow 22 = .ok (.iload_n 2, 1) := by decide +kernel
theorem dX12_isBelow_23 : decode cX12_isBelow 23 = .ok (.if_icmp .ne 7, 3) := by decide +kernel
theorem dX12_isBelow_26 : decode cX12_isBelow 26 = .ok (.iconst 1, 1) := by decide +kernel
theorem dX12_isBelow_27 : decode cX12_isBelow 27 = .ok (.goto 4, 3) := by decide +kernel
theorem dX12_isBelow_30 : decode cX12_isBelow 30 = .ok (.iconst 0, 1) := by decide +kernel
theorem dX12_isBelow_31 : decode cX12_isBelow 31 = .ok (.ireturn, 1) := by decide +kernel
set_option maxRecDepth 100000 in
set_option maxHeartbeats 1000000 in
theorem j_X12_isBelow_31 {p : Program} {l : Launch} {e : Env} {s : State} {m : MethodId} {args : Array Value} {below : List Frame} {meth : Method} {c : Code} {D : va_G} {aC : Nat → ClassId} {b0 fu : Nat} {σ0 τ : tM} {v : Int32}  (C : tCx p l s m args meth c yX12_isBelow.cls cX12_isBelow 4 (some .boolean) D aC b0 σ0) (htab : ∀ x ∈ c.exceptionTable.toList, False) (hin : meth.name = yX12_isBelow.name)  {s0 : Int32} {σ : tM} (hm : J_X12_isBelow_31 b0 fu  s0 σ = some (v, τ)) : tX p l e s m args below meth c 4 1 22 D aC b0 σ0 (.inl (some (.int v))) τ 31 [] [.int (s0)] σ := by
  unfold J_X12_isBelow_31 at hm
  obtain ⟨h3, hm⟩ := ckZ_e hm
  obtain ⟨rfl, rfl⟩ := ret_e hm
  exact zx_zret C rfl h3 rfl rfl dX12_isBelow_31
set_option maxRecDepth 100000 in
set_option maxHeartbeats 1000000 in
theorem j_X12_isBelow_21 {p : Program} {l : Launch} {e : Env} {s : State} {m : MethodId} {args : Array Value} {below : List Frame} {meth : Method} {c : Code} {D : va_G} {aC : Nat → ClassId} {b0 fu : Nat} {σ0 τ : tM} {v : Int32}  (C : tCx p l s m args meth c yX12_isBelow.cls cX12_isBelow 4 (some .boolean) D aC b0 σ0) (htab : ∀ x ∈ c.exceptionTable.toList, False) (hin : meth.name = yX12_isBelow.name)  {x2 : Int32} {x3 : Int32} {σ : tM} (hm : J_X12_isBelow_21 b0 fu  x2 x3 σ = some (v, τ)) : tX p l e s m args below meth c 4 1 22 D aC b0 σ0 (.inl (some (.int v))) τ 21 [(2, .int (x2)), (3, .int (x3))] [] σ := by
  unfold J_X12_isBelow_21 at hm
  refine zx_iload_n C dX12_isBelow_21 1 rfl ?_
  refine zx_iload_n C dX12_isBelow_22 0 rfl ?_
  refine zx_icmp_ne C 30 dX12_isBelow_23 (by decide) (fun c2 => ?_) (fun c2 => ?_)
  · replace hm := in_e hm c2
    refine zx_iconst (v := 0) C dX12_isBelow_30 (by decide) ?_
    exact zx_lv [] [] rfl (j_X12_isBelow_31 C htab hin    hm)
  · replace hm := ip_e hm c2
    refine zx_iconst (v := 1) C dX12_isBelow_26 (by decide) ?_
    refine zx_goto C 31 dX12_isBelow_27 (by decide) ?_
    exact zx_lv [] [] rfl (j_X12_isBelow_31 C htab hin    hm)
set_option maxRecDepth 100000 in
set_option maxHeartbeats 1000000 in
theorem l_X12_isBelow_2 {p : Program} {l : Launch} {e : Env} {s : State} {m : MethodId} {args : Array Value} {below : List Frame} {meth : Method} {c : Code} {D : va_G} {aC : Nat → ClassId} {b0 fu : Nat} {σ0 τ : tM} {v : Int32}  (C : tCx p l s m args meth c yX12_isBelow.cls cX12_isBelow 4 (some .boolean) D aC b0 σ0) (htab : ∀ x ∈ c.exceptionTable.toList, False) (hin : meth.name = yX12_isBelow.name)  : ∀ (n : Nat) (x0 : Nat) (x2 : Int32) (x3 : Int32) (σ : tM), L_X12_isBelow_2 b0 fu  n x0 x2 x3 σ = some (v, τ) → tX p l e s m args below meth c 4 1 22 D aC b0 σ0 (.inl (some (.int v))) τ 2 [(0, .ref (x0)), (2, .int (x2)), (3, .int (x3))] [] σ := by
  intro n
  induction n with
  | zero => intro x0 x2 x3 σ hm; unfold L_X12_isBelow_2 at hm; cases hm
  | succ n ih =>
    intro x0 x2 x3 σ hm
    unfold L_X12_isBelow_2 at hm
    obtain ⟨rc2, hrc⟩ : ∃ z, z = L_X12_isBelow_2 b0 fu  n := ⟨_, rfl⟩
    replace hm := ltb_e hm hrc
    rw [← hrc] at ih
    have hrc2 := ih
    clear ih hrc
    refine zx_iload_n C dX12_isBelow_2 2 rfl ?_
    refine zx_iload_n C dX12_isBelow_3 1 rfl ?_
    refine zx_icmp_eq C 21 dX12_isBelow_4 (by decide) (fun c1 => ?_) (fun c1 => ?_)
    · replace hm := ip_e hm c1
      exact zx_lv [1, 2] [(2, .int (x2)), (3, .int (x3))] rfl (j_X12_isBelow_21 C htab hin    hm)
    · replace hm := in_e hm c1
      refine zx_iload_n C dX12_isBelow_7 2 rfl ?_
      refine zx_if_eq C 21 dX12_isBelow_8 (by decide) (fun c4 => ?_) (fun c4 => ?_)
      · replace hm := ip_e hm c4
        exact zx_lv [1, 2] [(2, .int (x2)), (3, .int (x3))] rfl (j_X12_isBelow_21 C htab hin    hm)
      · replace hm := in_e hm c4
        refine zx_aload_n C dX12_isBelow_11 0 rfl ?_
        refine zx_iload_n C dX12_isBelow_12 2 rfl ?_
        refine zx_iconst (v := 3) C dX12_isBelow_13 (by decide) ?_
        obtain ⟨k5, i6, hm⟩ := ckO_e hm
        obtain ⟨v7, ρ8, h9, hm⟩ := cll_e hm
        refine zx_callV (σ := σ) C [.int (x3), .int (3)] tC_11 k5 i6 Y_X12_node W_8_40 W_8_42 Wp_80 (c_X12_node h9) (by decide) (by decide) rfl (Nat.le_of_ble_eq_true rfl) dX12_isBelow_14 rfl ?_
        refine zx_istore_n C [(3, .int (v7)), (0, .ref (x0)), (2, .int (x2))] dX12_isBelow_17 rfl (by decide) rfl ?_
        refine zx_goto C 2 dX12_isBelow_18 (by decide) ?_
        exact zx_lv [1, 2, 0] [(0, .ref (x0)), (2, .int (x2)), (3, .int (v7))] rfl (hrc2 _ _ _ _ hm)
set_option maxRecDepth 100000 in
set_option maxHeartbeats 1000000 in
theorem c_X12_isBelow {l : Launch} {D : va_G} {aC : Nat → ClassId} {b0 fu : Nat} {a0 : Nat} {p0 : Int32} {p1 : Int32} {σ τ : tM} {v : Int32} (hm : m_X12_isBelow b0 fu a0 p0 p1 σ = some (v, τ)) : tMt l D aC b0 yX12_isBelow (Cond.code yX12_isBelow cX12_isBelow 4 (some .boolean)) 1 22 [.ref (a0), .int (p0), .int (p1)] σ (.inl (some (.int v))) τ := by
  unfold m_X12_isBelow at hm
  obtain ⟨hg, hm⟩ := grw_e hm
  refine tMt_of (n := 0) rfl (Nat.le_of_ble_eq_true rfl) hg ?_
  intro p e s m below meth c C htab hin
  refine zx_lv [0, 1, 2] [(0, .ref (a0)), (1, .int (p0)), (2, .int (p1))] rfl ?_
  refine zx_iload_n C dX12_isBelow_0 1 rfl ?_
  refine zx_istore_n C [(3, .int (p0)), (0, .ref (a0)), (1, .int (p0)), (2, .int (p1))] dX12_isBelow_1 rfl (by decide) rfl ?_
  exact zx_lv [1, 3, 0] [(0, .ref (a0)), (2, .int (p1)), (3, .int (p0))] rfl (l_X12_isBelow_2 C htab hin  _ _ _ _ _ hm)
