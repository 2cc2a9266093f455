abbrev cX12_init : ByteArray := prog_13_method_66_code
def yX12_init : MethodName := ⟨"SyncTreeModel", "<init>", "()V"⟩
theorem Y_X12_init : tY yX12_init cX12_init 1 none 0 := ⟨W_6_198, W_1_14, ⟨by decide +kernel, by decide +kernel⟩, by decide +kernel⟩
theorem dX12_init_0 : decode cX12_init 0 = .ok (.aload_n 0, 1) := by decide +kernel
theorem dX12_init_1 : decode cX12_init 1 = .ok (.invokespecial 382, 3) := by decide +kernel
theorem dX12_init_4 : decode cX12_init 4 = .ok (.aload_n 0, 1) := by decide +kernel
theorem dX12_init_5 : decode cX12_init 5 = .ok (.ldc_w 387, 3) := by decide +kernel
theorem dX12_init_8 : decode cX12_init 8 = .ok (.newarray .int, 2) := by decide +kernel
theorem dX12_init_10 : decode cX12_init 10 = .ok (.putfield 13, 3) := by decide +kernel
theorem dX12_init_13 : decode cX12_init 13 = .ok (.aload_n 0, 1) := by decide +kernel
theorem dX12_init_14 : decode cX12_init 14 = .ok (.sipush 4096, 3) := by decide +kernel
theorem dX12_init_17 : decode cX12_init 17 = .ok (.newarray .int, 2) := by decide +kernel
theorem dX12_init_19 : decode cX12_init 19 = .ok (.putfield 20, 3) := by decide +kernel
theorem dX12_init_22 : decode cX12_init 22 = .ok (.aload_n 0, 1) := by decide +kernel
theorem dX12_init_23 : decode cX12_init 23 = .ok (.sipush 4096, 3) := by decide +kernel
theorem dX12_init_26 : decode cX12_init 26 = .ok (.newarray .int, 2) := by decide +kernel
theorem dX12_init_28 : decode cX12_init 28 = .ok (.putfield 27, 3) := by decide +kernel
theorem dX12_init_31 : decode cX12_init 31 = .ok (.aload_n 0, 1) := by decide +kernel
theorem dX12_init_32 : decode cX12_init 32 = .ok (.sipush 6200, 3) := by decide +kernel
theorem dX12_init_35 : decode cX12_init 35 = .ok (.newarray .int, 2) := by decide +kernel
theorem dX12_init_37 : decode cX12_init 37 = .ok (.putfield 68, 3) := by decide +kernel
theorem dX12_init_40 : decode cX12_init 40 = .ok (.aload_n 0, 1) := by decide +kernel
theorem dX12_init_41 : decode cX12_init 41 = .ok (.sipush 6200, 3) := by decide +kernel
theorem dX12_init_44 : decode cX12_init 44 = .ok (.newarray .int, 2) := by decide +kernel
theorem dX12_init_46 : decode cX12_init 46 = .ok (.putfield 74, 3) := by decide +kernel
theorem dX12_init_49 : decode cX12_init 49 = .ok (.aload_n 0, 1) := by decide +kernel
theorem dX12_init_50 : decode cX12_init 50 = .ok (.ldc_w 388, 3) := by decide +kernel
theorem dX12_init_53 : decode cX12_init 53 = .ok (.newarray .byte, 2) := by decide +kernel
theorem dX12_init_55 : decode cX12_init 55 = .ok (.putfield 84, 3) := by decide +kernel
theorem dX12_init_58 : decode cX12_init 58 = .ok (.aload_n 0, 1) := by decide +kernel
theorem dX12_init_59 : decode cX12_init 59 = .ok (.sipush 256, 3) := by decide +kernel
theorem dX12_init_62 : decode cX12_init 62 = .ok (.newarray .int, 2) := by decide +kernel
theorem dX12_init_64 : decode cX12_init 64 = .ok (.putfield 65, 3) := by decide +kernel
theorem dX12_init_67 : decode cX12_init 67 = .ok (.aload_n 0, 1) := by decide +kernel
theorem dX12_init_68 : decode cX12_init 68 = .ok (.sipush 256, 3) := by decide +kernel
theorem dX12_init_71 : decode cX12_init 71 = .ok (.newarray .int, 2) := by decide +kernel
theorem dX12_init_73 : decode cX12_init 73 = .ok (.putfield 71, 3) := by decide +kernel
theorem dX12_init_76 : decode cX12_init 76 = .ok (.aload_n 0, 1) := by decide +kernel
theorem dX12_init_77 : decode cX12_init 77 = .ok (.sipush 256, 3) := by decide +kernel
theorem dX12_init_80 : decode cX12_init 80 = .ok (.newarray .int, 2) := by decide +kernel
theorem dX12_init_82 : decode cX12_init 82 = .ok (.putfield 77, 3) := by decide +kernel
theorem dX12_init_85 : decode cX12_init 85 = .ok (.aload_n 0, 1) := by decide +kernel
theorem dX12_init_86 : decode cX12_init 86 = .ok (.ldc_w 389, 3) := by decide +kernel
theorem dX12_init_89 : decode cX12_init 89 = .ok (.newarray .byte, 2) := by decide +kernel
theorem dX12_init_91 : decode cX12_init 91 = .ok (.putfield 80, 3) := by decide +kernel
theorem dX12_init_94 : decode cX12_init 94 = .ok (.aload_n 0, 1) := by decide +kernel
theorem dX12_init_95 : decode cX12_init 95 = .ok (.sipush 6200, 3) := by decide +kernel
theorem dX12_init_98 : decode cX12_init 98 = .ok (.newarray .int, 2) := by decide +kernel
theorem dX12_init_100 : decode cX12_init 100 = .ok (.putfield 62, 3) := by decide +kernel
theorem dX12_init_103 : decode cX12_init 103 = .ok (.aload_n 0, 1) := by decide +kernel
theorem dX12_init_104 : decode cX12_init 104 = .ok (.ldc_w 388, 3) := by decide +kernel
theorem dX12_init_107 : decode cX12_init 107 = .ok (.newarray .byte, 2) := by decide +kernel
theorem dX12_init_109 : decode cX12_init 109 = .ok (.putfield 102, 3) := by decide +kernel
theorem dX12_init_112 : decode cX12_init 112 = .ok (.aload_n 0, 1) := by decide +kernel
theorem dX12_init_113 : decode cX12_init 113 = .ok (.sipush 2000, 3) := by decide +kernel
theorem dX12_init_116 : decode cX12_init 116 = .ok (.newarray .boolean, 2) := by decide +kernel
theorem dX12_init_118 : decode cX12_init 118 = .ok (.putfield 244, 3) := by decide +kernel
theorem dX12_init_121 : decode cX12_init 121 = .ok (.aload_n 0, 1) := by decide +kernel
theorem dX12_init_122 : decode cX12_init 122 = .ok (.sipush 2000, 3) := by decide +kernel
theorem dX12_init_125 : decode cX12_init 125 = .ok (.newarray .int, 2) := by decide +kernel
theorem dX12_init_127 : decode cX12_init 127 = .ok (.putfield 190, 3) := by decide +kernel
theorem dX12_init_130 : decode cX12_init 130 = .ok (.aload_n 0, 1) := by decide +kernel
theorem dX12_init_131 : decode cX12_init 131 = .ok (.bipush 64, 2) := by decide +kernel
theorem dX12_init_133 : decode cX12_init 133 = .ok (.newarray .boolean, 2) := by decide +kernel
theorem dX12_init_135 : decode cX12_init 135 = .ok (.putfield 193, 3) := by decide +kernel
theorem dX12_init_138 : decode cX12_init 138 = .ok (.aload_n 0, 1) := by decide +kernel
theorem dX12_init_139 : decode cX12_init 139 = .ok (.sipush 6200, 3) := by decide +kernel
theorem dX12_init_142 : decode cX12_init 142 = .ok (.newarray .boolean, 2) := by decide +kernel
theorem dX12_init_144 : decode cX12_init 144 = .ok (.putfield 108, 3) := by decide +kernel
theorem dX12_init_147 : decode cX12_init 147 = .ok (.aload_n 0, 1) := by decide +kernel
theorem dX12_init_148 : decode cX12_init 148 = .ok (.sipush 6200, 3) := by decide +kernel
theorem dX12_init_151 : decode cX12_init 151 = .ok (.newarray .boolean, 2) := by decide +kernel
theorem dX12_init_153 : decode cX12_init 153 = .ok (.putfield 116, 3) := by decide +kernel
theorem dX12_init_156 : decode cX12_init 156 = .ok (.aload_n 0, 1) := by decide +kernel
theorem dX12_init_157 : decode cX12_init 157 = .ok (.bipush 64, 2) := by decide +kernel
theorem dX12_init_159 : decode cX12_init 159 = .ok (.newarray .int, 2) := by decide +kernel
theorem dX12_init_161 : decode cX12_init 161 = .ok (.putfield 140, 3) := by decide +kernel
theorem dX12_init_164 : decode cX12_init 164 = .ok (.aload_n 0, 1) := by decide +kernel
theorem dX12_init_165 : decode cX12_init 165 = .ok (.bipush 64, 2) := by decide +kernel
theorem dX12_init_167 : decode cX12_init 167 = .ok (.newarray .int, 2) := by decide +kernel
theorem dX12_init_169 : decode cX12_init 169 = .ok (.putfield 143, 3) := by decide +kernel
theorem dX12_init_172 : decode cX12_init 172 = .ok (.aload_n 0, 1) := by decide +kernel
theorem dX12_init_173 : decode cX12_init 173 = .ok (.bipush 64, 2) := by decide +kernel
theorem dX12_init_175 : decode cX12_init 175 = .ok (.newarray .int, 2) := by decide +kernel
theorem dX12_init_177 : decode cX12_init 177 = .ok (.putfield 125, 3) := by decide +kernel
theorem dX12_init_180 : decode cX12_init 180 = .ok (.aload_n 0, 1) := by decide +kernel
theorem dX12_init_181 : decode cX12_init 181 = .ok (.bipush 64, 2) := by decide +kernel
theorem dX12_init_183 : decode cX12_init 183 = .ok (.newarray .int, 2) := by decide +kernel
theorem dX12_init_185 : decode cX12_init 185 = .ok (.putfield 146, 3) := by decide +kernel
theorem dX12_init_188 : decode cX12_init 188 = .ok (.aload_n 0, 1) := by decide +kernel
theorem dX12_init_189 : decode cX12_init 189 = .ok (.bipush 64, 2) := by decide +kernel
theorem dX12_init_191 : decode cX12_init 191 = .ok (.newarray .int, 2) := by decide +kernel
theorem dX12_init_193 : decode cX12_init 193 = .ok (.putfield 149, 3) := by decide +kernel
theorem dX12_init_196 : decode cX12_init 196 = .ok (.aload_n 0, 1) := by decide +kernel
theorem dX12_init_197 : decode cX12_init 197 = .ok (.bipush 64, 2) := by decide +kernel
theorem dX12_init_199 : decode cX12_init 199 = .ok (.newarray .int, 2) := by decide +kernel
theorem dX12_init_201 : decode cX12_init 201 = .ok (.putfield 152, 3) := by decide +kernel
theorem dX12_init_204 : decode cX12_init 204 = .ok (.aload_n 0, 1) := by decide +kernel
theorem dX12_init_205 : decode cX12_init 205 = .ok (.bipush 64, 2) := by decide +kernel
theorem dX12_init_207 : decode cX12_init 207 = .ok (.newarray .int, 2) := by decide +kernel
theorem dX12_init_209 : decode cX12_init 209 = .ok (.putfield 155, 3) := by decide +kernel
theorem dX12_init_212 : decode cX12_init 212 = .ok (.aload_n 0, 1) := by decide +kernel
theorem dX12_init_213 : decode cX12_init 213 = .ok (.sipush 1024, 3) := by decide +kernel
theorem dX12_init_216 : decode cX12_init 216 = .ok (.newarray .int, 2) := by decide +kernel
theorem dX12_init_218 : decode cX12_init 218 = .ok (.putfield 134, 3) := by decide +kernel
theorem dX12_init_221 : decode cX12_init 221 = .ok (.aload_n 0, 1) := by decide +kernel
theorem dX12_init_222 : decode cX12_init 222 = .ok (.iconst 2, 1) := by decide +kernel
theorem dX12_init_223 : decode cX12_init 223 = .ok (.anewarray 390, 3) := by decide +kernel
theorem dX12_init_226 : decode cX12_init 226 = .ok (.dup, 1) := by decide +kernel
theorem dX12_init_227 : decode cX12_init 227 = .ok (.iconst 0, 1) := by decide +kernel
theorem dX12_init_228 : decode cX12_init 228 = .ok (.bipush 120, 2) := by decide +kernel
theorem dX12_init_230 : decode cX12_init 230 = .ok (.newarray .byte, 2) := by decide +kernel
theorem dX12_init_232 : decode cX12_init 232 = .ok (.aastore, 1) := by decide +kernel
theorem dX12_init_233 : decode cX12_init 233 = .ok (.dup, 1) := by decide +kernel
theorem dX12_init_234 : decode cX12_init 234 = .ok (.iconst 1, 1) := by decide +kernel
theorem dX12_init_235 : decode cX12_init 235 = .ok (.bipush 120, 2) := by decide +kernel
theorem dX12_init_237 : decode cX12_init 237 = .ok (.newarray .byte, 2) := by decide +kernel
theorem dX12_init_239 : decode cX12_init 239 = .ok (.aastore, 1) := by decide +kernel
theorem dX12_init_240 : decode cX12_init 240 = .ok (.putfield 323, 3) := by decide +kernel
theorem dX12_init_243 : decode cX12_init 243 = .ok (.aload_n 0, 1) := by decide +kernel
theorem dX12_init_244 : decode cX12_init 244 = .ok (.iconst 2, 1) := by decide +kernel
theorem dX12_init_245 : decode cX12_init 245 = .ok (.newarray .int, 2) := by decide +kernel
theorem dX12_init_247 : decode cX12_init 247 = .ok (.putfield 346, 3) := by decide +kernel
theorem dX12_init_250 : decode cX12_init 250 = .ok (.aload_n 0, 1) := by decide +kernel
theorem dX12_init_251 : decode cX12_init 251 = .ok (.sipush 2048, 3) := by decide +kernel
theorem dX12_init_254 : decode cX12_init 254 = .ok (.newarray .byte, 2) := by decide +kernel
theorem dX12_init_256 : decode cX12_init 256 = .ok (.putfield 327, 3) := by decide +kernel
theorem dX12_init_259 : decode cX12_init 259 = .ok (.aload_n 0, 1) := by decide +kernel
theorem dX12_init_260 : decode cX12_init 260 = .ok (.sipush 2048, 3) := by decide +kernel
theorem dX12_init_263 : decode cX12_init 263 = .ok (.newarray .byte, 2) := by decide +kernel
theorem dX12_init_265 : decode cX12_init 265 = .ok (.putfield 333, 3) := by decide +kernel
theorem dX12_init_268 : decode cX12_init 268 = .ok (.aload_n 0, 1) := by decide +kernel
theorem dX12_init_269 : decode cX12_init 269 = .ok (.bipush 120, 2) := by decide +kernel
theorem dX12_init_271 : decode cX12_init 271 = .ok (.newarray .byte, 2) := by decide +kernel
theorem dX12_init_273 : decode cX12_init 273 = .ok (.putfield 358, 3) := by decide +kernel
theorem dX12_init_276 : decode cX12_init 276 = .ok (.aload_n 0, 1) := by decide +kernel
theorem dX12_init_277 : decode cX12_init 277 = .ok (.sipush 6200, 3) := by decide +kernel
theorem dX12_init_280 : decode cX12_init 280 = .ok (.newarray .int, 2) := by decide +kernel
theorem dX12_init_282 : decode cX12_init 282 = .ok (.putfield 361, 3) := by decide +kernel
theorem dX12_init_285 : decode cX12_init 285 = .ok (.aload_n 0, 1) := by decide +kernel
theorem dX12_init_286 : decode cX12_init 286 = .ok (.sipush 6200, 3) := by decide +kernel
theorem dX12_init_289 : decode cX12_init 289 = .ok (.newarray .int, 2) := by decide +kernel
theorem dX12_init_291 : decode cX12_init 291 = .ok (.putfield 370, 3) := by decide +kernel
theorem dX12_init_294 : decode cX12_init 294 = .ok (.aload_n 0, 1) := by decide +kernel
theorem dX12_init_295 : decode cX12_init 295 = .ok (.sipush 4000, 3) := by decide +kernel
theorem dX12_init_298 : decode cX12_init 298 = .ok (.newarray .byte, 2) := by decide +kernel
theorem dX12_init_300 : decode cX12_init 300 = .ok (.putfield 391, 3) := by decide +kernel
theorem dX12_init_303 : decode cX12_init 303 = .ok (.aload_n 0, 1) := by decide +kernel
theorem dX12_init_304 : decode cX12_init 304 = .ok (.bipush 16, 2) := by decide +kernel
theorem dX12_init_306 : decode cX12_init 306 = .ok (.newarray .int, 2) := by decide +kernel
theorem dX12_init_308 : decode cX12_init 308 = .ok (.putfield 286, 3) := by decide +kernel
theorem dX12_init_311 : decode cX12_init 311 = .ok (.aload_n 0, 1) := by decide +kernel
theorem dX12_init_312 : decode cX12_init 312 = .ok (.sipush 2000, 3) := by decide +kernel
theorem dX12_init_315 : decode cX12_init 315 = .ok (.newarray .boolean, 2) := by decide +kernel
theorem dX12_init_317 : decode cX12_init 317 = .ok (.putfield 394, 3) := by decide +kernel
theorem dX12_init_320 : decode cX12_init 320 = .ok (.aload_n 0, 1) := by decide +kernel
theorem dX12_init_321 : decode cX12_init 321 = .ok (.bipush 40, 2) := by decide +kernel
theorem dX12_init_323 : decode cX12_init 323 = .ok (.bipush 16, 2) := by decide +kernel
theorem dX12_init_325 : decode cX12_init 325 = .ok (.invokevirtual 397, 3) := by decide +kernel
theorem dX12_init_328 : decode cX12_init 328 = .ok (.pop, 1) := by decide +kernel
theorem dX12_init_329 : decode cX12_init 329 = .ok (.return_, 1) := by decide +kernel
def m_X12_init (b0 fu : Nat) (a0 : Nat) (σ : tM) : Option ((Unit) × tM) := grw σ (ltb (sN (σ) (b0 + tn (σ)) (.inr (0, ((554080 : Int32)).toNatClampNeg)) (((554080 : Int32)).toNatClampNeg)) (fun ρ1 => ckO b0 (ρ1) (a0) 11 (ltb (sN (sA (ρ1) (a0) 1 (some (b0 + tn (σ)))) (b0 + tn (sA (ρ1) (a0) 1 (some (b0 + tn (σ))))) (.inr (0, ((4096 : Int32)).toNatClampNeg)) (((4096 : Int32)).toNatClampNeg)) (fun ρ4 => ckO b0 (ρ4) (a0) 11 (ltb (sN (sA (ρ4) (a0) 2 (some (b0 + tn (sA (ρ1) (a0) 1 (some (b0 + tn (σ))))))) (b0 + tn (sA (ρ4) (a0) 2 (some (b0 + tn (sA (ρ1) (a0) 1 (some (b0 + tn (σ)))))))) (.inr (0, ((4096 : Int32)).toNatClampNeg)) (((4096 : Int32)).toNatClampNeg)) (fun ρ7 => ckO b0 (ρ7) (a0) 11 (ltb (sN (sA (ρ7) (a0) 3 (some (b0 + tn (sA (ρ4) (a0) 2 (some (b0 + tn (sA (ρ1) (a0) 1 (some (b0 + tn (σ)))))))))) (b0 + tn (sA (ρ7) (a0) 3 (some (b0 + tn (sA (ρ4) (a0) 2 (some (b0 + tn (sA (ρ1) (a0) 1 (some (b0 + tn (σ))))))))))) (.inr (0, ((6200 : Int32)).toNatClampNeg)) (((6200 : Int32)).toNatClampNeg)) (fun ρ10 => ckO b0 (ρ10) (a0) 11 (ltb (sN (sA (ρ10) (a0) 8 (some (b0 + tn (sA (ρ7) (a0) 3 (some (b0 + tn (sA (ρ4) (a0) 2 (some (b0 + tn (sA (ρ1) (a0) 1 (some (b0 + tn (σ))))))))))))) (b0 + tn (sA (ρ10) (a0) 8 (some (b0 + tn (sA (ρ7) (a0) 3 (some (b0 + tn (sA (ρ4) (a0) 2 (some (b0 + tn (sA (ρ1) (a0) 1 (some (b0 + tn (σ)))))))))))))) (.inr (0, ((6200 : Int32)).toNatClampNeg)) (((6200 : Int32)).toNatClampNeg)) (fun ρ13 => ckO b0 (ρ13) (a0) 11 (ltb (sN (sA (ρ13) (a0) 9 (some (b0 + tn (sA (ρ10) (a0) 8 (some (b0 + tn (sA (ρ7) (a0) 3 (some (b0 + tn (sA (ρ4) (a0) 2 (some (b0 + tn (sA (ρ1) (a0) 1 (some (b0 + tn (σ)))))))))))))))) (b0 + tn (sA (ρ13) (a0) 9 (some (b0 + tn (sA (ρ10) (a0) 8 (some (b0 + tn (sA (ρ7) (a0) 3 (some (b0 + tn (sA (ρ4) (a0) 2 (some (b0 + tn (sA (ρ1) (a0) 1 (some (b0 + tn (σ))))))))))))))))) (.inr (1, ((512000 : Int32)).toNatClampNeg)) (((512000 : Int32)).toNatClampNeg)) (fun ρ16 => ckO b0 (ρ16) (a0) 11 (ltb (sN (sA (ρ16) (a0) 10 (some (b0 + tn (sA (ρ13) (a0) 9 (some (b0 + tn (sA (ρ10) (a0) 8 (some (b0 + tn (sA (ρ7) (a0) 3 (some (b0 + tn (sA (ρ4) (a0) 2 (some (b0 + tn (sA (ρ1) (a0) 1 (some (b0 + tn (σ))))))))))))))))))) (b0 + tn (sA (ρ16) (a0) 10 (some (b0 + tn (sA (ρ13) (a0) 9 (some (b0 + tn (sA (ρ10) (a0) 8 (some (b0 + tn (sA (ρ7) (a0) 3 (some (b0 + tn (sA (ρ4) (a0) 2 (some (b0 + tn (sA (ρ1) (a0) 1 (some (b0 + tn (σ)))))))))))))))))))) (.inr (0, ((256 : Int32)).toNatClampNeg)) (((256 : Int32)).toNatClampNeg)) (fun ρ19 => ckO b0 (ρ19) (a0) 11 (ltb (sN (sA (ρ19) (a0) 11 (some (b0 + tn (sA (ρ16) (a0) 10 (some (b0 + tn (sA (ρ13) (a0) 9 (some (b0 + tn (sA (ρ10) (a0) 8 (some (b0 + tn (sA (ρ7) (a0) 3 (some (b0 + tn (sA (ρ4) (a0) 2 (some (b0 + tn (sA (ρ1) (a0) 1 (some (b0 + tn (σ)))))))))))))))))))))) (b0 + tn (sA (ρ19) (a0) 11 (some (b0 + tn (sA (ρ16) (a0) 10 (some (b0 + tn (sA (ρ13) (a0) 9 (some (b0 + tn (sA (ρ10) (a0) 8 (some (b0 + tn (sA (ρ7) (a0) 3 (some (b0 + tn (sA (ρ4) (a0) 2 (some (b0 + tn (sA (ρ1) (a0) 1 (some (b0 + tn (σ))))))))))))))))))))))) (.inr (0, ((256 : Int32)).toNatClampNeg)) (((256 : Int32)).toNatClampNeg)) (fun ρ22 => ckO b0 (ρ22) (a0) 11 (ltb (sA (ρ22) (a0) 12 (some (b0 + tn (sA (ρ19) (a0) 11 (some (b0 + tn (sA (ρ16) (a0) 10 (some (b0 + tn (sA (ρ13) (a0) 9 (some (b0 + tn (sA (ρ10) (a0) 8 (some (b0 + tn (sA (ρ7) (a0) 3 (some (b0 + tn (sA (ρ4) (a0) 2 (some (b0 + tn (sA (ρ1) (a0) 1 (some (b0 + tn (σ))))))))))))))))))))))))) (fun ρ25 => ltb (sN (ρ25) (b0 + tn (ρ25)) (.inr (0, ((256 : Int32)).toNatClampNeg)) (((256 : Int32)).toNatClampNeg)) (fun ρ30 => ckO b0 (ρ30) (a0) 11 (ltb (sN (sA (ρ30) (a0) 13 (some (b0 + tn (ρ25)))) (b0 + tn (sA (ρ30) (a0) 13 (some (b0 + tn (ρ25))))) (.inr (1, ((65536 : Int32)).toNatClampNeg)) (((65536 : Int32)).toNatClampNeg)) (fun ρ33 => ckO b0 (ρ33) (a0) 11 (ltb (sN (sA (ρ33) (a0) 14 (some (b0 + tn (sA (ρ30) (a0) 13 (some (b0 + tn (ρ25))))))) (b0 + tn (sA (ρ33) (a0) 14 (some (b0 + tn (sA (ρ30) (a0) 13 (some (b0 + tn (ρ25)))))))) (.inr (0, ((6200 : Int32)).toNatClampNeg)) (((6200 : Int32)).toNatClampNeg)) (fun ρ36 => ckO b0 (ρ36) (a0) 11 (ltb (sN (sA (ρ36) (a0) 17 (some (b0 + tn (sA (ρ33) (a0) 14 (some (b0 + tn (sA (ρ30) (a0) 13 (some (b0 + tn (ρ25)))))))))) (b0 + tn (sA (ρ36) (a0) 17 (some (b0 + tn (sA (ρ33) (a0) 14 (some (b0 + tn (sA (ρ30) (a0) 13 (some (b0 + tn (ρ25))))))))))) (.inr (1, ((512000 : Int32)).toNatClampNeg)) (((512000 : Int32)).toNatClampNeg)) (fun ρ39 => ckO b0 (ρ39) (a0) 11 (ltb (sN (sA (ρ39) (a0) 22 (some (b0 + tn (sA (ρ36) (a0) 17 (some (b0 + tn (sA (ρ33) (a0) 14 (some (b0 + tn (sA (ρ30) (a0) 13 (some (b0 + tn (ρ25))))))))))))) (b0 + tn (sA (ρ39) (a0) 22 (some (b0 + tn (sA (ρ36) (a0) 17 (some (b0 + tn (sA (ρ33) (a0) 14 (some (b0 + tn (sA (ρ30) (a0) 13 (some (b0 + tn (ρ25)))))))))))))) (.inr (2, ((2000 : Int32)).toNatClampNeg)) (((2000 : Int32)).toNatClampNeg)) (fun ρ42 => ckO b0 (ρ42) (a0) 11 (ltb (sN (sA (ρ42) (a0) 23 (some (b0 + tn (sA (ρ39) (a0) 22 (some (b0 + tn (sA (ρ36) (a0) 17 (some (b0 + tn (sA (ρ33) (a0) 14 (some (b0 + tn (sA (ρ30) (a0) 13 (some (b0 + tn (ρ25)))))))))))))))) (b0 + tn (sA (ρ42) (a0) 23 (some (b0 + tn (sA (ρ39) (a0) 22 (some (b0 + tn (sA (ρ36) (a0) 17 (some (b0 + tn (sA (ρ33) (a0) 14 (some (b0 + tn (sA (ρ30) (a0) 13 (some (b0 + tn (ρ25))))))))))))))))) (.inr (0, ((2000 : Int32)).toNatClampNeg)) (((2000 : Int32)).toNatClampNeg)) (fun ρ45 => ckO b0 (ρ45) (a0) 11 (ltb (sN (sA (ρ45) (a0) 24 (some (b0 + tn (sA (ρ42) (a0) 23 (some (b0 + tn (sA (ρ39) (a0) 22 (some (b0 + tn (sA (ρ36) (a0) 17 (some (b0 + tn (sA (ρ33) (a0) 14 (some (b0 + tn (sA (ρ30) (a0) 13 (some (b0 + tn (ρ25))))))))))))))))))) (b0 + tn (sA (ρ45) (a0) 24 (some (b0 + tn (sA (ρ42) (a0) 23 (some (b0 + tn (sA (ρ39) (a0) 22 (some (b0 + tn (sA (ρ36) (a0) 17 (some (b0 + tn (sA (ρ33) (a0) 14 (some (b0 + tn (sA (ρ30) (a0) 13 (some (b0 + tn (ρ25)))))))))))))))))))) (.inr (2, ((64 : Int32)).toNatClampNeg)) (((64 : Int32)).toNatClampNeg)) (fun ρ48 => ckO b0 (ρ48) (a0) 11 (ltb (sN (sA (ρ48) (a0) 25 (some (b0 + tn (sA (ρ45) (a0) 24 (some (b0 + tn (sA (ρ42) (a0) 23 (some (b0 + tn (sA (ρ39) (a0) 22 (some (b0 + tn (sA (ρ36) (a0) 17 (some (b0 + tn (sA (ρ33) (a0) 14 (some (b0 + tn (sA (ρ30) (a0) 13 (some (b0 + tn (ρ25)))))))))))))))))))))) (b0 + tn (sA (ρ48) (a0) 25 (some (b0 + tn (sA (ρ45) (a0) 24 (some (b0 + tn (sA (ρ42) (a0) 23 (some (b0 + tn (sA (ρ39) (a0) 22 (some (b0 + tn (sA (ρ36) (a0) 17 (some (b0 + tn (sA (ρ33) (a0) 14 (some (b0 + tn (sA (ρ30) (a0) 13 (some (b0 + tn (ρ25))))))))))))))))))))))) (.inr (2, ((6200 : Int32)).toNatClampNeg)) (((6200 : Int32)).toNatClampNeg)) (fun ρ51 => ckO b0 (ρ51) (a0) 11 (ltb (sA (ρ51) (a0) 26 (some (b0 + tn (sA (ρ48) (a0) 25 (some (b0 + tn (sA (ρ45) (a0) 24 (some (b0 + tn (sA (ρ42) (a0) 23 (some (b0 + tn (sA (ρ39) (a0) 22 (some (b0 + tn (sA (ρ36) (a0) 17 (some (b0 + tn (sA (ρ33) (a0) 14 (some (b0 + tn (sA (ρ30) (a0) 13 (some (b0 + tn (ρ25))))))))))))))))))))))))) (fun ρ54 => ltb (sN (ρ54) (b0 + tn (ρ54)) (.inr (2, ((6200 : Int32)).toNatClampNeg)) (((6200 : Int32)).toNatClampNeg)) (fun ρ59 => ckO b0 (ρ59) (a0) 11 (ltb (sN (sA (ρ59) (a0) 27 (some (b0 + tn (ρ54)))) (b0 + tn (sA (ρ59) (a0) 27 (some (b0 + tn (ρ54))))) (.inr (0, ((64 : Int32)).toNatClampNeg)) (((64 : Int32)).toNatClampNeg)) (fun ρ62 => ckO b0 (ρ62) (a0) 11 (ltb (sN (sA (ρ62) (a0) 37 (some (b0 + tn (sA (ρ59) (a0) 27 (some (b0 + tn (ρ54))))))) (b0 + tn (sA (ρ62) (a0) 37 (some (b0 + tn (sA (ρ59) (a0) 27 (some (b0 + tn (ρ54)))))))) (.inr (0, ((64 : Int32)).toNatClampNeg)) (((64 : Int32)).toNatClampNeg)) (fun ρ65 => ckO b0 (ρ65) (a0) 11 (ltb (sN (sA (ρ65) (a0) 38 (some (b0 + tn (sA (ρ62) (a0) 37 (some (b0 + tn (sA (ρ59) (a0) 27 (some (b0 + tn (ρ54)))))))))) (b0 + tn (sA (ρ65) (a0) 38 (some (b0 + tn (sA (ρ62) (a0) 37 (some (b0 + tn (sA (ρ59) (a0) 27 (some (b0 + tn (ρ54))))))))))) (.inr (0, ((64 : Int32)).toNatClampNeg)) (((64 : Int32)).toNatClampNeg)) (fun ρ68 => ckO b0 (ρ68) (a0) 11 (ltb (sN (sA (ρ68) (a0) 39 (some (b0 + tn (sA (ρ65) (a0) 38 (some (b0 + tn (sA (ρ62) (a0) 37 (some (b0 + tn (sA (ρ59) (a0) 27 (some (b0 + tn (ρ54))))))))))))) (b0 + tn (sA (ρ68) (a0) 39 (some (b0 + tn (sA (ρ65) (a0) 38 (some (b0 + tn (sA (ρ62) (a0) 37 (some (b0 + tn (sA (ρ59) (a0) 27 (some (b0 + tn (ρ54)))))))))))))) (.inr (0, ((64 : Int32)).toNatClampNeg)) (((64 : Int32)).toNatClampNeg)) (fun ρ71 => ckO b0 (ρ71) (a0) 11 (ltb (sN (sA (ρ71) (a0) 40 (some (b0 + tn (sA (ρ68) (a0) 39 (some (b0 + tn (sA (ρ65) (a0) 38 (some (b0 + tn (sA (ρ62) (a0) 37 (some (b0 + tn (sA (ρ59) (a0) 27 (some (b0 + tn (ρ54)))))))))))))))) (b0 + tn (sA (ρ71) (a0) 40 (some (b0 + tn (sA (ρ68) (a0) 39 (some (b0 + tn (sA (ρ65) (a0) 38 (some (b0 + tn (sA (ρ62) (a0) 37 (some (b0 + tn (sA (ρ59) (a0) 27 (some (b0 + tn (ρ54))))))))))))))))) (.inr (0, ((64 : Int32)).toNatClampNeg)) (((64 : Int32)).toNatClampNeg)) (fun ρ74 => ckO b0 (ρ74) (a0) 11 (ltb (sN (sA (ρ74) (a0) 41 (some (b0 + tn (sA (ρ71) (a0) 40 (some (b0 + tn (sA (ρ68) (a0) 39 (some (b0 + tn (sA (ρ65) (a0) 38 (some (b0 + tn (sA (ρ62) (a0) 37 (some (b0 + tn (sA (ρ59) (a0) 27 (some (b0 + tn (ρ54))))))))))))))))))) (b0 + tn (sA (ρ74) (a0) 41 (some (b0 + tn (sA (ρ71) (a0) 40 (some (b0 + tn (sA (ρ68) (a0) 39 (some (b0 + tn (sA (ρ65) (a0) 38 (some (b0 + tn (sA (ρ62) (a0) 37 (some (b0 + tn (sA (ρ59) (a0) 27 (some (b0 + tn (ρ54)))))))))))))))))))) (.inr (0, ((64 : Int32)).toNatClampNeg)) (((64 : Int32)).toNatClampNeg)) (fun ρ77 => ckO b0 (ρ77) (a0) 11 (ltb (sN (sA (ρ77) (a0) 42 (some (b0 + tn (sA (ρ74) (a0) 41 (some (b0 + tn (sA (ρ71) (a0) 40 (some (b0 + tn (sA (ρ68) (a0) 39 (some (b0 + tn (sA (ρ65) (a0) 38 (some (b0 + tn (sA (ρ62) (a0) 37 (some (b0 + tn (sA (ρ59) (a0) 27 (some (b0 + tn (ρ54)))))))))))))))))))))) (b0 + tn (sA (ρ77) (a0) 42 (some (b0 + tn (sA (ρ74) (a0) 41 (some (b0 + tn (sA (ρ71) (a0) 40 (some (b0 + tn (sA (ρ68) (a0) 39 (some (b0 + tn (sA (ρ65) (a0) 38 (some (b0 + tn (sA (ρ62) (a0) 37 (some (b0 + tn (sA (ρ59) (a0) 27 (some (b0 + tn (ρ54))))))))))))))))))))))) (.inr (0, ((64 : Int32)).toNatClampNeg)) (((64 : Int32)).toNatClampNeg)) (fun ρ80 => ckO b0 (ρ80) (a0) 11 (ltb (sA (ρ80) (a0) 43 (some (b0 + tn (sA (ρ77) (a0) 42 (some (b0 + tn (sA (ρ74) (a0) 41 (some (b0 + tn (sA (ρ71) (a0) 40 (some (b0 + tn (sA (ρ68) (a0) 39 (some (b0 + tn (sA (ρ65) (a0) 38 (some (b0 + tn (sA (ρ62) (a0) 37 (some (b0 + tn (sA (ρ59) (a0) 27 (some (b0 + tn (ρ54))))))))))))))))))))))))) (fun ρ83 => ltb (sN (ρ83) (b0 + tn (ρ83)) (.inr (0, ((1024 : Int32)).toNatClampNeg)) (((1024 : Int32)).toNatClampNeg)) (fun ρ88 => ckO b0 (ρ88) (a0) 11 (ltb (sN (sA (ρ88) (a0) 44 (some (b0 + tn (ρ83)))) (b0 + tn (sA (ρ88) (a0) 44 (some (b0 + tn (ρ83))))) (.inr (5, ((2 : Int32)).toNatClampNeg)) (((2 : Int32)).toNatClampNeg)) (fun ρ91 => ltb (sN (ρ91) (b0 + tn (ρ91)) (.inr (1, ((120 : Int32)).toNatClampNeg)) (((120 : Int32)).toNatClampNeg)) (fun ρ92 => ckR b0 (ρ92) (b0 + tn (sA (ρ88) (a0) 44 (some (b0 + tn (ρ83))))) 5 (fun n95 => ckI (0) (n95) (ltb (sN (sA (ρ92) (b0 + tn (sA (ρ88) (a0) 44 (some (b0 + tn (ρ83))))) (((0 : Int32)).toNatClampNeg) (some (b0 + tn (ρ91)))) (b0 + tn (sA (ρ92) (b0 + tn (sA (ρ88) (a0) 44 (some (b0 + tn (ρ83))))) (((0 : Int32)).toNatClampNeg) (some (b0 + tn (ρ91))))) (.inr (1, ((120 : Int32)).toNatClampNeg)) (((120 : Int32)).toNatClampNeg)) (fun ρ97 => ckR b0 (ρ97) (b0 + tn (sA (ρ88) (a0) 44 (some (b0 + tn (ρ83))))) 5 (fun n100 => ckI (1) (n100) (ckO b0 (sA (ρ97) (b0 + tn (sA (ρ88) (a0) 44 (some (b0 + tn (ρ83))))) (((1 : Int32)).toNatClampNeg) (some (b0 + tn (sA (ρ92) (b0 + tn (sA (ρ88) (a0) 44 (some (b0 + tn (ρ83))))) (((0 : Int32)).toNatClampNeg) (some (b0 + tn (ρ91))))))) (a0) 11 (ltb (sA (sA (ρ97) (b0 + tn (sA (ρ88) (a0) 44 (some (b0 + tn (ρ83))))) (((1 : Int32)).toNatClampNeg) (some (b0 + tn (sA (ρ92) (b0 + tn (sA (ρ88) (a0) 44 (some (b0 + tn (ρ83))))) (((0 : Int32)).toNatClampNeg) (some (b0 + tn (ρ91))))))) (a0) 47 (some (b0 + tn (sA (ρ88) (a0) 44 (some (b0 + tn (ρ83))))))) (fun ρ104 => ltb (sN (ρ104) (b0 + tn (ρ104)) (.inr (0, ((2 : Int32)).toNatClampNeg)) (((2 : Int32)).toNatClampNeg)) (fun ρ111 => ckO b0 (ρ111) (a0) 11 (ltb (sN (sA (ρ111) (a0) 48 (some (b0 + tn (ρ104)))) (b0 + tn (sA (ρ111) (a0) 48 (some (b0 + tn (ρ104))))) (.inr (1, ((2048 : Int32)).toNatClampNeg)) (((2048 : Int32)).toNatClampNeg)) (fun ρ114 => ckO b0 (ρ114) (a0) 11 (ltb (sN (sA (ρ114) (a0) 49 (some (b0 + tn (sA (ρ111) (a0) 48 (some (b0 + tn (ρ104))))))) (b0 + tn (sA (ρ114) (a0) 49 (some (b0 + tn (sA (ρ111) (a0) 48 (some (b0 + tn (ρ104)))))))) (.inr (1, ((2048 : Int32)).toNatClampNeg)) (((2048 : Int32)).toNatClampNeg)) (fun ρ117 => ckO b0 (ρ117) (a0) 11 (ltb (sN (sA (ρ117) (a0) 50 (some (b0 + tn (sA (ρ114) (a0) 49 (some (b0 + tn (sA (ρ111) (a0) 48 (some (b0 + tn (ρ104)))))))))) (b0 + tn (sA (ρ117) (a0) 50 (some (b0 + tn (sA (ρ114) (a0) 49 (some (b0 + tn (sA (ρ111) (a0) 48 (some (b0 + tn (ρ104))))))))))) (.inr (1, ((120 : Int32)).toNatClampNeg)) (((120 : Int32)).toNatClampNeg)) (fun ρ120 => ckO b0 (ρ120) (a0) 11 (ltb (sN (sA (ρ120) (a0) 52 (some (b0 + tn (sA (ρ117) (a0) 50 (some (b0 + tn (sA (ρ114) (a0) 49 (some (b0 + tn (sA (ρ111) (a0) 48 (some (b0 + tn (ρ104))))))))))))) (b0 + tn (sA (ρ120) (a0) 52 (some (b0 + tn (sA (ρ117) (a0) 50 (some (b0 + tn (sA (ρ114) (a0) 49 (some (b0 + tn (sA (ρ111) (a0) 48 (some (b0 + tn (ρ104)))))))))))))) (.inr (0, ((6200 : Int32)).toNatClampNeg)) (((6200 : Int32)).toNatClampNeg)) (fun ρ123 => ckO b0 (ρ123) (a0) 11 (ltb (sN (sA (ρ123) (a0) 54 (some (b0 + tn (sA (ρ120) (a0) 52 (some (b0 + tn (sA (ρ117) (a0) 50 (some (b0 + tn (sA (ρ114) (a0) 49 (some (b0 + tn (sA (ρ111) (a0) 48 (some (b0 + tn (ρ104)))))))))))))))) (b0 + tn (sA (ρ123) (a0) 54 (some (b0 + tn (sA (ρ120) (a0) 52 (some (b0 + tn (sA (ρ117) (a0) 50 (some (b0 + tn (sA (ρ114) (a0) 49 (some (b0 + tn (sA (ρ111) (a0) 48 (some (b0 + tn (ρ104))))))))))))))))) (.inr (0, ((6200 : Int32)).toNatClampNeg)) (((6200 : Int32)).toNatClampNeg)) (fun ρ126 => ckO b0 (ρ126) (a0) 11 (ltb (sN (sA (ρ126) (a0) 55 (some (b0 + tn (sA (ρ123) (a0) 54 (some (b0 + tn (sA (ρ120) (a0) 52 (some (b0 + tn (sA (ρ117) (a0) 50 (some (b0 + tn (sA (ρ114) (a0) 49 (some (b0 + tn (sA (ρ111) (a0) 48 (some (b0 + tn (ρ104))))))))))))))))))) (b0 + tn (sA (ρ126) (a0) 55 (some (b0 + tn (sA (ρ123) (a0) 54 (some (b0 + tn (sA (ρ120) (a0) 52 (some (b0 + tn (sA (ρ117) (a0) 50 (some (b0 + tn (sA (ρ114) (a0) 49 (some (b0 + tn (sA (ρ111) (a0) 48 (some (b0 + tn (ρ104)))))))))))))))))))) (.inr (1, ((4000 : Int32)).toNatClampNeg)) (((4000 : Int32)).toNatClampNeg)) (fun ρ129 => ckO b0 (ρ129) (a0) 11 (ltb (sA (ρ129) (a0) 56 (some (b0 + tn (sA (ρ126) (a0) 55 (some (b0 + tn (sA (ρ123) (a0) 54 (some (b0 + tn (sA (ρ120) (a0) 52 (some (b0 + tn (sA (ρ117) (a0) 50 (some (b0 + tn (sA (ρ114) (a0) 49 (some (b0 + tn (sA (ρ111) (a0) 48 (some (b0 + tn (ρ104)))))))))))))))))))))) (fun ρ132 => ltb (sN (ρ132) (b0 + tn (ρ132)) (.inr (0, ((16 : Int32)).toNatClampNeg)) (((16 : Int32)).toNatClampNeg)) (fun ρ137 => ckO b0 (ρ137) (a0) 11 (ltb (sN (sA (ρ137) (a0) 58 (some (b0 + tn (ρ132)))) (b0 + tn (sA (ρ137) (a0) 58 (some (b0 + tn (ρ132))))) (.inr (2, ((2000 : Int32)).toNatClampNeg)) (((2000 : Int32)).toNatClampNeg)) (fun ρ140 => ckO b0 (ρ140) (a0) 11 (cll (m_X12_format b0 fu (a0) (40) (16) (sA (ρ140) (a0) 59 (some (b0 + tn (sA (ρ137) (a0) 58 (some (b0 + tn (ρ132)))))))) (fun v143 ρ144 => some ((), ρ144))))))))))))))))))))))))))))))))))))))))))))))))))))))))))))))))))))))))))))))))))))
set_option maxRecDepth 100000 in
set_option maxHeartbeats 1000000 in
theorem c_X12_init {l : Launch} {D : va_G} {aC : Nat → ClassId} {b0 fu : Nat} {a0 : Nat} {σ τ : tM} {v : Unit} (hm : m_X12_init b0 fu a0 σ = some (v, τ)) : tMt l D aC b0 yX12_init (Cond.code yX12_init cX12_init 1 none) 2 45 [.ref (a0)] σ (.inl none) τ := by
  unfold m_X12_init at hm
  obtain ⟨hg, hm⟩ := grw_e hm
  refine tMt_of (n := 0) rfl (Nat.le_of_ble_eq_true rfl) hg ?_
  intro p e s m below meth c C htab hin
  refine zx_lv [0] [(0, .ref (a0))] rfl ?_
  refine zx_aload_n C dX12_init_0 0 rfl ?_
  refine zx_obj C W_6_199 W_1_26 W_1_27 (by decide) (by decide) (Nat.le_of_ble_eq_true rfl) dX12_init_1 ?_
  refine zx_aload_n C dX12_init_4 0 rfl ?_
  refine zx_ldcw (v := 554080) C W_6_200 dX12_init_5 ?_
  refine zx_newI C W_1_85 (by decide) (by decide) dX12_init_8 ?_
  refine zx_mem (fun ρ1 hρ1 => ?_)
  replace hm := ltb_e hm hρ1
  obtain ⟨k2, i3, hm⟩ := ckO_e hm
  refine zx_putF (j := 1) (ρ := sA (ρ1) (a0) 1 (some (b0 + tn (σ)))) C hin tC_11 k2 i3 (by decide) W_6_221 rfl rfl rfl rfl (sA_ok (fun _ => rfl)) dX12_init_10 ?_
  refine zx_aload_n C dX12_init_13 0 rfl ?_
  refine zx_sipush (v := 4096) C dX12_init_14 (by decide) ?_
  refine zx_newI C W_1_85 (by decide) (by decide) dX12_init_17 ?_
  refine zx_mem (fun ρ4 hρ4 => ?_)
  replace hm := ltb_e hm hρ4
  obtain ⟨k5, i6, hm⟩ := ckO_e hm
  refine zx_put (j := 2) (ρ := sA (ρ4) (a0) 2 (some (b0 + tn (sA (ρ1) (a0) 1 (some (b0 + tn (σ))))))) C tC_11 k5 i6 ⟨by decide, Or.inl W_6_222⟩ rfl rfl rfl (sA_ok (fun _ => rfl)) dX12_init_19 ?_
  refine zx_aload_n C dX12_init_22 0 rfl ?_
  refine zx_sipush (v := 4096) C dX12_init_23 (by decide) ?_
  refine zx_newI C W_1_85 (by decide) (by decide) dX12_init_26 ?_
  refine zx_mem (fun ρ7 hρ7 => ?_)
  replace hm := ltb_e hm hρ7
  obtain ⟨k8, i9, hm⟩ := ckO_e hm
  refine zx_put (j := 3) (ρ := sA (ρ7) (a0) 3 (some (b0 + tn (sA (ρ4) (a0) 2 (some (b0 + tn (sA (ρ1) (a0) 1 (some (b0 + tn (σ)))))))))) C tC_11 k8 i9 ⟨by decide, Or.inl W_6_223⟩ rfl rfl rfl (sA_ok (fun _ => rfl)) dX12_init_28 ?_
  refine zx_aload_n C dX12_init_31 0 rfl ?_
  refine zx_sipush (v := 6200) C dX12_init_32 (by decide) ?_
  refine zx_newI C W_1_85 (by decide) (by decide) dX12_init_35 ?_
  refine zx_mem (fun ρ10 hρ10 => ?_)
  replace hm := ltb_e hm hρ10
  obtain ⟨k11, i12, hm⟩ := ckO_e hm
  refine zx_putF (j := 8) (ρ := sA (ρ10) (a0) 8 (some (b0 + tn (sA (ρ7) (a0) 3 (some (b0 + tn (sA (ρ4) (a0) 2 (some (b0 + tn (sA (ρ1) (a0) 1 (some (b0 + tn (σ))))))))))))) C hin tC_11 k11 i12 (by decide) W_6_227 rfl rfl rfl rfl (sA_ok (fun _ => rfl)) dX12_init_37 ?_
  refine zx_aload_n C dX12_init_40 0 rfl ?_
  refine zx_sipush (v := 6200) C dX12_init_41 (by decide) ?_
  refine zx_newI C W_1_85 (by decide) (by decide) dX12_init_44 ?_
  refine zx_mem (fun ρ13 hρ13 => ?_)
  replace hm := ltb_e hm hρ13
  obtain ⟨k14, i15, hm⟩ := ckO_e hm
  refine zx_putF (j := 9) (ρ := sA (ρ13) (a0) 9 (some (b0 + tn (sA (ρ10) (a0) 8 (some (b0 + tn (sA (ρ7) (a0) 3 (some (b0 + tn (sA (ρ4) (a0) 2 (some (b0 + tn (sA (ρ1) (a0) 1 (some (b0 + tn (σ)))))))))))))))) C hin tC_11 k14 i15 (by decide) W_6_228 rfl rfl rfl rfl (sA_ok (fun _ => rfl)) dX12_init_46 ?_
  refine zx_aload_n C dX12_init_49 0 rfl ?_
  refine zx_ldcw (v := 512000) C W_6_201 dX12_init_50 ?_
  refine zx_newB C W_1_156 (by decide) (by decide) dX12_init_53 ?_
  refine zx_mem (fun ρ16 hρ16 => ?_)
  replace hm := ltb_e hm hρ16
  obtain ⟨k17, i18, hm⟩ := ckO_e hm
  refine zx_putF (j := 10) (ρ := sA (ρ16) (a0) 10 (some (b0 + tn (sA (ρ13) (a0) 9 (some (b0 + tn (sA (ρ10) (a0) 8 (some (b0 + tn (sA (ρ7) (a0) 3 (some (b0 + tn (sA (ρ4) (a0) 2 (some (b0 + tn (sA (ρ1) (a0) 1 (some (b0 + tn (σ))))))))))))))))))) C hin tC_11 k17 i18 (by decide) W_6_229 rfl rfl rfl rfl (sA_ok (fun _ => rfl)) dX12_init_55 ?_
  refine zx_aload_n C dX12_init_58 0 rfl ?_
  refine zx_sipush (v := 256) C dX12_init_59 (by decide) ?_
  refine zx_newI C W_1_85 (by decide) (by decide) dX12_init_62 ?_
  refine zx_mem (fun ρ19 hρ19 => ?_)
  replace hm := ltb_e hm hρ19
  obtain ⟨k20, i21, hm⟩ := ckO_e hm
  refine zx_putF (j := 11) (ρ := sA (ρ19) (a0) 11 (some (b0 + tn (sA (ρ16) (a0) 10 (some (b0 + tn (sA (ρ13) (a0) 9 (some (b0 + tn (sA (ρ10) (a0) 8 (some (b0 + tn (sA (ρ7) (a0) 3 (some (b0 + tn (sA (ρ4) (a0) 2 (some (b0 + tn (sA (ρ1) (a0) 1 (some (b0 + tn (σ)))))))))))))))))))))) C hin tC_11 k20 i21 (by decide) W_6_230 rfl rfl rfl rfl (sA_ok (fun _ => rfl)) dX12_init_64 ?_
  refine zx_aload_n C dX12_init_67 0 rfl ?_
  refine zx_sipush (v := 256) C dX12_init_68 (by decide) ?_
  refine zx_newI C W_1_85 (by decide) (by decide) dX12_init_71 ?_
  refine zx_mem (fun ρ22 hρ22 => ?_)
  replace hm := ltb_e hm hρ22
  obtain ⟨k23, i24, hm⟩ := ckO_e hm
  refine zx_putF (j := 12) (ρ := sA (ρ22) (a0) 12 (some (b0 + tn (sA (ρ19) (a0) 11 (some (b0 + tn (sA (ρ16) (a0) 10 (some (b0 + tn (sA (ρ13) (a0) 9 (some (b0 + tn (sA (ρ10) (a0) 8 (some (b0 + tn (sA (ρ7) (a0) 3 (some (b0 + tn (sA (ρ4) (a0) 2 (some (b0 + tn (sA (ρ1) (a0) 1 (some (b0 + tn (σ))))))))))))))))))))))))) C hin tC_11 k23 i24 (by decide) W_6_231 rfl rfl rfl rfl (sA_ok (fun _ => rfl)) dX12_init_73 ?_
  refine zx_mem (fun ρ25 hρ25 => ?_)
  replace hm := ltb_e hm hρ25
  have k26 : tk ρ25 (b0 + tn (sA (ρ19) (a0) 11 (some (b0 + tn (sA (ρ16) (a0) 10 (some (b0 + tn (sA (ρ13) (a0) 9 (some (b0 + tn (sA (ρ10) (a0) 8 (some (b0 + tn (sA (ρ7) (a0) 3 (some (b0 + tn (sA (ρ4) (a0) 2 (some (b0 + tn (sA (ρ1) (a0) 1 (some (b0 + tn (σ))))))))))))))))))))))) = .inr (0, ((256 : Int32)).toNatClampNeg) := by rw [hρ25]; exact (by rw [hρ22]; exact sN_k _ _ _ _)
  have i27 : tIn b0 ρ25 (b0 + tn (sA (ρ19) (a0) 11 (some (b0 + tn (sA (ρ16) (a0) 10 (some (b0 + tn (sA (ρ13) (a0) 9 (some (b0 + tn (sA (ρ10) (a0) 8 (some (b0 + tn (sA (ρ7) (a0) 3 (some (b0 + tn (sA (ρ4) (a0) 2 (some (b0 + tn (sA (ρ1) (a0) 1 (some (b0 + tn (σ))))))))))))))))))))))) := by rw [hρ25]; exact (by rw [hρ22]; exact sN_i _ _ _ _)
  have k28 : tk ρ25 (a0) = .inl 11 := by rw [hρ25]; exact k23
  have i29 : tIn b0 ρ25 (a0) := by rw [hρ25]; exact i24
  refine zx_aload_n C dX12_init_76 0 rfl ?_
  refine zx_sipush (v := 256) C dX12_init_77 (by decide) ?_
  refine zx_newI C W_1_85 (by decide) (by decide) dX12_init_80 ?_
  refine zx_mem (fun ρ30 hρ30 => ?_)
  replace hm := ltb_e hm hρ30
  obtain ⟨k31, i32, hm⟩ := ckO_e hm
  refine zx_putF (j := 13) (ρ := sA (ρ30) (a0) 13 (some (b0 + tn (ρ25)))) C hin tC_11 k31 i32 (by decide) W_6_232 rfl rfl rfl rfl (sA_ok (fun _ => rfl)) dX12_init_82 ?_
  refine zx_aload_n C dX12_init_85 0 rfl ?_
  refine zx_ldcw (v := 65536) C W_6_202 dX12_init_86 ?_
  refine zx_newB C W_1_156 (by decide) (by decide) dX12_init_89 ?_
  refine zx_mem (fun ρ33 hρ33 => ?_)
  replace hm := ltb_e hm hρ33
  obtain ⟨k34, i35, hm⟩ := ckO_e hm
  refine zx_putF (j := 14) (ρ := sA (ρ33) (a0) 14 (some (b0 + tn (sA (ρ30) (a0) 13 (some (b0 + tn (ρ25))))))) C hin tC_11 k34 i35 (by decide) W_6_233 rfl rfl rfl rfl (sA_ok (fun _ => rfl)) dX12_init_91 ?_
  refine zx_aload_n C dX12_init_94 0 rfl ?_
  refine zx_sipush (v := 6200) C dX12_init_95 (by decide) ?_
  refine zx_newI C W_1_85 (by decide) (by decide) dX12_init_98 ?_
  refine zx_mem (fun ρ36 hρ36 => ?_)
  replace hm := ltb_e hm hρ36
  obtain ⟨k37, i38, hm⟩ := ckO_e hm
  refine zx_putF (j := 17) (ρ := sA (ρ36) (a0) 17 (some (b0 + tn (sA (ρ33) (a0) 14 (some (b0 + tn (sA (ρ30) (a0) 13 (some (b0 + tn (ρ25)))))))))) C hin tC_11 k37 i38 (by decide) W_6_236 rfl rfl rfl rfl (sA_ok (fun _ => rfl)) dX12_init_100 ?_
  refine zx_aload_n C dX12_init_103 0 rfl ?_
  refine zx_ldcw (v := 512000) C W_6_201 dX12_init_104 ?_
  refine zx_newB C W_1_156 (by decide) (by decide) dX12_init_107 ?_
  refine zx_mem (fun ρ39 hρ39 => ?_)
  replace hm := ltb_e hm hρ39
  obtain ⟨k40, i41, hm⟩ := ckO_e hm
  refine zx_putF (j := 22) (ρ := sA (ρ39) (a0) 22 (some (b0 + tn (sA (ρ36) (a0) 17 (some (b0 + tn (sA (ρ33) (a0) 14 (some (b0 + tn (sA (ρ30) (a0) 13 (some (b0 + tn (ρ25))))))))))))) C hin tC_11 k40 i41 (by decide) W_7_1 rfl rfl rfl rfl (sA_ok (fun _ => rfl)) dX12_init_109 ?_
  refine zx_aload_n C dX12_init_112 0 rfl ?_
  refine zx_sipush (v := 2000) C dX12_init_113 (by decide) ?_
  refine zx_newZ C W_1_86 (by decide) (by decide) dX12_init_116 ?_
  refine zx_mem (fun ρ42 hρ42 => ?_)
  replace hm := ltb_e hm hρ42
  obtain ⟨k43, i44, hm⟩ := ckO_e hm
  refine zx_putF (j := 23) (ρ := sA (ρ42) (a0) 23 (some (b0 + tn (sA (ρ39) (a0) 22 (some (b0 + tn (sA (ρ36) (a0) 17 (some (b0 + tn (sA (ρ33) (a0) 14 (some (b0 + tn (sA (ρ30) (a0) 13 (some (b0 + tn (ρ25)))))))))))))))) C hin tC_11 k43 i44 (by decide) W_7_2 rfl rfl rfl rfl (sA_ok (fun _ => rfl)) dX12_init_118 ?_
  refine zx_aload_n C dX12_init_121 0 rfl ?_
  refine zx_sipush (v := 2000) C dX12_init_122 (by decide) ?_
  refine zx_newI C W_1_85 (by decide) (by decide) dX12_init_125 ?_
  refine zx_mem (fun ρ45 hρ45 => ?_)
  replace hm := ltb_e hm hρ45
  obtain ⟨k46, i47, hm⟩ := ckO_e hm
  refine zx_putF (j := 24) (ρ := sA (ρ45) (a0) 24 (some (b0 + tn (sA (ρ42) (a0) 23 (some (b0 + tn (sA (ρ39) (a0) 22 (some (b0 + tn (sA (ρ36) (a0) 17 (some (b0 + tn (sA (ρ33) (a0) 14 (some (b0 + tn (sA (ρ30) (a0) 13 (some (b0 + tn (ρ25))))))))))))))))))) C hin tC_11 k46 i47 (by decide) W_7_3 rfl rfl rfl rfl (sA_ok (fun _ => rfl)) dX12_init_127 ?_
  refine zx_aload_n C dX12_init_130 0 rfl ?_
  refine zx_bipush (v := 64) C dX12_init_131 (by decide) ?_
  refine zx_newZ C W_1_86 (by decide) (by decide) dX12_init_133 ?_
  refine zx_mem (fun ρ48 hρ48 => ?_)
  replace hm := ltb_e hm hρ48
  obtain ⟨k49, i50, hm⟩ := ckO_e hm
  refine zx_putF (j := 25) (ρ := sA (ρ48) (a0) 25 (some (b0 + tn (sA (ρ45) (a0) 24 (some (b0 + tn (sA (ρ42) (a0) 23 (some (b0 + tn (sA (ρ39) (a0) 22 (some (b0 + tn (sA (ρ36) (a0) 17 (some (b0 + tn (sA (ρ33) (a0) 14 (some (b0 + tn (sA (ρ30) (a0) 13 (some (b0 + tn (ρ25)))))))))))))))))))))) C hin tC_11 k49 i50 (by decide) W_7_4 rfl rfl rfl rfl (sA_ok (fun _ => rfl)) dX12_init_135 ?_
  refine zx_aload_n C dX12_init_138 0 rfl ?_
  refine zx_sipush (v := 6200) C dX12_init_139 (by decide) ?_
  refine zx_newZ C W_1_86 (by decide) (by decide) dX12_init_142 ?_
  refine zx_mem (fun ρ51 hρ51 => ?_)
  replace hm := ltb_e hm hρ51
  obtain ⟨k52, i53, hm⟩ := ckO_e hm
  refine zx_putF (j := 26) (ρ := sA (ρ51) (a0) 26 (some (b0 + tn (sA (ρ48) (a0) 25 (some (b0 + tn (sA (ρ45) (a0) 24 (some (b0 + tn (sA (ρ42) (a0) 23 (some (b0 + tn (sA (ρ39) (a0) 22 (some (b0 + tn (sA (ρ36) (a0) 17 (some (b0 + tn (sA (ρ33) (a0) 14 (some (b0 + tn (sA (ρ30) (a0) 13 (some (b0 + tn (ρ25))))))))))))))))))))))))) C hin tC_11 k52 i53 (by decide) W_7_5 rfl rfl rfl rfl (sA_ok (fun _ => rfl)) dX12_init_144 ?_
  refine zx_mem (fun ρ54 hρ54 => ?_)
  replace hm := ltb_e hm hρ54
  have k55 : tk ρ54 (b0 + tn (sA (ρ48) (a0) 25 (some (b0 + tn (sA (ρ45) (a0) 24 (some (b0 + tn (sA (ρ42) (a0) 23 (some (b0 + tn (sA (ρ39) (a0) 22 (some (b0 + tn (sA (ρ36) (a0) 17 (some (b0 + tn (sA (ρ33) (a0) 14 (some (b0 + tn (sA (ρ30) (a0) 13 (some (b0 + tn (ρ25))))))))))))))))))))))) = .inr (2, ((6200 : Int32)).toNatClampNeg) := by rw [hρ54]; exact (by rw [hρ51]; exact sN_k _ _ _ _)
  have i56 : tIn b0 ρ54 (b0 + tn (sA (ρ48) (a0) 25 (some (b0 + tn (sA (ρ45) (a0) 24 (some (b0 + tn (sA (ρ42) (a0) 23 (some (b0 + tn (sA (ρ39) (a0) 22 (some (b0 + tn (sA (ρ36) (a0) 17 (some (b0 + tn (sA (ρ33) (a0) 14 (some (b0 + tn (sA (ρ30) (a0) 13 (some (b0 + tn (ρ25))))))))))))))))))))))) := by rw [hρ54]; exact (by rw [hρ51]; exact sN_i _ _ _ _)
  have k57 : tk ρ54 (a0) = .inl 11 := by rw [hρ54]; exact k52
  have i58 : tIn b0 ρ54 (a0) := by rw [hρ54]; exact i53
  refine zx_aload_n C dX12_init_147 0 rfl ?_
  refine zx_sipush (v := 6200) C dX12_init_148 (by decide) ?_
  refine zx_newZ C W_1_86 (by decide) (by decide) dX12_init_151 ?_
  refine zx_mem (fun ρ59 hρ59 => ?_)
  replace hm := ltb_e hm hρ59
  obtain ⟨k60, i61, hm⟩ := ckO_e hm
  refine zx_putF (j := 27) (ρ := sA (ρ59) (a0) 27 (some (b0 + tn (ρ54)))) C hin tC_11 k60 i61 (by decide) W_7_6 rfl rfl rfl rfl (sA_ok (fun _ => rfl)) dX12_init_153 ?_
  refine zx_aload_n C dX12_init_156 0 rfl ?_
  refine zx_bipush (v := 64) C dX12_init_157 (by decide) ?_
  refine zx_newI C W_1_85 (by decide) (by decide) dX12_init_159 ?_
  refine zx_mem (fun ρ62 hρ62 => ?_)
  replace hm := ltb_e hm hρ62
  obtain ⟨k63, i64, hm⟩ := ckO_e hm
  refine zx_put (j := 37) (ρ := sA (ρ62) (a0) 37 (some (b0 + tn (sA (ρ59) (a0) 27 (some (b0 + tn (ρ54))))))) C tC_11 k63 i64 ⟨by decide, Or.inl W_7_16⟩ rfl rfl rfl (sA_ok (fun _ => rfl)) dX12_init_161 ?_
  refine zx_aload_n C dX12_init_164 0 rfl ?_
  refine zx_bipush (v := 64) C dX12_init_165 (by decide) ?_
  refine zx_newI C W_1_85 (by decide) (by decide) dX12_init_167 ?_
  refine zx_mem (fun ρ65 hρ65 => ?_)
  replace hm := ltb_e hm hρ65
  obtain ⟨k66, i67, hm⟩ := ckO_e hm
  refine zx_put (j := 38) (ρ := sA (ρ65) (a0) 38 (some (b0 + tn (sA (ρ62) (a0) 37 (some (b0 + tn (sA (ρ59) (a0) 27 (some (b0 + tn (ρ54)))))))))) C tC_11 k66 i67 ⟨by decide, Or.inl W_7_17⟩ rfl rfl rfl (sA_ok (fun _ => rfl)) dX12_init_169 ?_
  refine zx_aload_n C dX12_init_172 0 rfl ?_
  refine zx_bipush (v := 64) C dX12_init_173 (by decide) ?_
  refine zx_newI C W_1_85 (by decide) (by decide) dX12_init_175 ?_
  refine zx_mem (fun ρ68 hρ68 => ?_)
  replace hm := ltb_e hm hρ68
  obtain ⟨k69, i70, hm⟩ := ckO_e hm
  refine zx_put (j := 39) (ρ := sA (ρ68) (a0) 39 (some (b0 + tn (sA (ρ65) (a0) 38 (some (b0 + tn (sA (ρ62) (a0) 37 (some (b0 + tn (sA (ρ59) (a0) 27 (some (b0 + tn (ρ54))))))))))))) C tC_11 k69 i70 ⟨by decide, Or.inl W_7_18⟩ rfl rfl rfl (sA_ok (fun _ => rfl)) dX12_init_177 ?_
  refine zx_aload_n C dX12_init_180 0 rfl ?_
  refine zx_bipush (v := 64) C dX12_init_181 (by decide) ?_
  refine zx_newI C W_1_85 (by decide) (by decide) dX12_init_183 ?_
  refine zx_mem (fun ρ71 hρ71 => ?_)
  replace hm := ltb_e hm hρ71
  obtain ⟨k72, i73, hm⟩ := ckO_e hm
  refine zx_put (j := 40) (ρ := sA (ρ71) (a0) 40 (some (b0 + tn (sA (ρ68) (a0) 39 (some (b0 + tn (sA (ρ65) (a0) 38 (some (b0 + tn (sA (ρ62) (a0) 37 (some (b0 + tn (sA (ρ59) (a0) 27 (some (b0 + tn (ρ54)))))))))))))))) C tC_11 k72 i73 ⟨by decide, Or.inl W_7_19⟩ rfl rfl rfl (sA_ok (fun _ => rfl)) dX12_init_185 ?_
  refine zx_aload_n C dX12_init_188 0 rfl ?_
  refine zx_bipush (v := 64) C dX12_init_189 (by decide) ?_
  refine zx_newI C W_1_85 (by decide) (by decide) dX12_init_191 ?_
  refine zx_mem (fun ρ74 hρ74 => ?_)
  replace hm := ltb_e hm hρ74
  obtain ⟨k75, i76, hm⟩ := ckO_e hm
  refine zx_put (j := 41) (ρ := sA (ρ74) (a0) 41 (some (b0 + tn (sA (ρ71) (a0) 40 (some (b0 + tn (sA (ρ68) (a0) 39 (some (b0 + tn (sA (ρ65) (a0) 38 (some (b0 + tn (sA (ρ62) (a0) 37 (some (b0 + tn (sA (ρ59) (a0) 27 (some (b0 + tn (ρ54))))))))))))))))))) C tC_11 k75 i76 ⟨by decide, Or.inl W_7_20⟩ rfl rfl rfl (sA_ok (fun _ => rfl)) dX12_init_193 ?_
  refine zx_aload_n C dX12_init_196 0 rfl ?_
  refine zx_bipush (v := 64) C dX12_init_197 (by decide) ?_
  refine zx_newI C W_1_85 (by decide) (by decide) dX12_init_199 ?_
  refine zx_mem (fun ρ77 hρ77 => ?_)
  replace hm := ltb_e hm hρ77
  obtain ⟨k78, i79, hm⟩ := ckO_e hm
  refine zx_put (j := 42) (ρ := sA (ρ77) (a0) 42 (some (b0 + tn (sA (ρ74) (a0) 41 (some (b0 + tn (sA (ρ71) (a0) 40 (some (b0 + tn (sA (ρ68) (a0) 39 (some (b0 + tn (sA (ρ65) (a0) 38 (some (b0 + tn (sA (ρ62) (a0) 37 (some (b0 + tn (sA (ρ59) (a0) 27 (some (b0 + tn (ρ54)))))))))))))))))))))) C tC_11 k78 i79 ⟨by decide, Or.inl W_7_21⟩ rfl rfl rfl (sA_ok (fun _ => rfl)) dX12_init_201 ?_
  refine zx_aload_n C dX12_init_204 0 rfl ?_
  refine zx_bipush (v := 64) C dX12_init_205 (by decide) ?_
  refine zx_newI C W_1_85 (by decide) (by decide) dX12_init_207 ?_
  refine zx_mem (fun ρ80 hρ80 => ?_)
  replace hm := ltb_e hm hρ80
  obtain ⟨k81, i82, hm⟩ := ckO_e hm
  refine zx_put (j := 43) (ρ := sA (ρ80) (a0) 43 (some (b0 + tn (sA (ρ77) (a0) 42 (some (b0 + tn (sA (ρ74) (a0) 41 (some (b0 + tn (sA (ρ71) (a0) 40 (some (b0 + tn (sA (ρ68) (a0) 39 (some (b0 + tn (sA (ρ65) (a0) 38 (some (b0 + tn (sA (ρ62) (a0) 37 (some (b0 + tn (sA (ρ59) (a0) 27 (some (b0 + tn (ρ54))))))))))))))))))))))))) C tC_11 k81 i82 ⟨by decide, Or.inl W_7_22⟩ rfl rfl rfl (sA_ok (fun _ => rfl)) dX12_init_209 ?_
  refine zx_mem (fun ρ83 hρ83 => ?_)
  replace hm := ltb_e hm hρ83
  have k84 : tk ρ83 (b0 + tn (sA (ρ77) (a0) 42 (some (b0 + tn (sA (ρ74) (a0) 41 (some (b0 + tn (sA (ρ71) (a0) 40 (some (b0 + tn (sA (ρ68) (a0) 39 (some (b0 + tn (sA (ρ65) (a0) 38 (some (b0 + tn (sA (ρ62) (a0) 37 (some (b0 + tn (sA (ρ59) (a0) 27 (some (b0 + tn (ρ54))))))))))))))))))))))) = .inr (0, ((64 : Int32)).toNatClampNeg) := by rw [hρ83]; exact (by rw [hρ80]; exact sN_k _ _ _ _)
  have i85 : tIn b0 ρ83 (b0 + tn (sA (ρ77) (a0) 42 (some (b0 + tn (sA (ρ74) (a0) 41 (some (b0 + tn (sA (ρ71) (a0) 40 (some (b0 + tn (sA (ρ68) (a0) 39 (some (b0 + tn (sA (ρ65) (a0) 38 (some (b0 + tn (sA (ρ62) (a0) 37 (some (b0 + tn (sA (ρ59) (a0) 27 (some (b0 + tn (ρ54))))))))))))))))))))))) := by rw [hρ83]; exact (by rw [hρ80]; exact sN_i _ _ _ _)
  have k86 : tk ρ83 (a0) = .inl 11 := by rw [hρ83]; exact k81
  have i87 : tIn b0 ρ83 (a0) := by rw [hρ83]; exact i82
  refine zx_aload_n C dX12_init_212 0 rfl ?_
  refine zx_sipush (v := 1024) C dX12_init_213 (by decide) ?_
  refine zx_newI C W_1_85 (by decide) (by decide) dX12_init_216 ?_
  refine zx_mem (fun ρ88 hρ88 => ?_)
  replace hm := ltb_e hm hρ88
  obtain ⟨k89, i90, hm⟩ := ckO_e hm
  refine zx_put (j := 44) (ρ := sA (ρ88) (a0) 44 (some (b0 + tn (ρ83)))) C tC_11 k89 i90 ⟨by decide, Or.inl W_7_23⟩ rfl rfl rfl (sA_ok (fun _ => rfl)) dX12_init_218 ?_
  refine zx_aload_n C dX12_init_221 0 rfl ?_
  refine zx_iconst (v := 2) C dX12_init_222 (by decide) ?_
  refine zx_new5 C W_6_203 W_6_204 (by decide) (by decide) dX12_init_223 ?_
  refine zx_mem (fun ρ91 hρ91 => ?_)
  replace hm := ltb_e hm hρ91
  refine zx_dup C dX12_init_226 rfl ?_
  refine zx_iconst (v := 0) C dX12_init_227 (by decide) ?_
  refine zx_bipush (v := 120) C dX12_init_228 (by decide) ?_
  refine zx_newB C W_1_156 (by decide) (by decide) dX12_init_230 ?_
  refine zx_mem (fun ρ92 hρ92 => ?_)
  replace hm := ltb_e hm hρ92
  obtain ⟨n95, k93, i94, hm⟩ := ckR_e hm
  obtain ⟨h96, hm⟩ := ckI_e hm
  refine zx_ast5 C W_6_204 k93 i94 (by rw [hρ92]; exact sN_k _ _ _ _) (by rw [hρ92]; exact sN_i _ _ _ _) h96 dX12_init_232 ?_
  refine zx_dup C dX12_init_233 rfl ?_
  refine zx_iconst (v := 1) C dX12_init_234 (by decide) ?_
  refine zx_bipush (v := 120) C dX12_init_235 (by decide) ?_
  refine zx_newB C W_1_156 (by decide) (by decide) dX12_init_237 ?_
  refine zx_mem (fun ρ97 hρ97 => ?_)
  replace hm := ltb_e hm hρ97
  obtain ⟨n100, k98, i99, hm⟩ := ckR_e hm
  obtain ⟨h101, hm⟩ := ckI_e hm
  refine zx_ast5 C W_6_204 k98 i99 (by rw [hρ97]; exact sN_k _ _ _ _) (by rw [hρ97]; exact sN_i _ _ _ _) h101 dX12_init_239 ?_
  obtain ⟨k102, i103, hm⟩ := ckO_e hm
  refine zx_putF (j := 47) (ρ := sA (sA (ρ97) (b0 + tn (sA (ρ88) (a0) 44 (some (b0 + tn (ρ83))))) (((1 : Int32)).toNatClampNeg) (some (b0 + tn (sA (ρ92) (b0 + tn (sA (ρ88) (a0) 44 (some (b0 + tn (ρ83))))) (((0 : Int32)).toNatClampNeg) (some (b0 + tn (ρ91))))))) (a0) 47 (some (b0 + tn (sA (ρ88) (a0) 44 (some (b0 + tn (ρ83))))))) C hin tC_11 k102 i103 (by decide) W_7_26 rfl rfl rfl rfl (sA_ok (fun _ => rfl)) dX12_init_240 ?_
  refine zx_mem (fun ρ104 hρ104 => ?_)
  replace hm := ltb_e hm hρ104
  have k105 : tk ρ104 (b0 + tn (sA (ρ92) (b0 + tn (sA (ρ88) (a0) 44 (some (b0 + tn (ρ83))))) (((0 : Int32)).toNatClampNeg) (some (b0 + tn (ρ91))))) = .inr (1, ((120 : Int32)).toNatClampNeg) := by rw [hρ104]; exact (by rw [hρ97]; exact sN_k _ _ _ _)
  have i106 : tIn b0 ρ104 (b0 + tn (sA (ρ92) (b0 + tn (sA (ρ88) (a0) 44 (some (b0 + tn (ρ83))))) (((0 : Int32)).toNatClampNeg) (some (b0 + tn (ρ91))))) := by rw [hρ104]; exact (by rw [hρ97]; exact sN_i _ _ _ _)
  have k107 : tk ρ104 (b0 + tn (sA (ρ88) (a0) 44 (some (b0 + tn (ρ83))))) = .inr (5, n100) := by rw [hρ104]; exact k98
  have i108 : tIn b0 ρ104 (b0 + tn (sA (ρ88) (a0) 44 (some (b0 + tn (ρ83))))) := by rw [hρ104]; exact i99
  have k109 : tk ρ104 (a0) = .inl 11 := by rw [hρ104]; exact k102
  have i110 : tIn b0 ρ104 (a0) := by rw [hρ104]; exact i103
  refine zx_aload_n C dX12_init_243 0 rfl ?_
  refine zx_iconst (v := 2) C dX12_init_244 (by decide) ?_
  refine zx_newI C W_1_85 (by decide) (by decide) dX12_init_245 ?_
  refine zx_mem (fun ρ111 hρ111 => ?_)
  replace hm := ltb_e hm hρ111
  obtain ⟨k112, i113, hm⟩ := ckO_e hm
  refine zx_putF (j := 48) (ρ := sA (ρ111) (a0) 48 (some (b0 + tn (ρ104)))) C hin tC_11 k112 i113 (by decide) W_7_27 rfl rfl rfl rfl (sA_ok (fun _ => rfl)) dX12_init_247 ?_
  refine zx_aload_n C dX12_init_250 0 rfl ?_
  refine zx_sipush (v := 2048) C dX12_init_251 (by decide) ?_
  refine zx_newB C W_1_156 (by decide) (by decide) dX12_init_254 ?_
  refine zx_mem (fun ρ114 hρ114 => ?_)
  replace hm := ltb_e hm hρ114
  obtain ⟨k115, i116, hm⟩ := ckO_e hm
  refine zx_put (j := 49) (ρ := sA (ρ114) (a0) 49 (some (b0 + tn (sA (ρ111) (a0) 48 (some (b0 + tn (ρ104))))))) C tC_11 k115 i116 ⟨by decide, Or.inl W_7_28⟩ rfl rfl rfl (sA_ok (fun _ => rfl)) dX12_init_256 ?_
  refine zx_aload_n C dX12_init_259 0 rfl ?_
  refine zx_sipush (v := 2048) C dX12_init_260 (by decide) ?_
  refine zx_newB C W_1_156 (by decide) (by decide) dX12_init_263 ?_
  refine zx_mem (fun ρ117 hρ117 => ?_)
  replace hm := ltb_e hm hρ117
  obtain ⟨k118, i119, hm⟩ := ckO_e hm
  refine zx_put (j := 50) (ρ := sA (ρ117) (a0) 50 (some (b0 + tn (sA (ρ114) (a0) 49 (some (b0 + tn (sA (ρ111) (a0) 48 (some (b0 + tn (ρ104)))))))))) C tC_11 k118 i119 ⟨by decide, Or.inl W_7_29⟩ rfl rfl rfl (sA_ok (fun _ => rfl)) dX12_init_265 ?_
  refine zx_aload_n C dX12_init_268 0 rfl ?_
  refine zx_bipush (v := 120) C dX12_init_269 (by decide) ?_
  refine zx_newB C W_1_156 (by decide) (by decide) dX12_init_271 ?_
  refine zx_mem (fun ρ120 hρ120 => ?_)
  replace hm := ltb_e hm hρ120
  obtain ⟨k121, i122, hm⟩ := ckO_e hm
  refine zx_putF (j := 52) (ρ := sA (ρ120) (a0) 52 (some (b0 + tn (sA (ρ117) (a0) 50 (some (b0 + tn (sA (ρ114) (a0) 49 (some (b0 + tn (sA (ρ111) (a0) 48 (some (b0 + tn (ρ104))))))))))))) C hin tC_11 k121 i122 (by decide) W_7_31 rfl rfl rfl rfl (sA_ok (fun _ => rfl)) dX12_init_273 ?_
  refine zx_aload_n C dX12_init_276 0 rfl ?_
  refine zx_sipush (v := 6200) C dX12_init_277 (by decide) ?_
  refine zx_newI C W_1_85 (by decide) (by decide) dX12_init_280 ?_
  refine zx_mem (fun ρ123 hρ123 => ?_)
  replace hm := ltb_e hm hρ123
  obtain ⟨k124, i125, hm⟩ := ckO_e hm
  refine zx_putF (j := 54) (ρ := sA (ρ123) (a0) 54 (some (b0 + tn (sA (ρ120) (a0) 52 (some (b0 + tn (sA (ρ117) (a0) 50 (some (b0 + tn (sA (ρ114) (a0) 49 (some (b0 + tn (sA (ρ111) (a0) 48 (some (b0 + tn (ρ104)))))))))))))))) C hin tC_11 k124 i125 (by decide) W_7_33 rfl rfl rfl rfl (sA_ok (fun _ => rfl)) dX12_init_282 ?_
  refine zx_aload_n C dX12_init_285 0 rfl ?_
  refine zx_sipush (v := 6200) C dX12_init_286 (by decide) ?_
  refine zx_newI C W_1_85 (by decide) (by decide) dX12_init_289 ?_
  refine zx_mem (fun ρ126 hρ126 => ?_)
  replace hm := ltb_e hm hρ126
  obtain ⟨k127, i128, hm⟩ := ckO_e hm
  refine zx_putF (j := 55) (ρ := sA (ρ126) (a0) 55 (some (b0 + tn (sA (ρ123) (a0) 54 (some (b0 + tn (sA (ρ120) (a0) 52 (some (b0 + tn (sA (ρ117) (a0) 50 (some (b0 + tn (sA (ρ114) (a0) 49 (some (b0 + tn (sA (ρ111) (a0) 48 (some (b0 + tn (ρ104))))))))))))))))))) C hin tC_11 k127 i128 (by decide) W_7_34 rfl rfl rfl rfl (sA_ok (fun _ => rfl)) dX12_init_291 ?_
  refine zx_aload_n C dX12_init_294 0 rfl ?_
  refine zx_sipush (v := 4000) C dX12_init_295 (by decide) ?_
  refine zx_newB C W_1_156 (by decide) (by decide) dX12_init_298 ?_
  refine zx_mem (fun ρ129 hρ129 => ?_)
  replace hm := ltb_e hm hρ129
  obtain ⟨k130, i131, hm⟩ := ckO_e hm
  refine zx_putF (j := 56) (ρ := sA (ρ129) (a0) 56 (some (b0 + tn (sA (ρ126) (a0) 55 (some (b0 + tn (sA (ρ123) (a0) 54 (some (b0 + tn (sA (ρ120) (a0) 52 (some (b0 + tn (sA (ρ117) (a0) 50 (some (b0 + tn (sA (ρ114) (a0) 49 (some (b0 + tn (sA (ρ111) (a0) 48 (some (b0 + tn (ρ104)))))))))))))))))))))) C hin tC_11 k130 i131 (by decide) W_7_35 rfl rfl rfl rfl (sA_ok (fun _ => rfl)) dX12_init_300 ?_
  refine zx_mem (fun ρ132 hρ132 => ?_)
  replace hm := ltb_e hm hρ132
  have k133 : tk ρ132 (b0 + tn (sA (ρ126) (a0) 55 (some (b0 + tn (sA (ρ123) (a0) 54 (some (b0 + tn (sA (ρ120) (a0) 52 (some (b0 + tn (sA (ρ117) (a0) 50 (some (b0 + tn (sA (ρ114) (a0) 49 (some (b0 + tn (sA (ρ111) (a0) 48 (some (b0 + tn (ρ104)))))))))))))))))))) = .inr (1, ((4000 : Int32)).toNatClampNeg) := by rw [hρ132]; exact (by rw [hρ129]; exact sN_k _ _ _ _)
  have i134 : tIn b0 ρ132 (b0 + tn (sA (ρ126) (a0) 55 (some (b0 + tn (sA (ρ123) (a0) 54 (some (b0 + tn (sA (ρ120) (a0) 52 (some (b0 + tn (sA (ρ117) (a0) 50 (some (b0 + tn (sA (ρ114) (a0) 49 (some (b0 + tn (sA (ρ111) (a0) 48 (some (b0 + tn (ρ104)))))))))))))))))))) := by rw [hρ132]; exact (by rw [hρ129]; exact sN_i _ _ _ _)
  have k135 : tk ρ132 (a0) = .inl 11 := by rw [hρ132]; exact k130
  have i136 : tIn b0 ρ132 (a0) := by rw [hρ132]; exact i131
  refine zx_aload_n C dX12_init_303 0 rfl ?_
  refine zx_bipush (v := 16) C dX12_init_304 (by decide) ?_
  refine zx_newI C W_1_85 (by decide) (by decide) dX12_init_306 ?_
  refine zx_mem (fun ρ137 hρ137 => ?_)
  replace hm := ltb_e hm hρ137
  obtain ⟨k138, i139, hm⟩ := ckO_e hm
  refine zx_putF (j := 58) (ρ := sA (ρ137) (a0) 58 (some (b0 + tn (ρ132)))) C hin tC_11 k138 i139 (by decide) W_7_37 rfl rfl rfl rfl (sA_ok (fun _ => rfl)) dX12_init_308 ?_
  refine zx_aload_n C dX12_init_311 0 rfl ?_
  refine zx_sipush (v := 2000) C dX12_init_312 (by decide) ?_
  refine zx_newZ C W_1_86 (by decide) (by decide) dX12_init_315 ?_
  refine zx_mem (fun ρ140 hρ140 => ?_)
  replace hm := ltb_e hm hρ140
  obtain ⟨k141, i142, hm⟩ := ckO_e hm
  refine zx_putF (j := 59) (ρ := sA (ρ140) (a0) 59 (some (b0 + tn (sA (ρ137) (a0) 58 (some (b0 + tn (ρ132))))))) C hin tC_11 k141 i142 (by decide) W_7_38 rfl rfl rfl rfl (sA_ok (fun _ => rfl)) dX12_init_317 ?_
  refine zx_aload_n C dX12_init_320 0 rfl ?_
  refine zx_bipush (v := 40) C dX12_init_321 (by decide) ?_
  refine zx_bipush (v := 16) C dX12_init_323 (by decide) ?_
  obtain ⟨v143, ρ144, h145, hm⟩ := cll_e hm
  refine zx_callV (σ := sA (ρ140) (a0) 59 (some (b0 + tn (sA (ρ137) (a0) 58 (some (b0 + tn (ρ132))))))) C [.int (40), .int (16)] tC_11 k141 i142 Y_X12_format W_6_205 W_6_206 W_6_207 (c_X12_format h145) (by decide) (by decide) rfl (Nat.le_of_ble_eq_true rfl) dX12_init_325 rfl ?_
  refine zx_pop C dX12_init_328 rfl ?_
  obtain ⟨rfl, rfl⟩ := ret_e hm
  exact zx_vret C rfl rfl rfl dX12_init_329
abbrev cX12_make : ByteArray := prog_13_method_73_code
def yX12_make : MethodName := ⟨"SyncTreeModel", "make", "(I)I"⟩
theorem Y_X12_make : tY yX12_make cX12_make 4 (some .int) 1 := ⟨W_8_23, W_1_14, ⟨by decide +kernel, by decide +kernel⟩, by decide +kernel⟩
theorem dX12_make_0 : decode cX12_make 0 = .ok (.aload_n 0, 1) := by decide +kernel
theorem dX12_make_1 : decode cX12_make 1 = .ok (.iconst 0, 1) := by decide +kernel
theorem dX12_make_2 : decode cX12_make 2 = .ok (.invokevirtual 409, 3) := by decide +kernel
theorem dX12_make_5 : decode cX12_make 5 = .ok (.istore_n 2, 1) := by decide +kernel
theorem dX12_make_6 : decode cX12_make 6 = .ok (.iload_n 2, 1) := by decide +kernel
theorem dX12_make_7 : decode cX12_make 7 = .ok (.ifCond .ge 5, 3) := by decide +kernel
theorem dX12_make_10 : decode cX12_make 10 = .ok (.iload_n 2, 1) := by decide +kernel
theorem dX12_make_11 : decode cX12_make 11 = .ok (.ireturn, 1) := by decide +kernel
theorem dX12_make_12 : decode cX12_make 12 = .ok (.aload_n 0, 1) := by decide +kernel
theorem dX12_make_13 : decode cX12_make 13 = .ok (.iload_n 2, 1) := by decide +kernel
theorem dX12_make_14 : decode cX12_make 14 = .ok (.aload_n 0, 1) := by decide +kernel
theorem dX12_make_15 : decode cX12_make 15 = .ok (.getfield 358, 3) := by decide +kernel
theorem dX12_make_18 : decode cX12_make 18 = .ok (.iconst 0, 1) := by decide +kernel
theorem dX12_make_19 : decode cX12_make 19 = .ok (.aload_n 0, 1) := by decide +kernel
theorem dX12_make_20 : decode cX12_make 20 = .ok (.getfield 355, 3) := by decide +kernel
theorem dX12_make_23 : decode cX12_make 23 = .ok (.invokevirtual 339, 3) := by decide +kernel
theorem dX12_make_26 : decode cX12_make 26 = .ok (.ifCond .lt 6, 3) := by decide +kernel
theorem dX12_make_29 : decode cX12_make 29 = .ok (.bipush (-2), 2) := by decide +kernel
theorem dX12_make_31 : decode cX12_make 31 = .ok (.ireturn, 1) := by decide +kernel
theorem dX12_make_32 : decode cX12_make 32 = .ok (.aload_n 0, 1) := by decide +kernel
theorem dX12_make_33 : decode cX12_make 33 = .ok (.getfield 355, 3) := by decide +kernel
theorem dX12_make_36 : decode cX12_make 36 = .ok (.bipush 28, 2) := by decide +kernel
theorem dX12_make_38 : decode cX12_make 38 = .ok (.if_icmp .le 6, 3) := by decide +kernel
theorem dX12_make_41 : decode cX12_make 41 = .ok (.bipush (-7), 2) := by decide +kernel
theorem dX12_make_43 : decode cX12_make 43 = .ok (.ireturn, 1) := by decide +kernel
theorem dX12_make_44 : decode cX12_make 44 = .ok (.iconst 0, 1) := by decide +kernel
theorem dX12_make_45 : decode cX12_make 45 = .ok (.istore_n 3, 1) := by decide +kernel
theorem dX12_make_46 : decode cX12_make 46 = .ok (.iload_n 3, 1) := by decide +kernel
theorem dX12_make_47 : decode cX12_make 47 = .ok (.bipush 64, 2) := by decide +kernel
theorem dX12_make_49 : decode cX12_make 49 = .ok (.if_icmp .ge 18, 3) := by decide +kernel
theorem dX12_make_52 : decode cX12_make 52 = .ok (.aload_n 0, 1) := by decide +kernel
theorem dX12_make_53 : decode cX12_make 53 = .ok (.iload_n 3, 1) := by decide +kernel
theorem dX12_make_54 : decode cX12_make 54 = .ok (.iconst 0, 1) := by decide +kernel
theorem dX12_make_55 : decode cX12_make 55 = .ok (.invokevirtual 247, 3) := by decide +kernel
theorem dX12_make_58 : decode cX12_make 58 = .ok (.ifCond .eq 9, 3) := by decide +kernel
theorem dX12_make_61 : decode cX12_make 61 = .ok (.iinc 3 1, 3) := by decide +kernel
theorem dX12_make_64 : decode cX12_make 64 = .ok (.goto (-18), 3) := by decide +kernel
theorem dX12_make_67 : decode cX12_make 67 = .ok (.iload_n 3, 1) := by decide +kernel
theorem dX12_make_68 : decode cX12_make 68 = .ok (.bipush 64, 2) := by decide +kernel
theorem dX12_make_70 : decode cX12_make 70 = .ok (.if_icmp .ne 6, 3) := by decide +kernel
theorem dX12_make_73 : decode cX12_make 73 = .ok (.bipush (-10), 2) := by decide +kernel
theorem dX12_make_75 : decode cX12_make 75 = .ok (.ireturn, 1) := by decide +kernel
theorem dX12_make_76 : decode cX12_make 76 = .ok (.aload_n 0, 1) := by decide +kernel
theorem dX12_make_77 : decode cX12_make 77 = .ok (.iload_n 2, 1) := by decide +kernel
theorem dX12_make_78 : decode cX12_make 78 = .ok (.invokevirtual 412, 3) := by decide +kernel
theorem dX12_make_81 : decode cX12_make 81 = .ok (.ifCond .eq 6, 3) := by decide +kernel
theorem dX12_make_84 : decode cX12_make 84 = .ok (.bipush (-6), 2) := by decide +kernel
theorem dX12_make_86 : decode cX12_make 86 = .ok (.ireturn, 1) := by decide +kernel
theorem dX12_make_87 : decode cX12_make 87 = .ok (.aload_n 0, 1) := by decide +kernel
theorem dX12_make_88 : decode cX12_make 88 = .ok (.iload_n 3, 1) := by decide +kernel
theorem dX12_make_89 : decode cX12_make 89 = .ok (.iconst 0, 1) := by decide +kernel
theorem dX12_make_90 : decode cX12_make 90 = .ok (.iload_n 1, 1) := by decide +kernel
theorem dX12_make_91 : decode cX12_make 91 = .ok (.invokevirtual 266, 3) := by decide +kernel
theorem dX12_make_94 : decode cX12_make 94 = .ok (.aload_n 0, 1) := by decide +kernel
theorem dX12_make_95 : decode cX12_make 95 = .ok (.iload_n 3, 1) := by decide +kernel
theorem dX12_make_96 : decode cX12_make 96 = .ok (.iconst 1, 1) := by decide +kernel
theorem dX12_make_97 : decode cX12_make 97 = .ok (.iconst 0, 1) := by decide +kernel
theorem dX12_make_98 : decode cX12_make 98 = .ok (.invokevirtual 266, 3) := by decide +kernel
theorem dX12_make_101 : decode cX12_make 101 = .ok (.aload_n 0, 1) := by decide +kernel
theorem dX12_make_102 : decode cX12_make 102 = .ok (.iload_n 3, 1) := by decide +kernel
theorem dX12_make_103 : decode cX12_make 103 = .ok (.iconst 2, 1) := by decide +kernel
theorem dX12_make_104 : decode cX12_make 104 = .ok (.iload_n 1, 1) := by decide +kernel
theorem dX12_make_105 : decode cX12_make 105 = .ok (.iconst 2, 1) := by decide +kernel
theorem dX12_make_106 : decode cX12_make 106 = .ok (.if_icmp .ne 7, 3) := by decide +kernel
theorem dX12_make_109 : decode cX12_make 109 = .ok (.iconst 0, 1) := by decide +kernel
theorem dX12_make_110 : decode cX12_make 110 = .ok (.goto 4, 3) := by decide +kernel
theorem dX12_make_113 : decode cX12_make 113 = .ok (.iconst 1, 1) := by decide +kernel
theorem dX12_make_114 : decode cX12_make 114 = .ok (.invokevirtual 266, 3) := by decide +kernel
theorem dX12_make_117 : decode cX12_make 117 = .ok (.aload_n 0, 1) := by decide +kernel
theorem dX12_make_118 : decode cX12_make 118 = .ok (.iload_n 3, 1) := by decide +kernel
theorem dX12_make_119 : decode cX12_make 119 = .ok (.iconst 3, 1) := by decide +kernel
theorem dX12_make_120 : decode cX12_make 120 = .ok (.iload_n 1, 1) := by decide +kernel
theorem dX12_make_121 : decode cX12_make 121 = .ok (.iconst 2, 1) := by decide +kernel
theorem dX12_make_122 : decode cX12_make 122 = .ok (.if_icmp .ne 7, 3) := by decide +kernel
theorem dX12_make_125 : decode cX12_make 125 = .ok (.iload_n 2, 1) := by decide +kernel
theorem dX12_make_126 : decode cX12_make 126 = .ok (.goto 4, 3) := by decide +kernel
theorem dX12_make_129 : decode cX12_make 129 = .ok (.iconst 0, 1) := by decide +kernel
theorem dX12_make_130 : decode cX12_make 130 = .ok (.invokevirtual 266, 3) := by decide +kernel
theorem dX12_make_133 : decode cX12_make 133 = .ok (.aload_n 0, 1) := by decide +kernel
theorem dX12_make_134 : decode cX12_make 134 = .ok (.getfield 193, 3) := by decide +kernel
theorem dX12_make_137 : decode cX12_make 137 = .ok (.iload_n 3, 1) := by decide +kernel
theorem dX12_make_138 : decode cX12_make 138 = .ok (.iconst 0, 1) := by decide +kernel
theorem dX12_make_139 : decode cX12_make 139 = .ok (.bastore, 1) := by decide +kernel
theorem dX12_make_140 : decode cX12_make 140 = .ok (.aload_n 0, 1) := by decide +kernel
theorem dX12_make_141 : decode cX12_make 141 = .ok (.iload_n 2, 1) := by decide +kernel
theorem dX12_make_142 : decode cX12_make 142 = .ok (.aload_n 0, 1) := by decide +kernel
theorem dX12_make_143 : decode cX12_make 143 = .ok (.getfield 358, 3) := by decide +kernel
theorem dX12_make_146 : decode cX12_make 146 = .ok (.aload_n 0, 1) := by decide +kernel
theorem dX12_make_147 : decode cX12_make 147 = .ok (.getfield 355, 3) := by decide +kernel
theorem dX12_make_150 : decode cX12_make 150 = .ok (.iload_n 3, 1) := by decide +kernel
theorem dX12_make_151 : decode cX12_make 151 = .ok (.invokevirtual 415, 3) := by decide +kernel
theorem dX12_make_154 : decode cX12_make 154 = .ok (.iload_n 3, 1) := by decide +kernel
theorem dX12_make_155 : decode cX12_make 155 = .ok (.ireturn, 1) := by decide +kernel
def J_X12_make_130 (b0 fu : Nat)  (x0 : Nat) (x2 : Int32) (x3 : Int32) (s0 : Nat) (s1 : Int32) (s2 : Int32) (s3 : Int32) (σ : tM) : Option ((Int32) × tM) := ckO b0 (σ) (s0) 11 (cll (m_X12_putNode b0 fu (s0) (s1) (s2) (s3) (σ)) (fun v45 ρ46 => ckO b0 (ρ46) (x0) 11 (osm (tA (ρ46) (x0) 25) (fun a50 => ckR b0 (ρ46) (a50) 2 (fun n54 => ckI (x3) (n54) (osm (tA (sI (ρ46) (a50) ((x3).toNatClampNeg) (vp_nar .boolean ((0 : Int32)))) (x0) 52) (fun a56 => cll (m_X12_addEntry b0 fu (x0) (x2) (a56) (tI (sI (ρ46) (a50) ((x3).toNatClampNeg) (vp_nar .boolean ((0 : Int32)))) (x0) 53) (x3) (sI (ρ46) (a50) ((x3).toNatClampNeg) (vp_nar .boolean ((0 : Int32))))) (fun v58 ρ59 => some (x3, ρ59)))))))))
def J_X12_make_114 (b0 fu : Nat)  (x0 : Nat) (x1 : Int32) (x2 : Int32) (x3 : Int32) (s0 : Nat) (s1 : Int32) (s2 : Int32) (s3 : Int32) (σ : tM) : Option ((Int32) × tM) := ckO b0 (σ) (s0) 11 (cll (m_X12_putNode b0 fu (s0) (s1) (s2) (s3) (σ)) (fun v39 ρ40 => if (x1) = (2) then J_X12_make_130 b0 fu   (x0) (x2) (x3) (x0) (x3) (3) (x2) (ρ40) else J_X12_make_130 b0 fu   (x0) (x2) (x3) (x0) (x3) (3) (0) (ρ40)))
def J_X12_make_67 (b0 fu : Nat)  (x0 : Nat) (x1 : Int32) (x2 : Int32) (x3 : Int32) (σ : tM) : Option ((Int32) × tM) := if (x3) = (64) then some ((-10), σ) else ckO b0 (σ) (x0) 11 (cll (m_X12_lacks b0 fu (x0) (x2) (σ)) (fun v22 ρ23 => if (v22) = (0) then ckO b0 (ρ23) (x0) 11 (cll (m_X12_putNode b0 fu (x0) (x3) (0) (x1) (ρ23)) (fun v28 ρ29 => ckO b0 (ρ29) (x0) 11 (cll (m_X12_putNode b0 fu (x0) (x3) (1) (0) (ρ29)) (fun v33 ρ34 => if (x1) = (2) then J_X12_make_114 b0 fu   (x0) (x1) (x2) (x3) (x0) (x3) (2) (0) (ρ34) else J_X12_make_114 b0 fu   (x0) (x1) (x2) (x3) (x0) (x3) (2) (1) (ρ34))))) else some ((-6), ρ23)))
def L_X12_make_46 (b0 fu : Nat)  : Nat → Nat → Int32 → Int32 → Int32 → tM → Option ((Int32) × tM)
  | 0, _, _, _, _, _ => none
  | n + 1, x0, x1, x2, x3, σ => ltb (L_X12_make_46 b0 fu  n) (fun rc46 => if (64) ≤ (x3) then J_X12_make_67 b0 fu   (x0) (x1) (x2) (x3) (σ) else ckO b0 (σ) (x0) 11 (cll (m_X12_node b0 fu (x0) (x3) (0) (σ)) (fun v63 ρ64 => if (v63) = (0) then J_X12_make_67 b0 fu   (x0) (x1) (x2) (x3) (ρ64) else ltb ((x3) + Int32.ofInt 1) (fun y67 => rc46 (x0) (x1) (x2) (y67) (ρ64)))))
def m_X12_make (b0 fu : Nat) (a0 : Nat) (p0 : Int32) (σ : tM) : Option ((Int32) × tM) := grw σ (ckO b0 (σ) (a0) 11 (cll (m_X12_walkAhead b0 fu (a0) (0) (σ)) (fun v3 ρ4 => if (0) ≤ (v3) then ckO b0 (ρ4) (a0) 11 (osm (tA (ρ4) (a0) 52) (fun a9 => cll (m_X12_find b0 fu (a0) (v3) (a9) (0) (tI (ρ4) (a0) 53) (ρ4)) (fun v11 ρ12 => if (v11) < (0) then ckO b0 (ρ12) (a0) 11 (if (tI (ρ12) (a0) 53) ≤ (28) then L_X12_make_46 b0 fu  (fu) (a0) (p0) (v3) (0) (ρ12) else some ((-7), ρ12)) else some ((-2), ρ12)))) else some (v3, ρ4))))
set_option maxRecDepth 100000 in
set_option maxHeartbeats 1000000 in
theorem j_X12_make_130 {p : Program} {l : Launch} {e : Env} {s : State} {m : MethodId} {args : Array Value} {below : List Frame} {meth : Method} {c : Code} {D : va_G} {aC : Nat → ClassId} {b0 fu : Nat} {σ0 τ : tM} {v : Int32}  (C : tCx p l s m args meth c yX12_make.cls cX12_make 4 (some .int) D aC b0 σ0) (htab : ∀ x ∈ c.exceptionTable.toList, False) (hin : meth.name = yX12_make.name)  {x0 : Nat} {x2 : Int32} {x3 : Int32} {s0 : Nat} {s1 : Int32} {s2 : Int32} {s3 : Int32} {σ : tM} (hm : J_X12_make_130 b0 fu  x0 x2 x3 s0 s1 s2 s3 σ = some (v, τ)) : tX p l e s m args below meth c 4 9 219 D aC b0 σ0 (.inl (some (.int v))) τ 130 [(0, .ref (x0)), (2, .int (x2)), (3, .int (x3))] [.int (s3), .int (s2), .int (s1), .ref (s0)] σ := by
  unfold J_X12_make_130 at hm
  obtain ⟨k43, i44, hm⟩ := ckO_e hm
  obtain ⟨v45, ρ46, h47, hm⟩ := cll_e hm
  refine zx_callV (σ := σ) C [.int (s1), .int (s2), .int (s3)] tC_11 k43 i44 Y_X12_putNode W_8_99 W_8_101 Wp_94 (c_X12_putNode h47) (by decide) (by decide) rfl (Nat.le_of_ble_eq_true rfl) dX12_make_130 rfl ?_
  refine zx_aload_n C dX12_make_133 0 rfl ?_
  obtain ⟨k48, i49, hm⟩ := ckO_e hm
  obtain ⟨a50, h51, hm⟩ := osm_e hm
  refine zx_get (j := 25) C tC_11 k48 i49 ⟨by decide, Or.inl W_7_4⟩ dX12_make_134 (.ref a50) (rf_s h51) ?_
  refine zx_iload_n C dX12_make_137 2 rfl ?_
  refine zx_iconst (v := 0) C dX12_make_138 (by decide) ?_
  obtain ⟨n54, k52, i53, hm⟩ := ckR_e hm
  obtain ⟨h55, hm⟩ := ckI_e hm
  refine zx_zast C k52 i53 h55 dX12_make_139 ?_
  refine zx_aload_n C dX12_make_140 0 rfl ?_
  refine zx_iload_n C dX12_make_141 1 rfl ?_
  refine zx_aload_n C dX12_make_142 0 rfl ?_
  obtain ⟨a56, h57, hm⟩ := osm_e hm
  refine zx_get (j := 52) C tC_11 k48 i49 ⟨by decide, Or.inl W_7_31⟩ dX12_make_143 (.ref a56) (rf_s h57) ?_
  refine zx_aload_n C dX12_make_146 0 rfl ?_
  refine zx_get (j := 53) C tC_11 k48 i49 ⟨by decide, Or.inl W_7_32⟩ dX12_make_147 (.int (tI (sI (ρ46) (a50) ((x3).toNatClampNeg) (vp_nar .boolean ((0 : Int32)))) (x0) 53)) rfl ?_
  refine zx_iload_n C dX12_make_150 2 rfl ?_
  obtain ⟨v58, ρ59, h60, hm⟩ := cll_e hm
  refine zx_callV (σ := sI (ρ46) (a50) ((x3).toNatClampNeg) (vp_nar .boolean ((0 : Int32)))) C [.int (x2), .ref (a56), .int (tI (sI (ρ46) (a50) ((x3).toNatClampNeg) (vp_nar .boolean ((0 : Int32)))) (x0) 53), .int (x3)] tC_11 k48 i49 Y_X12_addEntry W_8_111 W_8_113 Wp_97 (c_X12_addEntry h60) (by decide) (by decide) rfl (Nat.le_of_ble_eq_true rfl) dX12_make_151 rfl ?_
  refine zx_iload_n C dX12_make_154 2 rfl ?_
  obtain ⟨rfl, rfl⟩ := ret_e hm
  exact zx_iret C rfl rfl rfl dX12_make_155
set_option maxRecDepth 100000 in
set_option maxHeartbeats 1000000 in
theorem j_X12_make_114 {p : Program} {l : Launch} {e : Env} {s : State} {m : MethodId} {args : Array Value} {below : List Frame} {meth : Method} {c : Code} {D : va_G} {aC : Nat → ClassId} {b0 fu : Nat} {σ0 τ : tM} {v : Int32}  (C : tCx p l s m args meth c yX12_make.cls cX12_make 4 (some .int) D aC b0 σ0) (htab : ∀ x ∈ c.exceptionTable.toList, False) (hin : meth.name = yX12_make.name)  {x0 : Nat} {x1 : Int32} {x2 : Int32} {x3 : Int32} {s0 : Nat} {s1 : Int32} {s2 : Int32} {s3 : Int32} {σ : tM} (hm : J_X12_make_114 b0 fu  x0 x1 x2 x3 s0 s1 s2 s3 σ = some (v, τ)) : tX p l e s m args below meth c 4 9 219 D aC b0 σ0 (.inl (some (.int v))) τ 114 [(0, .ref (x0)), (1, .int (x1)), (2, .int (x2)), (3, .int (x3))] [.int (s3), .int (s2), .int (s1), .ref (s0)] σ := by
  unfold J_X12_make_114 at hm
  obtain ⟨k37, i38, hm⟩ := ckO_e hm
  obtain ⟨v39, ρ40, h41, hm⟩ := cll_e hm
  refine zx_callV (σ := σ) C [.int (s1), .int (s2), .int (s3)] tC_11 k37 i38 Y_X12_putNode W_8_99 W_8_101 Wp_94 (c_X12_putNode h41) (by decide) (by decide) rfl (Nat.le_of_ble_eq_true rfl) dX12_make_114 rfl ?_
  refine zx_aload_n C dX12_make_117 0 rfl ?_
  refine zx_iload_n C dX12_make_118 3 rfl ?_
  refine zx_iconst (v := 3) C dX12_make_119 (by decide) ?_
  refine zx_iload_n C dX12_make_120 1 rfl ?_
  refine zx_iconst (v := 2) C dX12_make_121 (by decide) ?_
  refine zx_icmp_ne C 129 dX12_make_122 (by decide) (fun c42 => ?_) (fun c42 => ?_)
  · replace hm := in_e hm c42
    refine zx_iconst (v := 0) C dX12_make_129 (by decide) ?_
    exact zx_lv [0, 2, 3] [(0, .ref (x0)), (2, .int (x2)), (3, .int (x3))] rfl (j_X12_make_130 C htab hin    hm)
  · replace hm := ip_e hm c42
    refine zx_iload_n C dX12_make_125 2 rfl ?_
    refine zx_goto C 130 dX12_make_126 (by decide) ?_
    exact zx_lv [0, 2, 3] [(0, .ref (x0)), (2, .int (x2)), (3, .int (x3))] rfl (j_X12_make_130 C htab hin    hm)
set_option maxRecDepth 100000 in
set_option maxHeartbeats 1000000 in
theorem j_X12_make_67 {p : Program} {l : Launch} {e : Env} {s : State} {m : MethodId} {args : Array Value} {below : List Frame} {meth : Method} {c : Code} {D : va_G} {aC : Nat → ClassId} {b0 fu : Nat} {σ0 τ : tM} {v : Int32}  (C : tCx p l s m args meth c yX12_make.cls cX12_make 4 (some .int) D aC b0 σ0) (htab : ∀ x ∈ c.exceptionTable.toList, False) (hin : meth.name = yX12_make.name)  {x0 : Nat} {x1 : Int32} {x2 : Int32} {x3 : Int32} {σ : tM} (hm : J_X12_make_67 b0 fu  x0 x1 x2 x3 σ = some (v, τ)) : tX p l e s m args below meth c 4 9 219 D aC b0 σ0 (.inl (some (.int v))) τ 67 [(0, .ref (x0)), (1, .int (x1)), (2, .int (x2)), (3, .int (x3))] [] σ := by
  unfold J_X12_make_67 at hm
  refine zx_iload_n C dX12_make_67 3 rfl ?_
  refine zx_bipush (v := 64) C dX12_make_68 (by decide) ?_
  refine zx_icmp_ne C 76 dX12_make_70 (by decide) (fun c19 => ?_) (fun c19 => ?_)
  · replace hm := in_e hm c19
    refine zx_aload_n C dX12_make_76 0 rfl ?_
    refine zx_iload_n C dX12_make_77 2 rfl ?_
    obtain ⟨k20, i21, hm⟩ := ckO_e hm
    obtain ⟨v22, ρ23, h24, hm⟩ := cll_e hm
    refine zx_callV (σ := σ) C [.int (x2)] tC_11 k20 i21 Y_X12_lacks W_8_79 W_8_81 Wp_89 (c_X12_lacks h24) (by decide) (by decide) rfl (Nat.le_of_ble_eq_true rfl) dX12_make_78 rfl ?_
    refine zx_if_eq C 87 dX12_make_81 (by decide) (fun c25 => ?_) (fun c25 => ?_)
    · replace hm := ip_e hm c25
      refine zx_aload_n C dX12_make_87 0 rfl ?_
      refine zx_iload_n C dX12_make_88 3 rfl ?_
      refine zx_iconst (v := 0) C dX12_make_89 (by decide) ?_
      refine zx_iload_n C dX12_make_90 1 rfl ?_
      obtain ⟨k26, i27, hm⟩ := ckO_e hm
      obtain ⟨v28, ρ29, h30, hm⟩ := cll_e hm
      refine zx_callV (σ := ρ23) C [.int (x3), .int (0), .int (x1)] tC_11 k26 i27 Y_X12_putNode W_8_99 W_8_101 Wp_94 (c_X12_putNode h30) (by decide) (by decide) rfl (Nat.le_of_ble_eq_true rfl) dX12_make_91 rfl ?_
      refine zx_aload_n C dX12_make_94 0 rfl ?_
      refine zx_iload_n C dX12_make_95 3 rfl ?_
      refine zx_iconst (v := 1) C dX12_make_96 (by decide) ?_
      refine zx_iconst (v := 0) C dX12_make_97 (by decide) ?_
      obtain ⟨k31, i32, hm⟩ := ckO_e hm
      obtain ⟨v33, ρ34, h35, hm⟩ := cll_e hm
      refine zx_callV (σ := ρ29) C [.int (x3), .int (1), .int (0)] tC_11 k31 i32 Y_X12_putNode W_8_99 W_8_101 Wp_94 (c_X12_putNode h35) (by decide) (by decide) rfl (Nat.le_of_ble_eq_true rfl) dX12_make_98 rfl ?_
      refine zx_aload_n C dX12_make_101 0 rfl ?_
      refine zx_iload_n C dX12_make_102 3 rfl ?_
      refine zx_iconst (v := 2) C dX12_make_103 (by decide) ?_
      refine zx_iload_n C dX12_make_104 1 rfl ?_
      refine zx_iconst (v := 2) C dX12_make_105 (by decide) ?_
      refine zx_icmp_ne C 113 dX12_make_106 (by decide) (fun c36 => ?_) (fun c36 => ?_)
      · replace hm := in_e hm c36
        refine zx_iconst (v := 1) C dX12_make_113 (by decide) ?_
        exact zx_lv [0, 1, 2, 3] [(0, .ref (x0)), (1, .int (x1)), (2, .int (x2)), (3, .int (x3))] rfl (j_X12_make_114 C htab hin    hm)
      · replace hm := ip_e hm c36
        refine zx_iconst (v := 0) C dX12_make_109 (by decide) ?_
        refine zx_goto C 114 dX12_make_110 (by decide) ?_
        exact zx_lv [0, 1, 2, 3] [(0, .ref (x0)), (1, .int (x1)), (2, .int (x2)), (3, .int (x3))] rfl (j_X12_make_114 C htab hin    hm)
    · replace hm := in_e hm c25
      refine zx_bipush (v := (-6)) C dX12_make_84 (by decide) ?_
      obtain ⟨rfl, rfl⟩ := ret_e hm
      exact zx_iret C rfl rfl rfl dX12_make_86
  · replace hm := ip_e hm c19
    refine zx_bipush (v := (-10)) C dX12_make_73 (by decide) ?_
    obtain ⟨rfl, rfl⟩ := ret_e hm
    exact zx_iret C rfl rfl rfl dX12_make_75
set_option maxRecDepth 100000 in
set_option maxHeartbeats 1000000 in
theorem l_X12_make_46 {p : Program} {l : Launch} {e : Env} {s : State} {m : MethodId} {args : Array Value} {below : List Frame} {meth : Method} {c : Code} {D : va_G} {aC : Nat → ClassId} {b0 fu : Nat} {σ0 τ : tM} {v : Int32}  (C : tCx p l s m args meth c yX12_make.cls cX12_make 4 (some .int) D aC b0 σ0) (htab : ∀ x ∈ c.exceptionTable.toList, False) (hin : meth.name = yX12_make.name)  : ∀ (n : Nat) (x0 : Nat) (x1 : Int32) (x2 : Int32) (x3 : Int32) (σ : tM), L_X12_make_46 b0 fu  n x0 x1 x2 x3 σ = some (v, τ) → tX p l e s m args below meth c 4 9 219 D aC b0 σ0 (.inl (some (.int v))) τ 46 [(0, .ref (x0)), (1, .int (x1)), (2, .int (x2)), (3, .int (x3))] [] σ := by
  intro n
  induction n with
  | zero => intro x0 x1 x2 x3 σ hm; unfold L_X12_make_46 at hm; cases hm
  | succ n ih =>
    intro x0 x1 x2 x3 σ hm
    unfold L_X12_make_46 at hm
    obtain ⟨rc46, hrc⟩ : ∃ z, z = L_X12_make_46 b0 fu  n := ⟨_, rfl⟩
    replace hm := ltb_e hm hrc
    rw [← hrc] at ih
    have hrc46 := ih
    clear ih hrc
    refine zx_iload_n C dX12_make_46 3 rfl ?_
    refine zx_bipush (v := 64) C dX12_make_47 (by decide) ?_
    refine zx_icmp_ge C 67 dX12_make_49 (by decide) (fun c18 => ?_) (fun c18 => ?_)
    · replace hm := ip_e hm c18
      exact zx_lv [0, 1, 2, 3] [(0, .ref (x0)), (1, .int (x1)), (2, .int (x2)), (3, .int (x3))] rfl (j_X12_make_67 C htab hin    hm)
    · replace hm := in_e hm c18
      refine zx_aload_n C dX12_make_52 0 rfl ?_
      refine zx_iload_n C dX12_make_53 3 rfl ?_
      refine zx_iconst (v := 0) C dX12_make_54 (by decide) ?_
      obtain ⟨k61, i62, hm⟩ := ckO_e hm
      obtain ⟨v63, ρ64, h65, hm⟩ := cll_e hm
      refine zx_callV (σ := σ) C [.int (x3), .int (0)] tC_11 k61 i62 Y_X12_node W_8_40 W_8_42 Wp_80 (c_X12_node h65) (by decide) (by decide) rfl (Nat.le_of_ble_eq_true rfl) dX12_make_55 rfl ?_
      refine zx_if_eq C 67 dX12_make_58 (by decide) (fun c66 => ?_) (fun c66 => ?_)
      · replace hm := ip_e hm c66
        exact zx_lv [0, 1, 2, 3] [(0, .ref (x0)), (1, .int (x1)), (2, .int (x2)), (3, .int (x3))] rfl (j_X12_make_67 C htab hin    hm)
      · replace hm := in_e hm c66
        obtain ⟨y67, hy67⟩ : ∃ z : Int32, z = (x3) + Int32.ofInt 1 := ⟨_, rfl⟩
        replace hm := ltb_e hm hy67
        refine zx_iinc C [(3, .int (y67)), (0, .ref (x0)), (1, .int (x1)), (2, .int (x2))] dX12_make_61 3 rfl hy67.symm (by decide) rfl ?_
        refine zx_goto C 46 dX12_make_64 (by decide) ?_
        exact zx_lv [1, 2, 3, 0] [(0, .ref (x0)), (1, .int (x1)), (2, .int (x2)), (3, .int (y67))] rfl (hrc46 _ _ _ _ _ hm)
set_option maxRecDepth 100000 in
set_option maxHeartbeats 1000000 in
theorem c_X12_make {l : Launch} {D : va_G} {aC : Nat → ClassId} {b0 fu : Nat} {a0 : Nat} {p0 : Int32} {σ τ : tM} {v : Int32} (hm : m_X12_make b0 fu a0 p0 σ = some (v, τ)) : tMt l D aC b0 yX12_make (Cond.code yX12_make cX12_make 4 (some .int)) 9 219 [.ref (a0), .int (p0)] σ (.inl (some (.int v))) τ := by
  unfold m_X12_make at hm
  obtain ⟨hg, hm⟩ := grw_e hm
  refine tMt_of (n := 0) rfl (Nat.le_of_ble_eq_true rfl) hg ?_
  intro p e s m below meth c C htab hin
  refine zx_lv [0, 1] [(0, .ref (a0)), (1, .int (p0))] rfl ?_
  refine zx_aload_n C dX12_make_0 0 rfl ?_
  refine zx_iconst (v := 0) C dX12_make_1 (by decide) ?_
  obtain ⟨k1, i2, hm⟩ := ckO_e hm
  obtain ⟨v3, ρ4, h5, hm⟩ := cll_e hm
  refine zx_callV (σ := σ) C [.int (0)] tC_11 k1 i2 Y_X12_walkAhead W_8_24 W_8_26 Wp_76 (c_X12_walkAhead h5) (by decide) (by decide) rfl (Nat.le_of_ble_eq_true rfl) dX12_make_2 rfl ?_
  refine zx_istore_n C [(2, .int (v3)), (0, .ref (a0)), (1, .int (p0))] dX12_make_5 rfl (by decide) rfl ?_
  refine zx_iload_n C dX12_make_6 0 rfl ?_
  refine zx_if_ge C 12 dX12_make_7 (by decide) (fun c6 => ?_) (fun c6 => ?_)
  · replace hm := ip_e hm c6
    refine zx_aload_n C dX12_make_12 1 rfl ?_
    refine zx_iload_n C dX12_make_13 0 rfl ?_
    refine zx_aload_n C dX12_make_14 1 rfl ?_
    obtain ⟨k7, i8, hm⟩ := ckO_e hm
    obtain ⟨a9, h10, hm⟩ := osm_e hm
    refine zx_get (j := 52) C tC_11 k7 i8 ⟨by decide, Or.inl W_7_31⟩ dX12_make_15 (.ref a9) (rf_s h10) ?_
    refine zx_iconst (v := 0) C dX12_make_18 (by decide) ?_
    refine zx_aload_n C dX12_make_19 1 rfl ?_
    refine zx_get (j := 53) C tC_11 k7 i8 ⟨by decide, Or.inl W_7_32⟩ dX12_make_20 (.int (tI (ρ4) (a0) 53)) rfl ?_
    obtain ⟨v11, ρ12, h13, hm⟩ := cll_e hm
    refine zx_callV (σ := ρ4) C [.int (v3), .ref (a9), .int (0), .int (tI (ρ4) (a0) 53)] tC_11 k7 i8 Y_X12_find W_8_44 W_8_46 Wp_81 (c_X12_find h13) (by decide) (by decide) rfl (Nat.le_of_ble_eq_true rfl) dX12_make_23 rfl ?_
    refine zx_if_lt C 32 dX12_make_26 (by decide) (fun c14 => ?_) (fun c14 => ?_)
    · replace hm := ip_e hm c14
      refine zx_aload_n C dX12_make_32 1 rfl ?_
      obtain ⟨k15, i16, hm⟩ := ckO_e hm
      refine zx_get (j := 53) C tC_11 k15 i16 ⟨by decide, Or.inl W_7_32⟩ dX12_make_33 (.int (tI (ρ12) (a0) 53)) rfl ?_
      refine zx_bipush (v := 28) C dX12_make_36 (by decide) ?_
      refine zx_icmp_le C 44 dX12_make_38 (by decide) (fun c17 => ?_) (fun c17 => ?_)
      · replace hm := ip_e hm c17
        refine zx_iconst (v := 0) C dX12_make_44 (by decide) ?_
        refine zx_istore_n C [(3, .int (0)), (2, .int (v3)), (0, .ref (a0)), (1, .int (p0))] dX12_make_45 rfl (by decide) rfl ?_
        exact zx_lv [2, 3, 1, 0] [(0, .ref (a0)), (1, .int (p0)), (2, .int (v3)), (3, .int (0))] rfl (l_X12_make_46 C htab hin  _ _ _ _ _ _ hm)
      · replace hm := in_e hm c17
        refine zx_bipush (v := (-7)) C dX12_make_41 (by decide) ?_
        obtain ⟨rfl, rfl⟩ := ret_e hm
        exact zx_iret C rfl rfl rfl dX12_make_43
    · replace hm := in_e hm c14
      refine zx_bipush (v := (-2)) C dX12_make_29 (by decide) ?_
      obtain ⟨rfl, rfl⟩ := ret_e hm
      exact zx_iret C rfl rfl rfl dX12_make_31
  · replace hm := in_e hm c6
    refine zx_iload_n C dX12_make_10 0 rfl ?_
    obtain ⟨rfl, rfl⟩ := ret_e hm
    exact zx_iret C rfl rfl rfl dX12_make_11
abbrev cX12_lose : ByteArray := prog_13_method_78_code
def yX12_lose : MethodName := ⟨"SyncTreeModel", "lose", "(I)I"⟩
theorem Y_X12_lose : tY yX12_lose cX12_lose 3 (some .int) 1 := ⟨W_8_182, W_1_14, ⟨by decide +kernel, by decide +kernel⟩, by decide +kernel⟩
theorem dX12_lose_0 : decode cX12_lose 0 = .ok (.aload_n 0, 1) := by decide +kernel
theorem dX12_lose_1 : decode cX12_lose 1 = .ok (.iload_n 1, 1) := by decide +kernel
theorem dX12_lose_2 : decode cX12_lose 2 = .ok (.iconst 2, 1) := by decide +kernel
theorem dX12_lose_3 : decode cX12_lose 3 = .ok (.invokevirtual 247, 3) := by decide +kernel
theorem dX12_lose_6 : decode cX12_lose 6 = .ok (.iconst 1, 1) := by decide +kernel
theorem dX12_lose_7 : decode cX12_lose 7 = .ok (.isub, 1) := by decide +kernel
theorem dX12_lose_8 : decode cX12_lose 8 = .ok (.istore_n 2, 1) := by decide +kernel
theorem dX12_lose_9 : decode cX12_lose 9 = .ok (.aload_n 0, 1) := by decide +kernel
theorem dX12_lose_10 : decode cX12_lose 10 = .ok (.iload_n 1, 1) := by decide +kernel
theorem dX12_lose_11 : decode cX12_lose 11 = .ok (.iconst 2, 1) := by decide +kernel
theorem dX12_lose_12 : decode cX12_lose 12 = .ok (.iload_n 2, 1) := by decide +kernel
theorem dX12_lose_13 : decode cX12_lose 13 = .ok (.invokevirtual 266, 3) := by decide +kernel
theorem dX12_lose_16 : decode cX12_lose 16 = .ok (.aload_n 0, 1) := by decide +kernel
theorem dX12_lose_17 : decode cX12_lose 17 = .ok (.iload_n 1, 1) := by decide +kernel
theorem dX12_lose_18 : decode cX12_lose 18 = .ok (.invokevirtual 379, 3) := by decide +kernel
theorem dX12_lose_21 : decode cX12_lose 21 = .ok (.iload_n 2, 1) := by decide +kernel
theorem dX12_lose_22 : decode cX12_lose 22 = .ok (.ireturn, 1) := by decide +kernel
def m_X12_lose (b0 fu : Nat) (a0 : Nat) (p0 : Int32) (σ : tM) : Option ((Int32) × tM) := grw σ (ckO b0 (σ) (a0) 11 (cll (m_X12_node b0 fu (a0) (p0) (2) (σ)) (fun v3 ρ4 => ltb (((v3) - (1) : Int32)) (fun y6 => ckO b0 (ρ4) (a0) 11 (cll (m_X12_putNode b0 fu (a0) (p0) (2) (y6) (ρ4)) (fun v9 ρ10 => ckO b0 (ρ10) (a0) 11 (cll (m_X12_maybeFree b0 fu (a0) (p0) (ρ10)) (fun v14 ρ15 => some (y6, ρ15)))))))))
set_option maxRecDepth 100000 in
set_option maxHeartbeats 1000000 in
theorem c_X12_lose {l : Launch} {D : va_G} {aC : Nat → ClassId} {b0 fu : Nat} {a0 : Nat} {p0 : Int32} {σ τ : tM} {v : Int32} (hm : m_X12_lose b0 fu a0 p0 σ = some (v, τ)) : tMt l D aC b0 yX12_lose (Cond.code yX12_lose cX12_lose 3 (some .int)) 7 166 [.ref (a0), .int (p0)] σ (.inl (some (.int v))) τ := by
  unfold m_X12_lose at hm
  obtain ⟨hg, hm⟩ := grw_e hm
  refine tMt_of (n := 0) rfl (Nat.le_of_ble_eq_true rfl) hg ?_
  intro p e s m below meth c C htab hin
  refine zx_lv [0, 1] [(0, .ref (a0)), (1, .int (p0))] rfl ?_
  refine zx_aload_n C dX12_lose_0 0 rfl ?_
  refine zx_iload_n C dX12_lose_1 1 rfl ?_
  refine zx_iconst (v := 2) C dX12_lose_2 (by decide) ?_
  obtain ⟨k1, i2, hm⟩ := ckO_e hm
  obtain ⟨v3, ρ4, h5, hm⟩ := cll_e hm
  refine zx_callV (σ := σ) C [.int (p0), .int (2)] tC_11 k1 i2 Y_X12_node W_8_40 W_8_42 Wp_80 (c_X12_node h5) (by decide) (by decide) rfl (Nat.le_of_ble_eq_true rfl) dX12_lose_3 rfl ?_
  refine zx_iconst (v := 1) C dX12_lose_6 (by decide) ?_
  refine zx_isub C dX12_lose_7 ?_
  refine zx_topi (fun y6 hy6 => ?_)
  replace hm := ltb_e hm hy6
  refine zx_istore_n C [(2, .int (y6)), (0, .ref (a0)), (1, .int (p0))] dX12_lose_8 rfl (by decide) rfl ?_
  refine zx_aload_n C dX12_lose_9 1 rfl ?_
  refine zx_iload_n C dX12_lose_10 2 rfl ?_
  refine zx_iconst (v := 2) C dX12_lose_11 (by decide) ?_
  refine zx_iload_n C dX12_lose_12 0 rfl ?_
  obtain ⟨k7, i8, hm⟩ := ckO_e hm
  obtain ⟨v9, ρ10, h11, hm⟩ := cll_e hm
  refine zx_callV (σ := ρ4) C [.int (p0), .int (2), .int (y6)] tC_11 k7 i8 Y_X12_putNode W_8_99 W_8_101 Wp_94 (c_X12_putNode h11) (by decide) (by decide) rfl (Nat.le_of_ble_eq_true rfl) dX12_lose_13 rfl ?_
  refine zx_aload_n C dX12_lose_16 1 rfl ?_
  refine zx_iload_n C dX12_lose_17 2 rfl ?_
  obtain ⟨k12, i13, hm⟩ := ckO_e hm
  obtain ⟨v14, ρ15, h16, hm⟩ := cll_e hm
  refine zx_callV (σ := ρ10) C [.int (p0)] tC_11 k12 i13 Y_X12_maybeFree W_8_183 W_8_185 Wp_111 (c_X12_maybeFree h16) (by decide) (by decide) rfl (Nat.le_of_ble_eq_true rfl) dX12_lose_18 rfl ?_
  refine zx_iload_n C dX12_lose_21 0 rfl ?_
  obtain ⟨rfl, rfl⟩ := ret_e hm
  exact zx_iret C rfl rfl rfl dX12_lose_22
