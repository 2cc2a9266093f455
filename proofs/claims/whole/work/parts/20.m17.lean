abbrev cX12_format : ByteArray := prog_13_method_67_code
def yX12_format : MethodName := ⟨"SyncTreeModel", "format", "(II)I"⟩
theorem Y_X12_format : tY yX12_format cX12_format 5 (some .int) 2 := ⟨W_6_208, W_1_14, ⟨by decide +kernel, by decide +kernel⟩, by decide +kernel⟩
theorem dX12_format_0 : decode cX12_format 0 = .ok (.aload_n 0, 1) := by decide +kernel
theorem dX12_format_1 : decode cX12_format 1 = .ok (.iconst 0, 1) := by decide +kernel
theorem dX12_format_2 : decode cX12_format 2 = .ok (.putfield 3, 3) := by decide +kernel
theorem dX12_format_5 : decode cX12_format 5 = .ok (.iload_n 1, 1) := by decide +kernel
theorem dX12_format_6 : decode cX12_format 6 = .ok (.bipush 40, 2) := by decide +kernel
theorem dX12_format_8 : decode cX12_format 8 = .ok (.if_icmp .lt 23, 3) := by decide +kernel
theorem dX12_format_11 : decode cX12_format 11 = .ok (.iload_n 1, 1) := by decide +kernel
theorem dX12_format_12 : decode cX12_format 12 = .ok (.sipush 4096, 3) := by decide +kernel
theorem dX12_format_15 : decode cX12_format 15 = .ok (.if_icmp .gt 16, 3) := by decide +kernel
theorem dX12_format_18 : decode cX12_format 18 = .ok (.iload_n 2, 1) := by decide +kernel
theorem dX12_format_19 : decode cX12_format 19 = .ok (.bipush 16, 2) := by decide +kernel
theorem dX12_format_21 : decode cX12_format 21 = .ok (.if_icmp .lt 10, 3) := by decide +kernel
theorem dX12_format_24 : decode cX12_format 24 = .ok (.iload_n 2, 1) := by decide +kernel
theorem dX12_format_25 : decode cX12_format 25 = .ok (.sipush 2000, 3) := by decide +kernel
theorem dX12_format_28 : decode cX12_format 28 = .ok (.if_icmp .le 6, 3) := by decide +kernel
theorem dX12_format_31 : decode cX12_format 31 = .ok (.bipush (-9), 2) := by decide +kernel
theorem dX12_format_33 : decode cX12_format 33 = .ok (.ireturn, 1) := by decide +kernel
theorem dX12_format_34 : decode cX12_format 34 = .ok (.aload_n 0, 1) := by decide +kernel
theorem dX12_format_35 : decode cX12_format 35 = .ok (.iload_n 1, 1) := by decide +kernel
theorem dX12_format_36 : decode cX12_format 36 = .ok (.putfield 38, 3) := by decide +kernel
theorem dX12_format_39 : decode cX12_format 39 = .ok (.aload_n 0, 1) := by decide +kernel
theorem dX12_format_40 : decode cX12_format 40 = .ok (.iload_n 2, 1) := by decide +kernel
theorem dX12_format_41 : decode cX12_format 41 = .ok (.putfield 41, 3) := by decide +kernel
theorem dX12_format_44 : decode cX12_format 44 = .ok (.iconst 0, 1) := by decide +kernel
theorem dX12_format_45 : decode cX12_format 45 = .ok (.istore_n 3, 1) := by decide +kernel
theorem dX12_format_46 : decode cX12_format 46 = .ok (.iload_n 3, 1) := by decide +kernel
theorem dX12_format_47 : decode cX12_format 47 = .ok (.aload_n 0, 1) := by decide +kernel
theorem dX12_format_48 : decode cX12_format 48 = .ok (.getfield 13, 3) := by decide +kernel
theorem dX12_format_51 : decode cX12_format 51 = .ok (.arraylength, 1) := by decide +kernel
theorem dX12_format_52 : decode cX12_format 52 = .ok (.if_icmp .ge 16, 3) := by decide +kernel
theorem dX12_format_55 : decode cX12_format 55 = .ok (.aload_n 0, 1) := by decide +kernel
theorem dX12_format_56 : decode cX12_format 56 = .ok (.getfield 13, 3) := by decide +kernel
theorem dX12_format_59 : decode cX12_format 59 = .ok (.iload_n 3, 1) := by decide +kernel
theorem dX12_format_60 : decode cX12_format 60 = .ok (.iconst 0, 1) := by decide +kernel
theorem dX12_format_61 : decode cX12_format 61 = .ok (.iastore, 1) := by decide +kernel
theorem dX12_format_62 : decode cX12_format 62 = .ok (.iinc 3 1, 3) := by decide +kernel
theorem dX12_format_65 : decode cX12_format 65 = .ok (.goto (-19), 3) := by decide +kernel
theorem dX12_format_68 : decode cX12_format 68 = .ok (.iconst 0, 1) := by decide +kernel
theorem dX12_format_69 : decode cX12_format 69 = .ok (.istore_n 3, 1) := by decide +kernel
theorem dX12_format_70 : decode cX12_format 70 = .ok (.iload_n 3, 1) := by decide +kernel
theorem dX12_format_71 : decode cX12_format 71 = .ok (.sipush 2000, 3) := by decide +kernel
theorem dX12_format_74 : decode cX12_format 74 = .ok (.if_icmp .ge 44, 3) := by decide +kernel
theorem dX12_format_77 : decode cX12_format 77 = .ok (.iconst 0, 1) := by decide +kernel
theorem dX12_format_78 : decode cX12_format 78 = .ok (.istore 4, 2) := by decide +kernel
theorem dX12_format_80 : decode cX12_format 80 = .ok (.iload 4, 2) := by decide +kernel
theorem dX12_format_82 : decode cX12_format 82 = .ok (.bipush 8, 2) := by decide +kernel
theorem dX12_format_84 : decode cX12_format 84 = .ok (.if_icmp .ge 28, 3) := by decide +kernel
theorem dX12_format_87 : decode cX12_format 87 = .ok (.aload_n 0, 1) := by decide +kernel
theorem dX12_format_88 : decode cX12_format 88 = .ok (.getfield 13, 3) := by decide +kernel
theorem dX12_format_91 : decode cX12_format 91 = .ok (.iload_n 3, 1) := by decide +kernel
theorem dX12_format_92 : decode cX12_format 92 = .ok (.bipush 34, 2) := by decide +kernel
theorem dX12_format_94 : decode cX12_format 94 = .ok (.iload 4, 2) := by decide +kernel
theorem dX12_format_96 : decode cX12_format 96 = .ok (.bipush 30, 2) := by decide +kernel
theorem dX12_format_98 : decode cX12_format 98 = .ok (.imul, 1) := by decide +kernel
theorem dX12_format_99 : decode cX12_format 99 = .ok (.iadd, 1) := by decide +kernel
theorem dX12_format_100 : decode cX12_format 100 = .ok (.invokestatic 233, 3) := by decide +kernel
theorem dX12_format_103 : decode cX12_format 103 = .ok (.bipush 64, 2) := by decide +kernel
theorem dX12_format_105 : decode cX12_format 105 = .ok (.iastore, 1) := by decide +kernel
theorem dX12_format_106 : decode cX12_format 106 = .ok (.iinc 4 1, 3) := by decide +kernel
theorem dX12_format_109 : decode cX12_format 109 = .ok (.goto (-29), 3) := by decide +kernel
theorem dX12_format_112 : decode cX12_format 112 = .ok (.iinc 3 1, 3) := by decide +kernel
theorem dX12_format_115 : decode cX12_format 115 = .ok (.goto (-45), 3) := by decide +kernel
theorem dX12_format_118 : decode cX12_format 118 = .ok (.aload_n 0, 1) := by decide +kernel
theorem dX12_format_119 : decode cX12_format 119 = .ok (.getfield 13, 3) := by decide +kernel
theorem dX12_format_122 : decode cX12_format 122 = .ok (.iconst 0, 1) := by decide +kernel
theorem dX12_format_123 : decode cX12_format 123 = .ok (.iconst 2, 1) := by decide +kernel
theorem dX12_format_124 : decode cX12_format 124 = .ok (.iastore, 1) := by decide +kernel
theorem dX12_format_125 : decode cX12_format 125 = .ok (.aload_n 0, 1) := by decide +kernel
theorem dX12_format_126 : decode cX12_format 126 = .ok (.iconst 0, 1) := by decide +kernel
theorem dX12_format_127 : decode cX12_format 127 = .ok (.putfield 17, 3) := by decide +kernel
theorem dX12_format_130 : decode cX12_format 130 = .ok (.iconst 0, 1) := by decide +kernel
theorem dX12_format_131 : decode cX12_format 131 = .ok (.istore_n 3, 1) := by decide +kernel
theorem dX12_format_132 : decode cX12_format 132 = .ok (.iload_n 3, 1) := by decide +kernel
theorem dX12_format_133 : decode cX12_format 133 = .ok (.aload_n 0, 1) := by decide +kernel
theorem dX12_format_134 : decode cX12_format 134 = .ok (.getfield 68, 3) := by decide +kernel
theorem dX12_format_137 : decode cX12_format 137 = .ok (.arraylength, 1) := by decide +kernel
theorem dX12_format_138 : decode cX12_format 138 = .ok (.if_icmp .ge 16, 3) := by decide +kernel
theorem dX12_format_141 : decode cX12_format 141 = .ok (.aload_n 0, 1) := by decide +kernel
theorem dX12_format_142 : decode cX12_format 142 = .ok (.getfield 68, 3) := by decide +kernel
theorem dX12_format_145 : decode cX12_format 145 = .ok (.iload_n 3, 1) := by decide +kernel
theorem dX12_format_146 : decode cX12_format 146 = .ok (.iconst 0, 1) := by decide +kernel
theorem dX12_format_147 : decode cX12_format 147 = .ok (.iastore, 1) := by decide +kernel
theorem dX12_format_148 : decode cX12_format 148 = .ok (.iinc 3 1, 3) := by decide +kernel
theorem dX12_format_151 : decode cX12_format 151 = .ok (.goto (-19), 3) := by decide +kernel
theorem dX12_format_154 : decode cX12_format 154 = .ok (.aload_n 0, 1) := by decide +kernel
theorem dX12_format_155 : decode cX12_format 155 = .ok (.iconst 0, 1) := by decide +kernel
theorem dX12_format_156 : decode cX12_format 156 = .ok (.putfield 87, 3) := by decide +kernel
theorem dX12_format_159 : decode cX12_format 159 = .ok (.aload_n 0, 1) := by decide +kernel
theorem dX12_format_160 : decode cX12_format 160 = .ok (.iconst 0, 1) := by decide +kernel
theorem dX12_format_161 : decode cX12_format 161 = .ok (.putfield 93, 3) := by decide +kernel
theorem dX12_format_164 : decode cX12_format 164 = .ok (.aload_n 0, 1) := by decide +kernel
theorem dX12_format_165 : decode cX12_format 165 = .ok (.iconst 1, 1) := by decide +kernel
theorem dX12_format_166 : decode cX12_format 166 = .ok (.putfield 58, 3) := by decide +kernel
theorem dX12_format_169 : decode cX12_format 169 = .ok (.aload_n 0, 1) := by decide +kernel
theorem dX12_format_170 : decode cX12_format 170 = .ok (.iconst (-1), 1) := by decide +kernel
theorem dX12_format_171 : decode cX12_format 171 = .ok (.putfield 44, 3) := by decide +kernel
theorem dX12_format_174 : decode cX12_format 174 = .ok (.aload_n 0, 1) := by decide +kernel
theorem dX12_format_175 : decode cX12_format 175 = .ok (.iconst 0, 1) := by decide +kernel
theorem dX12_format_176 : decode cX12_format 176 = .ok (.putfield 55, 3) := by decide +kernel
theorem dX12_format_179 : decode cX12_format 179 = .ok (.aload_n 0, 1) := by decide +kernel
theorem dX12_format_180 : decode cX12_format 180 = .ok (.iconst 0, 1) := by decide +kernel
theorem dX12_format_181 : decode cX12_format 181 = .ok (.putfield 105, 3) := by decide +kernel
theorem dX12_format_184 : decode cX12_format 184 = .ok (.aload_n 0, 1) := by decide +kernel
theorem dX12_format_185 : decode cX12_format 185 = .ok (.iconst 0, 1) := by decide +kernel
theorem dX12_format_186 : decode cX12_format 186 = .ok (.putfield 128, 3) := by decide +kernel
theorem dX12_format_189 : decode cX12_format 189 = .ok (.aload_n 0, 1) := by decide +kernel
theorem dX12_format_190 : decode cX12_format 190 = .ok (.iconst 0, 1) := by decide +kernel
theorem dX12_format_191 : decode cX12_format 191 = .ok (.putfield 137, 3) := by decide +kernel
theorem dX12_format_194 : decode cX12_format 194 = .ok (.aload_n 0, 1) := by decide +kernel
theorem dX12_format_195 : decode cX12_format 195 = .ok (.iconst 0, 1) := by decide +kernel
theorem dX12_format_196 : decode cX12_format 196 = .ok (.putfield 131, 3) := by decide +kernel
theorem dX12_format_199 : decode cX12_format 199 = .ok (.aload_n 0, 1) := by decide +kernel
theorem dX12_format_200 : decode cX12_format 200 = .ok (.iconst 0, 1) := by decide +kernel
theorem dX12_format_201 : decode cX12_format 201 = .ok (.putfield 122, 3) := by decide +kernel
theorem dX12_format_204 : decode cX12_format 204 = .ok (.aload_n 0, 1) := by decide +kernel
theorem dX12_format_205 : decode cX12_format 205 = .ok (.iconst 0, 1) := by decide +kernel
theorem dX12_format_206 : decode cX12_format 206 = .ok (.putfield 199, 3) := by decide +kernel
theorem dX12_format_209 : decode cX12_format 209 = .ok (.aload_n 0, 1) := by decide +kernel
theorem dX12_format_210 : decode cX12_format 210 = .ok (.iconst 0, 1) := by decide +kernel
theorem dX12_format_211 : decode cX12_format 211 = .ok (.putfield 208, 3) := by decide +kernel
theorem dX12_format_214 : decode cX12_format 214 = .ok (.aload_n 0, 1) := by decide +kernel
theorem dX12_format_215 : decode cX12_format 215 = .ok (.iconst 0, 1) := by decide +kernel
theorem dX12_format_216 : decode cX12_format 216 = .ok (.putfield 202, 3) := by decide +kernel
theorem dX12_format_219 : decode cX12_format 219 = .ok (.aload_n 0, 1) := by decide +kernel
theorem dX12_format_220 : decode cX12_format 220 = .ok (.iconst 0, 1) := by decide +kernel
theorem dX12_format_221 : decode cX12_format 221 = .ok (.putfield 119, 3) := by decide +kernel
theorem dX12_format_224 : decode cX12_format 224 = .ok (.aload_n 0, 1) := by decide +kernel
theorem dX12_format_225 : decode cX12_format 225 = .ok (.iconst 0, 1) := by decide +kernel
theorem dX12_format_226 : decode cX12_format 226 = .ok (.putfield 161, 3) := by decide +kernel
theorem dX12_format_229 : decode cX12_format 229 = .ok (.aload_n 0, 1) := by decide +kernel
theorem dX12_format_230 : decode cX12_format 230 = .ok (.iconst 0, 1) := by decide +kernel
theorem dX12_format_231 : decode cX12_format 231 = .ok (.putfield 217, 3) := by decide +kernel
theorem dX12_format_234 : decode cX12_format 234 = .ok (.aload_n 0, 1) := by decide +kernel
theorem dX12_format_235 : decode cX12_format 235 = .ok (.invokevirtual 187, 3) := by decide +kernel
theorem dX12_format_238 : decode cX12_format 238 = .ok (.iconst 0, 1) := by decide +kernel
theorem dX12_format_239 : decode cX12_format 239 = .ok (.istore_n 3, 1) := by decide +kernel
theorem dX12_format_240 : decode cX12_format 240 = .ok (.iload_n 3, 1) := by decide +kernel
theorem dX12_format_241 : decode cX12_format 241 = .ok (.aload_n 0, 1) := by decide +kernel
theorem dX12_format_242 : decode cX12_format 242 = .ok (.getfield 62, 3) := by decide +kernel
theorem dX12_format_245 : decode cX12_format 245 = .ok (.arraylength, 1) := by decide +kernel
theorem dX12_format_246 : decode cX12_format 246 = .ok (.if_icmp .ge 16, 3) := by decide +kernel
theorem dX12_format_249 : decode cX12_format 249 = .ok (.aload_n 0, 1) := by decide +kernel
theorem dX12_format_250 : decode cX12_format 250 = .ok (.getfield 62, 3) := by decide +kernel
theorem dX12_format_253 : decode cX12_format 253 = .ok (.iload_n 3, 1) := by decide +kernel
theorem dX12_format_254 : decode cX12_format 254 = .ok (.iconst 0, 1) := by decide +kernel
theorem dX12_format_255 : decode cX12_format 255 = .ok (.iastore, 1) := by decide +kernel
theorem dX12_format_256 : decode cX12_format 256 = .ok (.iinc 3 1, 3) := by decide +kernel
theorem dX12_format_259 : decode cX12_format 259 = .ok (.goto (-19), 3) := by decide +kernel
theorem dX12_format_262 : decode cX12_format 262 = .ok (.iconst 0, 1) := by decide +kernel
theorem dX12_format_263 : decode cX12_format 263 = .ok (.istore_n 3, 1) := by decide +kernel
theorem dX12_format_264 : decode cX12_format 264 = .ok (.iload_n 3, 1) := by decide +kernel
theorem dX12_format_265 : decode cX12_format 265 = .ok (.sipush 2000, 3) := by decide +kernel
theorem dX12_format_268 : decode cX12_format 268 = .ok (.if_icmp .ge 23, 3) := by decide +kernel
theorem dX12_format_271 : decode cX12_format 271 = .ok (.aload_n 0, 1) := by decide +kernel
theorem dX12_format_272 : decode cX12_format 272 = .ok (.getfield 244, 3) := by decide +kernel
theorem dX12_format_275 : decode cX12_format 275 = .ok (.iload_n 3, 1) := by decide +kernel
theorem dX12_format_276 : decode cX12_format 276 = .ok (.iconst 0, 1) := by decide +kernel
theorem dX12_format_277 : decode cX12_format 277 = .ok (.bastore, 1) := by decide +kernel
theorem dX12_format_278 : decode cX12_format 278 = .ok (.aload_n 0, 1) := by decide +kernel
theorem dX12_format_279 : decode cX12_format 279 = .ok (.getfield 190, 3) := by decide +kernel
theorem dX12_format_282 : decode cX12_format 282 = .ok (.iload_n 3, 1) := by decide +kernel
theorem dX12_format_283 : decode cX12_format 283 = .ok (.iconst 0, 1) := by decide +kernel
theorem dX12_format_284 : decode cX12_format 284 = .ok (.iastore, 1) := by decide +kernel
theorem dX12_format_285 : decode cX12_format 285 = .ok (.iinc 3 1, 3) := by decide +kernel
theorem dX12_format_288 : decode cX12_format 288 = .ok (.goto (-24), 3) := by decide +kernel
theorem dX12_format_291 : decode cX12_format 291 = .ok (.iconst 0, 1) := by decide +kernel
theorem dX12_format_292 : decode cX12_format 292 = .ok (.istore_n 3, 1) := by decide +kernel
theorem dX12_format_293 : decode cX12_format 293 = .ok (.iload_n 3, 1) := by decide +kernel
theorem dX12_format_294 : decode cX12_format 294 = .ok (.bipush 16, 2) := by decide +kernel
theorem dX12_format_296 : decode cX12_format 296 = .ok (.if_icmp .ge 16, 3) := by decide +kernel
theorem dX12_format_299 : decode cX12_format 299 = .ok (.aload_n 0, 1) := by decide +kernel
theorem dX12_format_300 : decode cX12_format 300 = .ok (.getfield 286, 3) := by decide +kernel
theorem dX12_format_303 : decode cX12_format 303 = .ok (.iload_n 3, 1) := by decide +kernel
theorem dX12_format_304 : decode cX12_format 304 = .ok (.iconst (-1), 1) := by decide +kernel
theorem dX12_format_305 : decode cX12_format 305 = .ok (.iastore, 1) := by decide +kernel
theorem dX12_format_306 : decode cX12_format 306 = .ok (.iinc 3 1, 3) := by decide +kernel
theorem dX12_format_309 : decode cX12_format 309 = .ok (.goto (-16), 3) := by decide +kernel
theorem dX12_format_312 : decode cX12_format 312 = .ok (.aload_n 0, 1) := by decide +kernel
theorem dX12_format_313 : decode cX12_format 313 = .ok (.getfield 346, 3) := by decide +kernel
theorem dX12_format_316 : decode cX12_format 316 = .ok (.iconst 0, 1) := by decide +kernel
theorem dX12_format_317 : decode cX12_format 317 = .ok (.iconst 0, 1) := by decide +kernel
theorem dX12_format_318 : decode cX12_format 318 = .ok (.iastore, 1) := by decide +kernel
theorem dX12_format_319 : decode cX12_format 319 = .ok (.aload_n 0, 1) := by decide +kernel
theorem dX12_format_320 : decode cX12_format 320 = .ok (.getfield 346, 3) := by decide +kernel
theorem dX12_format_323 : decode cX12_format 323 = .ok (.iconst 1, 1) := by decide +kernel
theorem dX12_format_324 : decode cX12_format 324 = .ok (.iconst 0, 1) := by decide +kernel
theorem dX12_format_325 : decode cX12_format 325 = .ok (.iastore, 1) := by decide +kernel
theorem dX12_format_326 : decode cX12_format 326 = .ok (.aload_n 0, 1) := by decide +kernel
theorem dX12_format_327 : decode cX12_format 327 = .ok (.iconst 0, 1) := by decide +kernel
theorem dX12_format_328 : decode cX12_format 328 = .ok (.putfield 400, 3) := by decide +kernel
theorem dX12_format_331 : decode cX12_format 331 = .ok (.aload_n 0, 1) := by decide +kernel
theorem dX12_format_332 : decode cX12_format 332 = .ok (.invokevirtual 164, 3) := by decide +kernel
theorem dX12_format_335 : decode cX12_format 335 = .ok (.ireturn, 1) := by decide +kernel
def J_X12_format_31 (b0 fu : Nat)   (σ : tM) : Option ((Int32) × tM) := some ((-9), σ)
def L_X12_format_293 (b0 fu : Nat)  : Nat → Nat → Int32 → tM → Option ((Int32) × tM)
  | 0, _, _, _ => none
  | n + 1, x0, x3, σ => ltb (L_X12_format_293 b0 fu  n) (fun rc293 => if (16) ≤ (x3) then ckO b0 (σ) (x0) 11 (osm (tA (σ) (x0) 48) (fun a52 => ckR b0 (σ) (a52) 0 (fun n56 => ckI (0) (n56) (osm (tA (sI (σ) (a52) (((0 : Int32)).toNatClampNeg) (0)) (x0) 48) (fun a58 => ckR b0 (sI (σ) (a52) (((0 : Int32)).toNatClampNeg) (0)) (a58) 0 (fun n62 => ckI (1) (n62) (cll (m_X12_blocks b0 fu (x0) (sI (sI (sI (σ) (a52) (((0 : Int32)).toNatClampNeg) (0)) (a58) (((1 : Int32)).toNatClampNeg) (0)) (x0) 57 (0))) (fun v64 ρ65 => some (v64, ρ65))))))))) else ckO b0 (σ) (x0) 11 (osm (tA (σ) (x0) 58) (fun a69 => ckR b0 (σ) (a69) 0 (fun n73 => ckI (x3) (n73) (ltb ((x3) + Int32.ofInt 1) (fun y75 => rc293 (x0) (y75) (sI (σ) (a69) ((x3).toNatClampNeg) ((-1)))))))))
def L_X12_format_264 (b0 fu : Nat)  : Nat → Nat → Int32 → tM → Option ((Int32) × tM)
  | 0, _, _, _ => none
  | n + 1, x0, x3, σ => ltb (L_X12_format_264 b0 fu  n) (fun rc264 => if (2000) ≤ (x3) then L_X12_format_293 b0 fu  (fu) (x0) (0) (σ) else ckO b0 (σ) (x0) 11 (osm (tA (σ) (x0) 23) (fun a78 => ckR b0 (σ) (a78) 2 (fun n82 => ckI (x3) (n82) (osm (tA (sI (σ) (a78) ((x3).toNatClampNeg) (vp_nar .boolean ((0 : Int32)))) (x0) 24) (fun a84 => ckR b0 (sI (σ) (a78) ((x3).toNatClampNeg) (vp_nar .boolean ((0 : Int32)))) (a84) 0 (fun n88 => ckI (x3) (n88) (ltb ((x3) + Int32.ofInt 1) (fun y90 => rc264 (x0) (y90) (sI (sI (σ) (a78) ((x3).toNatClampNeg) (vp_nar .boolean ((0 : Int32)))) (a84) ((x3).toNatClampNeg) (0)))))))))))
def L_X12_format_240 (b0 fu : Nat)  : Nat → Nat → Int32 → tM → Option ((Int32) × tM)
  | 0, _, _, _ => none
  | n + 1, x0, x3, σ => ltb (L_X12_format_240 b0 fu  n) (fun rc240 => ckO b0 (σ) (x0) 11 (osm (tA (σ) (x0) 17) (fun a42 => ckR b0 (σ) (a42) 0 (fun n46 => if (nI n46) ≤ (x3) then L_X12_format_264 b0 fu  (fu) (x0) (0) (σ) else osm (tA (σ) (x0) 17) (fun a91 => ckR b0 (σ) (a91) 0 (fun n95 => ckI (x3) (n95) (ltb ((x3) + Int32.ofInt 1) (fun y97 => rc240 (x0) (y97) (sI (σ) (a91) ((x3).toNatClampNeg) (0))))))))))
def L_X12_format_132 (b0 fu : Nat)  : Nat → Nat → Int32 → tM → Option ((Int32) × tM)
  | 0, _, _, _ => none
  | n + 1, x0, x3, σ => ltb (L_X12_format_132 b0 fu  n) (fun rc132 => ckO b0 (σ) (x0) 11 (osm (tA (σ) (x0) 8) (fun a26 => ckR b0 (σ) (a26) 0 (fun n30 => if (nI n30) ≤ (x3) then ltb (sI (sI (sI (sI (sI (sI (sI (sI (sI (sI (sI (sI (sI (sI (sI (sI (σ) (x0) 15 (0)) (x0) 16 (0)) (x0) 18 (1)) (x0) 19 ((-1))) (x0) 20 (0)) (x0) 21 (0)) (x0) 35 (0)) (x0) 36 (0)) (x0) 45 (0)) (x0) 28 (0)) (x0) 29 (0)) (x0) 30 (0)) (x0) 31 (0)) (x0) 32 (0)) (x0) 33 (0)) (x0) 46 (0)) (fun ρ32 => cll (m_X12_emptyGroup b0 fu (x0) (ρ32)) (fun v37 ρ38 => L_X12_format_240 b0 fu  (fu) (x0) (0) (ρ38))) else osm (tA (σ) (x0) 8) (fun a98 => ckR b0 (σ) (a98) 0 (fun n102 => ckI (x3) (n102) (ltb ((x3) + Int32.ofInt 1) (fun y104 => rc132 (x0) (y104) (sI (σ) (a98) ((x3).toNatClampNeg) (0))))))))))
def L_X12_format_80 (b0 fu : Nat) (rc70 : Nat → Int32 → tM → Option ((Int32) × tM)) : Nat → Nat → Int32 → Int32 → tM → Option ((Int32) × tM)
  | 0, _, _, _, _ => none
  | n + 1, x0, x3, x4, σ => ltb (L_X12_format_80 b0 fu rc70 n) (fun rc80 => if (8) ≤ (x4) then ltb ((x3) + Int32.ofInt 1) (fun y106 => rc70 (x0) (y106) (σ)) else ckO b0 (σ) (x0) 11 (osm (tA (σ) (x0) 1) (fun a109 => cll (m_X12_room b0 fu (x3) ((34) + ((x4) * (30))) (σ)) (fun v111 ρ112 => ckR b0 (ρ112) (a109) 0 (fun n116 => ckI (v111) (n116) (ltb ((x4) + Int32.ofInt 1) (fun y118 => rc80 (x0) (x3) (y118) (sI (ρ112) (a109) ((v111).toNatClampNeg) (64)))))))))
def L_X12_format_70 (b0 fu : Nat)  : Nat → Nat → Int32 → tM → Option ((Int32) × tM)
  | 0, _, _, _ => none
  | n + 1, x0, x3, σ => ltb (L_X12_format_70 b0 fu  n) (fun rc70 => if (2000) ≤ (x3) then ckO b0 (σ) (x0) 11 (osm (tA (σ) (x0) 1) (fun a18 => ckR b0 (σ) (a18) 0 (fun n22 => ckI (0) (n22) (L_X12_format_132 b0 fu  (fu) (x0) (0) (sI (sI (σ) (a18) (((0 : Int32)).toNatClampNeg) (2)) (x0) 4 (0)))))) else L_X12_format_80 b0 fu rc70 (fu) (x0) (x3) (0) (σ))
def L_X12_format_46 (b0 fu : Nat)  : Nat → Nat → Int32 → tM → Option ((Int32) × tM)
  | 0, _, _, _ => none
  | n + 1, x0, x3, σ => ltb (L_X12_format_46 b0 fu  n) (fun rc46 => ckO b0 (σ) (x0) 11 (osm (tA (σ) (x0) 1) (fun a9 => ckR b0 (σ) (a9) 0 (fun n13 => if (nI n13) ≤ (x3) then L_X12_format_70 b0 fu  (fu) (x0) (0) (σ) else osm (tA (σ) (x0) 1) (fun a119 => ckR b0 (σ) (a119) 0 (fun n123 => ckI (x3) (n123) (ltb ((x3) + Int32.ofInt 1) (fun y125 => rc46 (x0) (y125) (sI (σ) (a119) ((x3).toNatClampNeg) (0))))))))))
def m_X12_format (b0 fu : Nat) (a0 : Nat) (p0 : Int32) (p1 : Int32) (σ : tM) : Option ((Int32) × tM) := grw σ (ckO b0 (σ) (a0) 11 (if (p0) < (40) then J_X12_format_31 b0 fu    (sI (σ) (a0) 0 (0)) else if (4096) < (p0) then J_X12_format_31 b0 fu    (sI (σ) (a0) 0 (0)) else if (p1) < (16) then J_X12_format_31 b0 fu    (sI (σ) (a0) 0 (0)) else if (p1) ≤ (2000) then L_X12_format_46 b0 fu  (fu) (a0) (0) (sI (sI (sI (σ) (a0) 0 (0)) (a0) 6 (p0)) (a0) 7 (p1)) else J_X12_format_31 b0 fu    (sI (σ) (a0) 0 (0))))
set_option maxRecDepth 100000 in
set_option maxHeartbeats 1000000 in
theorem j_X12_format_31 {p : Program} {l : Launch} {e : Env} {s : State} {m : MethodId} {args : Array Value} {below : List Frame} {meth : Method} {c : Code} {D : va_G} {aC : Nat → ClassId} {b0 fu : Nat} {σ0 τ : tM} {v : Int32}  (C : tCx p l s m args meth c yX12_format.cls cX12_format 5 (some .int) D aC b0 σ0) (htab : ∀ x ∈ c.exceptionTable.toList, False) (hin : meth.name = yX12_format.name)   {σ : tM} (hm : J_X12_format_31 b0 fu   σ = some (v, τ)) : tX p l e s m args below meth c 5 1 21 D aC b0 σ0 (.inl (some (.int v))) τ 31 [] [] σ := by
  unfold J_X12_format_31 at hm
  refine zx_bipush (v := (-9)) C dX12_format_31 (by decide) ?_
  obtain ⟨rfl, rfl⟩ := ret_e hm
  exact zx_iret C rfl rfl rfl dX12_format_33
set_option maxRecDepth 100000 in
set_option maxHeartbeats 1000000 in
theorem l_X12_format_293 {p : Program} {l : Launch} {e : Env} {s : State} {m : MethodId} {args : Array Value} {below : List Frame} {meth : Method} {c : Code} {D : va_G} {aC : Nat → ClassId} {b0 fu : Nat} {σ0 τ : tM} {v : Int32}  (C : tCx p l s m args meth c yX12_format.cls cX12_format 5 (some .int) D aC b0 σ0) (htab : ∀ x ∈ c.exceptionTable.toList, False) (hin : meth.name = yX12_format.name)  : ∀ (n : Nat) (x0 : Nat) (x3 : Int32) (σ : tM), L_X12_format_293 b0 fu  n x0 x3 σ = some (v, τ) → tX p l e s m args below meth c 5 1 21 D aC b0 σ0 (.inl (some (.int v))) τ 293 [(0, .ref (x0)), (3, .int (x3))] [] σ := by
  intro n
  induction n with
  | zero => intro x0 x3 σ hm; unfold L_X12_format_293 at hm; cases hm
  | succ n ih =>
    intro x0 x3 σ hm
    unfold L_X12_format_293 at hm
    obtain ⟨rc293, hrc⟩ : ∃ z, z = L_X12_format_293 b0 fu  n := ⟨_, rfl⟩
    replace hm := ltb_e hm hrc
    rw [← hrc] at ih
    have hrc293 := ih
    clear ih hrc
    refine zx_iload_n C dX12_format_293 1 rfl ?_
    refine zx_bipush (v := 16) C dX12_format_294 (by decide) ?_
    refine zx_icmp_ge C 312 dX12_format_296 (by decide) (fun c49 => ?_) (fun c49 => ?_)
    · replace hm := ip_e hm c49
      refine zx_aload_n C dX12_format_312 0 rfl ?_
      obtain ⟨k50, i51, hm⟩ := ckO_e hm
      obtain ⟨a52, h53, hm⟩ := osm_e hm
      refine zx_get (j := 48) C tC_11 k50 i51 ⟨by decide, Or.inl W_7_27⟩ dX12_format_313 (.ref a52) (rf_s h53) ?_
      refine zx_iconst (v := 0) C dX12_format_316 (by decide) ?_
      refine zx_iconst (v := 0) C dX12_format_317 (by decide) ?_
      obtain ⟨n56, k54, i55, hm⟩ := ckR_e hm
      obtain ⟨h57, hm⟩ := ckI_e hm
      refine zx_iast C k54 i55 h57 dX12_format_318 ?_
      refine zx_aload_n C dX12_format_319 0 rfl ?_
      obtain ⟨a58, h59, hm⟩ := osm_e hm
      refine zx_get (j := 48) C tC_11 k50 i51 ⟨by decide, Or.inl W_7_27⟩ dX12_format_320 (.ref a58) (rf_s h59) ?_
      refine zx_iconst (v := 1) C dX12_format_323 (by decide) ?_
      refine zx_iconst (v := 0) C dX12_format_324 (by decide) ?_
      obtain ⟨n62, k60, i61, hm⟩ := ckR_e hm
      obtain ⟨h63, hm⟩ := ckI_e hm
      refine zx_iast C k60 i61 h63 dX12_format_325 ?_
      refine zx_aload_n C dX12_format_326 0 rfl ?_
      refine zx_iconst (v := 0) C dX12_format_327 (by decide) ?_
      refine zx_put (j := 57) (ρ := sI (sI (sI (σ) (a52) (((0 : Int32)).toNatClampNeg) (0)) (a58) (((1 : Int32)).toNatClampNeg) (0)) (x0) 57 (0)) C tC_11 k50 i51 ⟨by decide, Or.inl W_7_36⟩ rfl rfl rfl (sI_ok (fun _ => rfl)) dX12_format_328 ?_
      refine zx_aload_n C dX12_format_331 0 rfl ?_
      obtain ⟨v64, ρ65, h66, hm⟩ := cll_e hm
      refine zx_callV (σ := sI (sI (sI (σ) (a52) (((0 : Int32)).toNatClampNeg) (0)) (a58) (((1 : Int32)).toNatClampNeg) (0)) (x0) 57 (0)) C [] tC_11 k50 i51 Y_X12_blocks W_6_216 W_6_218 Wp_55 (c_X12_blocks h66) (by decide) (by decide) rfl (Nat.le_of_ble_eq_true rfl) dX12_format_332 rfl ?_
      obtain ⟨rfl, rfl⟩ := ret_e hm
      exact zx_iret C rfl rfl rfl dX12_format_335
    · replace hm := in_e hm c49
      refine zx_aload_n C dX12_format_299 0 rfl ?_
      obtain ⟨k67, i68, hm⟩ := ckO_e hm
      obtain ⟨a69, h70, hm⟩ := osm_e hm
      refine zx_get (j := 58) C tC_11 k67 i68 ⟨by decide, Or.inl W_7_37⟩ dX12_format_300 (.ref a69) (rf_s h70) ?_
      refine zx_iload_n C dX12_format_303 1 rfl ?_
      refine zx_iconst (v := (-1)) C dX12_format_304 (by decide) ?_
      obtain ⟨n73, k71, i72, hm⟩ := ckR_e hm
      obtain ⟨h74, hm⟩ := ckI_e hm
      refine zx_iast C k71 i72 h74 dX12_format_305 ?_
      obtain ⟨y75, hy75⟩ : ∃ z : Int32, z = (x3) + Int32.ofInt 1 := ⟨_, rfl⟩
      replace hm := ltb_e hm hy75
      refine zx_iinc C [(3, .int (y75)), (0, .ref (x0))] dX12_format_306 1 rfl hy75.symm (by decide) rfl ?_
      refine zx_goto C 293 dX12_format_309 (by decide) ?_
      exact zx_lv [1, 0] [(0, .ref (x0)), (3, .int (y75))] rfl (hrc293 _ _ _ hm)
set_option maxRecDepth 100000 in
set_option maxHeartbeats 1000000 in
theorem l_X12_format_264 {p : Program} {l : Launch} {e : Env} {s : State} {m : MethodId} {args : Array Value} {below : List Frame} {meth : Method} {c : Code} {D : va_G} {aC : Nat → ClassId} {b0 fu : Nat} {σ0 τ : tM} {v : Int32}  (C : tCx p l s m args meth c yX12_format.cls cX12_format 5 (some .int) D aC b0 σ0) (htab : ∀ x ∈ c.exceptionTable.toList, False) (hin : meth.name = yX12_format.name)  : ∀ (n : Nat) (x0 : Nat) (x3 : Int32) (σ : tM), L_X12_format_264 b0 fu  n x0 x3 σ = some (v, τ) → tX p l e s m args below meth c 5 1 21 D aC b0 σ0 (.inl (some (.int v))) τ 264 [(0, .ref (x0)), (3, .int (x3))] [] σ := by
  intro n
  induction n with
  | zero => intro x0 x3 σ hm; unfold L_X12_format_264 at hm; cases hm
  | succ n ih =>
    intro x0 x3 σ hm
    unfold L_X12_format_264 at hm
    obtain ⟨rc264, hrc⟩ : ∃ z, z = L_X12_format_264 b0 fu  n := ⟨_, rfl⟩
    replace hm := ltb_e hm hrc
    rw [← hrc] at ih
    have hrc264 := ih
    clear ih hrc
    refine zx_iload_n C dX12_format_264 1 rfl ?_
    refine zx_sipush (v := 2000) C dX12_format_265 (by decide) ?_
    refine zx_icmp_ge C 291 dX12_format_268 (by decide) (fun c48 => ?_) (fun c48 => ?_)
    · replace hm := ip_e hm c48
      refine zx_iconst (v := 0) C dX12_format_291 (by decide) ?_
      refine zx_istore_n C [(3, .int (0)), (0, .ref (x0))] dX12_format_292 rfl (by decide) rfl ?_
      exact zx_lv [1, 0] [(0, .ref (x0)), (3, .int (0))] rfl (l_X12_format_293 C htab hin  _ _ _ _ hm)
    · replace hm := in_e hm c48
      refine zx_aload_n C dX12_format_271 0 rfl ?_
      obtain ⟨k76, i77, hm⟩ := ckO_e hm
      obtain ⟨a78, h79, hm⟩ := osm_e hm
      refine zx_get (j := 23) C tC_11 k76 i77 ⟨by decide, Or.inl W_7_2⟩ dX12_format_272 (.ref a78) (rf_s h79) ?_
      refine zx_iload_n C dX12_format_275 1 rfl ?_
      refine zx_iconst (v := 0) C dX12_format_276 (by decide) ?_
      obtain ⟨n82, k80, i81, hm⟩ := ckR_e hm
      obtain ⟨h83, hm⟩ := ckI_e hm
      refine zx_zast C k80 i81 h83 dX12_format_277 ?_
      refine zx_aload_n C dX12_format_278 0 rfl ?_
      obtain ⟨a84, h85, hm⟩ := osm_e hm
      refine zx_get (j := 24) C tC_11 k76 i77 ⟨by decide, Or.inl W_7_3⟩ dX12_format_279 (.ref a84) (rf_s h85) ?_
      refine zx_iload_n C dX12_format_282 1 rfl ?_
      refine zx_iconst (v := 0) C dX12_format_283 (by decide) ?_
      obtain ⟨n88, k86, i87, hm⟩ := ckR_e hm
      obtain ⟨h89, hm⟩ := ckI_e hm
      refine zx_iast C k86 i87 h89 dX12_format_284 ?_
      obtain ⟨y90, hy90⟩ : ∃ z : Int32, z = (x3) + Int32.ofInt 1 := ⟨_, rfl⟩
      replace hm := ltb_e hm hy90
      refine zx_iinc C [(3, .int (y90)), (0, .ref (x0))] dX12_format_285 1 rfl hy90.symm (by decide) rfl ?_
      refine zx_goto C 264 dX12_format_288 (by decide) ?_
      exact zx_lv [1, 0] [(0, .ref (x0)), (3, .int (y90))] rfl (hrc264 _ _ _ hm)
set_option maxRecDepth 100000 in
set_option maxHeartbeats 1000000 in
theorem l_X12_format_240 {p : Program} {l : Launch} {e : Env} {s : State} {m : MethodId} {args : Array Value} {below : List Frame} {meth : Method} {c : Code} {D : va_G} {aC : Nat → ClassId} {b0 fu : Nat} {σ0 τ : tM} {v : Int32}  (C : tCx p l s m args meth c yX12_format.cls cX12_format 5 (some .int) D aC b0 σ0) (htab : ∀ x ∈ c.exceptionTable.toList, False) (hin : meth.name = yX12_format.name)  : ∀ (n : Nat) (x0 : Nat) (x3 : Int32) (σ : tM), L_X12_format_240 b0 fu  n x0 x3 σ = some (v, τ) → tX p l e s m args below meth c 5 1 21 D aC b0 σ0 (.inl (some (.int v))) τ 240 [(0, .ref (x0)), (3, .int (x3))] [] σ := by
  intro n
  induction n with
  | zero => intro x0 x3 σ hm; unfold L_X12_format_240 at hm; cases hm
  | succ n ih =>
    intro x0 x3 σ hm
    unfold L_X12_format_240 at hm
    obtain ⟨rc240, hrc⟩ : ∃ z, z = L_X12_format_240 b0 fu  n := ⟨_, rfl⟩
    replace hm := ltb_e hm hrc
    rw [← hrc] at ih
    have hrc240 := ih
    clear ih hrc
    refine zx_iload_n C dX12_format_240 1 rfl ?_
    refine zx_aload_n C dX12_format_241 0 rfl ?_
    obtain ⟨k40, i41, hm⟩ := ckO_e hm
    obtain ⟨a42, h43, hm⟩ := osm_e hm
    refine zx_get (j := 17) C tC_11 k40 i41 ⟨by decide, Or.inl W_6_236⟩ dX12_format_242 (.ref a42) (rf_s h43) ?_
    obtain ⟨n46, k44, i45, hm⟩ := ckR_e hm
    refine zx_alen C k44 (by decide) i45 dX12_format_245 ?_
    refine zx_icmp_ge C 262 dX12_format_246 (by decide) (fun c47 => ?_) (fun c47 => ?_)
    · replace hm := ip_e hm c47
      refine zx_iconst (v := 0) C dX12_format_262 (by decide) ?_
      refine zx_istore_n C [(3, .int (0)), (0, .ref (x0))] dX12_format_263 rfl (by decide) rfl ?_
      exact zx_lv [1, 0] [(0, .ref (x0)), (3, .int (0))] rfl (l_X12_format_264 C htab hin  _ _ _ _ hm)
    · replace hm := in_e hm c47
      refine zx_aload_n C dX12_format_249 0 rfl ?_
      obtain ⟨a91, h92, hm⟩ := osm_e hm
      refine zx_get (j := 17) C tC_11 k40 i41 ⟨by decide, Or.inl W_6_236⟩ dX12_format_250 (.ref a91) (rf_s h92) ?_
      refine zx_iload_n C dX12_format_253 1 rfl ?_
      refine zx_iconst (v := 0) C dX12_format_254 (by decide) ?_
      obtain ⟨n95, k93, i94, hm⟩ := ckR_e hm
      obtain ⟨h96, hm⟩ := ckI_e hm
      refine zx_iast C k93 i94 h96 dX12_format_255 ?_
      obtain ⟨y97, hy97⟩ : ∃ z : Int32, z = (x3) + Int32.ofInt 1 := ⟨_, rfl⟩
      replace hm := ltb_e hm hy97
      refine zx_iinc C [(3, .int (y97)), (0, .ref (x0))] dX12_format_256 1 rfl hy97.symm (by decide) rfl ?_
      refine zx_goto C 240 dX12_format_259 (by decide) ?_
      exact zx_lv [1, 0] [(0, .ref (x0)), (3, .int (y97))] rfl (hrc240 _ _ _ hm)
set_option maxRecDepth 100000 in
set_option maxHeartbeats 1000000 in
theorem l_X12_format_132 {p : Program} {l : Launch} {e : Env} {s : State} {m : MethodId} {args : Array Value} {below : List Frame} {meth : Method} {c : Code} {D : va_G} {aC : Nat → ClassId} {b0 fu : Nat} {σ0 τ : tM} {v : Int32}  (C : tCx p l s m args meth c yX12_format.cls cX12_format 5 (some .int) D aC b0 σ0) (htab : ∀ x ∈ c.exceptionTable.toList, False) (hin : meth.name = yX12_format.name)  : ∀ (n : Nat) (x0 : Nat) (x3 : Int32) (σ : tM), L_X12_format_132 b0 fu  n x0 x3 σ = some (v, τ) → tX p l e s m args below meth c 5 1 21 D aC b0 σ0 (.inl (some (.int v))) τ 132 [(0, .ref (x0)), (3, .int (x3))] [] σ := by
  intro n
  induction n with
  | zero => intro x0 x3 σ hm; unfold L_X12_format_132 at hm; cases hm
  | succ n ih =>
    intro x0 x3 σ hm
    unfold L_X12_format_132 at hm
    obtain ⟨rc132, hrc⟩ : ∃ z, z = L_X12_format_132 b0 fu  n := ⟨_, rfl⟩
    replace hm := ltb_e hm hrc
    rw [← hrc] at ih
    have hrc132 := ih
    clear ih hrc
    refine zx_iload_n C dX12_format_132 1 rfl ?_
    refine zx_aload_n C dX12_format_133 0 rfl ?_
    obtain ⟨k24, i25, hm⟩ := ckO_e hm
    obtain ⟨a26, h27, hm⟩ := osm_e hm
    refine zx_get (j := 8) C tC_11 k24 i25 ⟨by decide, Or.inl W_6_227⟩ dX12_format_134 (.ref a26) (rf_s h27) ?_
    obtain ⟨n30, k28, i29, hm⟩ := ckR_e hm
    refine zx_alen C k28 (by decide) i29 dX12_format_137 ?_
    refine zx_icmp_ge C 154 dX12_format_138 (by decide) (fun c31 => ?_) (fun c31 => ?_)
    · replace hm := ip_e hm c31
      refine zx_aload_n C dX12_format_154 0 rfl ?_
      refine zx_iconst (v := 0) C dX12_format_155 (by decide) ?_
      refine zx_put (j := 15) (ρ := sI (σ) (x0) 15 (0)) C tC_11 k24 i25 ⟨by decide, Or.inl W_6_234⟩ rfl rfl rfl (sI_ok (fun _ => rfl)) dX12_format_156 ?_
      refine zx_aload_n C dX12_format_159 0 rfl ?_
      refine zx_iconst (v := 0) C dX12_format_160 (by decide) ?_
      refine zx_put (j := 16) (ρ := sI (sI (σ) (x0) 15 (0)) (x0) 16 (0)) C tC_11 k24 i25 ⟨by decide, Or.inl W_6_235⟩ rfl rfl rfl (sI_ok (fun _ => rfl)) dX12_format_161 ?_
      refine zx_aload_n C dX12_format_164 0 rfl ?_
      refine zx_iconst (v := 1) C dX12_format_165 (by decide) ?_
      refine zx_put (j := 18) (ρ := sI (sI (sI (σ) (x0) 15 (0)) (x0) 16 (0)) (x0) 18 (1)) C tC_11 k24 i25 ⟨by decide, Or.inl W_6_237⟩ rfl rfl rfl (sI_ok (fun _ => rfl)) dX12_format_166 ?_
      refine zx_aload_n C dX12_format_169 0 rfl ?_
      refine zx_iconst (v := (-1)) C dX12_format_170 (by decide) ?_
      refine zx_put (j := 19) (ρ := sI (sI (sI (sI (σ) (x0) 15 (0)) (x0) 16 (0)) (x0) 18 (1)) (x0) 19 ((-1))) C tC_11 k24 i25 ⟨by decide, Or.inl W_6_238⟩ rfl rfl rfl (sI_ok (fun _ => rfl)) dX12_format_171 ?_
      refine zx_aload_n C dX12_format_174 0 rfl ?_
      refine zx_iconst (v := 0) C dX12_format_175 (by decide) ?_
      refine zx_put (j := 20) (ρ := sI (sI (sI (sI (sI (σ) (x0) 15 (0)) (x0) 16 (0)) (x0) 18 (1)) (x0) 19 ((-1))) (x0) 20 (0)) C tC_11 k24 i25 ⟨by decide, Or.inl W_6_239⟩ rfl rfl rfl (sI_ok (fun _ => rfl)) dX12_format_176 ?_
      refine zx_aload_n C dX12_format_179 0 rfl ?_
      refine zx_iconst (v := 0) C dX12_format_180 (by decide) ?_
      refine zx_put (j := 21) (ρ := sI (sI (sI (sI (sI (sI (σ) (x0) 15 (0)) (x0) 16 (0)) (x0) 18 (1)) (x0) 19 ((-1))) (x0) 20 (0)) (x0) 21 (0)) C tC_11 k24 i25 ⟨by decide, Or.inl W_7_0⟩ rfl rfl rfl (sI_ok (fun _ => rfl)) dX12_format_181 ?_
      refine zx_aload_n C dX12_format_184 0 rfl ?_
      refine zx_iconst (v := 0) C dX12_format_185 (by decide) ?_
      refine zx_put (j := 35) (ρ := sI (sI (sI (sI (sI (sI (sI (σ) (x0) 15 (0)) (x0) 16 (0)) (x0) 18 (1)) (x0) 19 ((-1))) (x0) 20 (0)) (x0) 21 (0)) (x0) 35 (0)) C tC_11 k24 i25 ⟨by decide, Or.inl W_7_14⟩ rfl rfl rfl (sI_ok (fun _ => rfl)) dX12_format_186 ?_
      refine zx_aload_n C dX12_format_189 0 rfl ?_
      refine zx_iconst (v := 0) C dX12_format_190 (by decide) ?_
      refine zx_put (j := 36) (ρ := sI (sI (sI (sI (sI (sI (sI (sI (σ) (x0) 15 (0)) (x0) 16 (0)) (x0) 18 (1)) (x0) 19 ((-1))) (x0) 20 (0)) (x0) 21 (0)) (x0) 35 (0)) (x0) 36 (0)) C tC_11 k24 i25 ⟨by decide, Or.inl W_7_15⟩ rfl rfl rfl (sI_ok (fun _ => rfl)) dX12_format_191 ?_
      refine zx_aload_n C dX12_format_194 0 rfl ?_
      refine zx_iconst (v := 0) C dX12_format_195 (by decide) ?_
      refine zx_put (j := 45) (ρ := sI (sI (sI (sI (sI (sI (sI (sI (sI (σ) (x0) 15 (0)) (x0) 16 (0)) (x0) 18 (1)) (x0) 19 ((-1))) (x0) 20 (0)) (x0) 21 (0)) (x0) 35 (0)) (x0) 36 (0)) (x0) 45 (0)) C tC_11 k24 i25 ⟨by decide, Or.inl W_7_24⟩ rfl rfl rfl (sI_ok (fun _ => rfl)) dX12_format_196 ?_
      refine zx_aload_n C dX12_format_199 0 rfl ?_
      refine zx_iconst (v := 0) C dX12_format_200 (by decide) ?_
      refine zx_put (j := 28) (ρ := sI (sI (sI (sI (sI (sI (sI (sI (sI (sI (σ) (x0) 15 (0)) (x0) 16 (0)) (x0) 18 (1)) (x0) 19 ((-1))) (x0) 20 (0)) (x0) 21 (0)) (x0) 35 (0)) (x0) 36 (0)) (x0) 45 (0)) (x0) 28 (0)) C tC_11 k24 i25 ⟨by decide, Or.inl W_7_7⟩ rfl rfl rfl (sI_ok (fun _ => rfl)) dX12_format_201 ?_
      refine zx_aload_n C dX12_format_204 0 rfl ?_
      refine zx_iconst (v := 0) C dX12_format_205 (by decide) ?_
      refine zx_put (j := 29) (ρ := sI (sI (sI (sI (sI (sI (sI (sI (sI (sI (sI (σ) (x0) 15 (0)) (x0) 16 (0)) (x0) 18 (1)) (x0) 19 ((-1))) (x0) 20 (0)) (x0) 21 (0)) (x0) 35 (0)) (x0) 36 (0)) (x0) 45 (0)) (x0) 28 (0)) (x0) 29 (0)) C tC_11 k24 i25 ⟨by decide, Or.inl W_7_8⟩ rfl rfl rfl (sI_ok (fun _ => rfl)) dX12_format_206 ?_
      refine zx_aload_n C dX12_format_209 0 rfl ?_
      refine zx_iconst (v := 0) C dX12_format_210 (by decide) ?_
      refine zx_put (j := 30) (ρ := sI (sI (sI (sI (sI (sI (sI (sI (sI (sI (sI (sI (σ) (x0) 15 (0)) (x0) 16 (0)) (x0) 18 (1)) (x0) 19 ((-1))) (x0) 20 (0)) (x0) 21 (0)) (x0) 35 (0)) (x0) 36 (0)) (x0) 45 (0)) (x0) 28 (0)) (x0) 29 (0)) (x0) 30 (0)) C tC_11 k24 i25 ⟨by decide, Or.inl W_7_9⟩ rfl rfl rfl (sI_ok (fun _ => rfl)) dX12_format_211 ?_
      refine zx_aload_n C dX12_format_214 0 rfl ?_
      refine zx_iconst (v := 0) C dX12_format_215 (by decide) ?_
      refine zx_put (j := 31) (ρ := sI (sI (sI (sI (sI (sI (sI (sI (sI (sI (sI (sI (sI (σ) (x0) 15 (0)) (x0) 16 (0)) (x0) 18 (1)) (x0) 19 ((-1))) (x0) 20 (0)) (x0) 21 (0)) (x0) 35 (0)) (x0) 36 (0)) (x0) 45 (0)) (x0) 28 (0)) (x0) 29 (0)) (x0) 30 (0)) (x0) 31 (0)) C tC_11 k24 i25 ⟨by decide, Or.inl W_7_10⟩ rfl rfl rfl (sI_ok (fun _ => rfl)) dX12_format_216 ?_
      refine zx_aload_n C dX12_format_219 0 rfl ?_
      refine zx_iconst (v := 0) C dX12_format_220 (by decide) ?_
      refine zx_put (j := 32) (ρ := sI (sI (sI (sI (sI (sI (sI (sI (sI (sI (sI (sI (sI (sI (σ) (x0) 15 (0)) (x0) 16 (0)) (x0) 18 (1)) (x0) 19 ((-1))) (x0) 20 (0)) (x0) 21 (0)) (x0) 35 (0)) (x0) 36 (0)) (x0) 45 (0)) (x0) 28 (0)) (x0) 29 (0)) (x0) 30 (0)) (x0) 31 (0)) (x0) 32 (0)) C tC_11 k24 i25 ⟨by decide, Or.inl W_7_11⟩ rfl rfl rfl (sI_ok (fun _ => rfl)) dX12_format_221 ?_
      refine zx_aload_n C dX12_format_224 0 rfl ?_
      refine zx_iconst (v := 0) C dX12_format_225 (by decide) ?_
      refine zx_put (j := 33) (ρ := sI (sI (sI (sI (sI (sI (sI (sI (sI (sI (sI (sI (sI (sI (sI (σ) (x0) 15 (0)) (x0) 16 (0)) (x0) 18 (1)) (x0) 19 ((-1))) (x0) 20 (0)) (x0) 21 (0)) (x0) 35 (0)) (x0) 36 (0)) (x0) 45 (0)) (x0) 28 (0)) (x0) 29 (0)) (x0) 30 (0)) (x0) 31 (0)) (x0) 32 (0)) (x0) 33 (0)) C tC_11 k24 i25 ⟨by decide, Or.inl W_7_12⟩ rfl rfl rfl (sI_ok (fun _ => rfl)) dX12_format_226 ?_
      refine zx_aload_n C dX12_format_229 0 rfl ?_
      refine zx_iconst (v := 0) C dX12_format_230 (by decide) ?_
      refine zx_put (j := 46) (ρ := sI (sI (sI (sI (sI (sI (sI (sI (sI (sI (sI (sI (sI (sI (sI (sI (σ) (x0) 15 (0)) (x0) 16 (0)) (x0) 18 (1)) (x0) 19 ((-1))) (x0) 20 (0)) (x0) 21 (0)) (x0) 35 (0)) (x0) 36 (0)) (x0) 45 (0)) (x0) 28 (0)) (x0) 29 (0)) (x0) 30 (0)) (x0) 31 (0)) (x0) 32 (0)) (x0) 33 (0)) (x0) 46 (0)) C tC_11 k24 i25 ⟨by decide, Or.inl W_7_25⟩ rfl rfl rfl (sI_ok (fun _ => rfl)) dX12_format_231 ?_
      refine zx_mem (fun ρ32 hρ32 => ?_)
      replace hm := ltb_e hm hρ32
      have k33 : tk ρ32 (x0) = .inl 11 := by rw [hρ32]; exact k24
      have i34 : tIn b0 ρ32 (x0) := by rw [hρ32]; exact i25
      have k35 : tk ρ32 (a26) = .inr (0, n30) := by rw [hρ32]; exact k28
      have i36 : tIn b0 ρ32 (a26) := by rw [hρ32]; exact i29
      refine zx_aload_n C dX12_format_234 0 rfl ?_
      obtain ⟨v37, ρ38, h39, hm⟩ := cll_e hm
      refine zx_callV (σ := ρ32) C [] tC_11 k33 i34 Y_X12_emptyGroup W_6_212 W_6_214 Wp_54 (c_X12_emptyGroup h39) (by decide) (by decide) rfl (Nat.le_of_ble_eq_true rfl) dX12_format_235 rfl ?_
      refine zx_iconst (v := 0) C dX12_format_238 (by decide) ?_
      refine zx_istore_n C [(3, .int (0)), (0, .ref (x0))] dX12_format_239 rfl (by decide) rfl ?_
      exact zx_lv [1, 0] [(0, .ref (x0)), (3, .int (0))] rfl (l_X12_format_240 C htab hin  _ _ _ _ hm)
    · replace hm := in_e hm c31
      refine zx_aload_n C dX12_format_141 0 rfl ?_
      obtain ⟨a98, h99, hm⟩ := osm_e hm
      refine zx_get (j := 8) C tC_11 k24 i25 ⟨by decide, Or.inl W_6_227⟩ dX12_format_142 (.ref a98) (rf_s h99) ?_
      refine zx_iload_n C dX12_format_145 1 rfl ?_
      refine zx_iconst (v := 0) C dX12_format_146 (by decide) ?_
      obtain ⟨n102, k100, i101, hm⟩ := ckR_e hm
      obtain ⟨h103, hm⟩ := ckI_e hm
      refine zx_iast C k100 i101 h103 dX12_format_147 ?_
      obtain ⟨y104, hy104⟩ : ∃ z : Int32, z = (x3) + Int32.ofInt 1 := ⟨_, rfl⟩
      replace hm := ltb_e hm hy104
      refine zx_iinc C [(3, .int (y104)), (0, .ref (x0))] dX12_format_148 1 rfl hy104.symm (by decide) rfl ?_
      refine zx_goto C 132 dX12_format_151 (by decide) ?_
      exact zx_lv [1, 0] [(0, .ref (x0)), (3, .int (y104))] rfl (hrc132 _ _ _ hm)
set_option maxRecDepth 100000 in
set_option maxHeartbeats 1000000 in
theorem l_X12_format_80 {p : Program} {l : Launch} {e : Env} {s : State} {m : MethodId} {args : Array Value} {below : List Frame} {meth : Method} {c : Code} {D : va_G} {aC : Nat → ClassId} {b0 fu : Nat} {σ0 τ : tM} {v : Int32} {rc70 : Nat → Int32 → tM → Option ((Int32) × tM)} (C : tCx p l s m args meth c yX12_format.cls cX12_format 5 (some .int) D aC b0 σ0) (htab : ∀ x ∈ c.exceptionTable.toList, False) (hin : meth.name = yX12_format.name) (hrc70 : ∀ (x0 : Nat) (x3 : Int32) (ρ : tM), rc70 x0 x3 ρ = some (v, τ) → tX p l e s m args below meth c 5 1 21 D aC b0 σ0 (.inl (some (.int v))) τ 70 [(0, .ref (x0)), (3, .int (x3))] [] ρ) : ∀ (n : Nat) (x0 : Nat) (x3 : Int32) (x4 : Int32) (σ : tM), L_X12_format_80 b0 fu rc70 n x0 x3 x4 σ = some (v, τ) → tX p l e s m args below meth c 5 1 21 D aC b0 σ0 (.inl (some (.int v))) τ 80 [(0, .ref (x0)), (3, .int (x3)), (4, .int (x4))] [] σ := by
  intro n
  induction n with
  | zero => intro x0 x3 x4 σ hm; unfold L_X12_format_80 at hm; cases hm
  | succ n ih =>
    intro x0 x3 x4 σ hm
    unfold L_X12_format_80 at hm
    obtain ⟨rc80, hrc⟩ : ∃ z, z = L_X12_format_80 b0 fu rc70 n := ⟨_, rfl⟩
    replace hm := ltb_e hm hrc
    rw [← hrc] at ih
    have hrc80 := ih
    clear ih hrc
    refine zx_iload C dX12_format_80 2 rfl ?_
    refine zx_bipush (v := 8) C dX12_format_82 (by decide) ?_
    refine zx_icmp_ge C 112 dX12_format_84 (by decide) (fun c105 => ?_) (fun c105 => ?_)
    · replace hm := ip_e hm c105
      obtain ⟨y106, hy106⟩ : ∃ z : Int32, z = (x3) + Int32.ofInt 1 := ⟨_, rfl⟩
      replace hm := ltb_e hm hy106
      refine zx_iinc C [(3, .int (y106)), (0, .ref (x0)), (4, .int (x4))] dX12_format_112 1 rfl hy106.symm (by decide) rfl ?_
      refine zx_goto C 70 dX12_format_115 (by decide) ?_
      exact zx_lv [1, 0] [(0, .ref (x0)), (3, .int (y106))] rfl (hrc70 _ _ _ hm)
    · replace hm := in_e hm c105
      refine zx_aload_n C dX12_format_87 0 rfl ?_
      obtain ⟨k107, i108, hm⟩ := ckO_e hm
      obtain ⟨a109, h110, hm⟩ := osm_e hm
      refine zx_get (j := 1) C tC_11 k107 i108 ⟨by decide, Or.inl W_6_221⟩ dX12_format_88 (.ref a109) (rf_s h110) ?_
      refine zx_iload_n C dX12_format_91 1 rfl ?_
      refine zx_bipush (v := 34) C dX12_format_92 (by decide) ?_
      refine zx_iload C dX12_format_94 2 rfl ?_
      refine zx_bipush (v := 30) C dX12_format_96 (by decide) ?_
      refine zx_imul C dX12_format_98 ?_
      refine zx_iadd C dX12_format_99 ?_
      obtain ⟨v111, ρ112, h113, hm⟩ := cll_e hm
      refine zx_callS (σ := σ) C [.int (x3), .int ((34) + ((x4) * (30)))] Y_X12_room W_6_209 W_6_210 (c_X12_room h113) (by decide) (by decide) rfl (Nat.le_of_ble_eq_true rfl) dX12_format_100 rfl ?_
      refine zx_bipush (v := 64) C dX12_format_103 (by decide) ?_
      obtain ⟨n116, k114, i115, hm⟩ := ckR_e hm
      obtain ⟨h117, hm⟩ := ckI_e hm
      refine zx_iast C k114 i115 h117 dX12_format_105 ?_
      obtain ⟨y118, hy118⟩ : ∃ z : Int32, z = (x4) + Int32.ofInt 1 := ⟨_, rfl⟩
      replace hm := ltb_e hm hy118
      refine zx_iinc C [(4, .int (y118)), (0, .ref (x0)), (3, .int (x3))] dX12_format_106 2 rfl hy118.symm (by decide) rfl ?_
      refine zx_goto C 80 dX12_format_109 (by decide) ?_
      exact zx_lv [1, 2, 0] [(0, .ref (x0)), (3, .int (x3)), (4, .int (y118))] rfl (hrc80 _ _ _ _ hm)
set_option maxRecDepth 100000 in
set_option maxHeartbeats 1000000 in
theorem l_X12_format_70 {p : Program} {l : Launch} {e : Env} {s : State} {m : MethodId} {args : Array Value} {below : List Frame} {meth : Method} {c : Code} {D : va_G} {aC : Nat → ClassId} {b0 fu : Nat} {σ0 τ : tM} {v : Int32}  (C : tCx p l s m args meth c yX12_format.cls cX12_format 5 (some .int) D aC b0 σ0) (htab : ∀ x ∈ c.exceptionTable.toList, False) (hin : meth.name = yX12_format.name)  : ∀ (n : Nat) (x0 : Nat) (x3 : Int32) (σ : tM), L_X12_format_70 b0 fu  n x0 x3 σ = some (v, τ) → tX p l e s m args below meth c 5 1 21 D aC b0 σ0 (.inl (some (.int v))) τ 70 [(0, .ref (x0)), (3, .int (x3))] [] σ := by
  intro n
  induction n with
  | zero => intro x0 x3 σ hm; unfold L_X12_format_70 at hm; cases hm
  | succ n ih =>
    intro x0 x3 σ hm
    unfold L_X12_format_70 at hm
    obtain ⟨rc70, hrc⟩ : ∃ z, z = L_X12_format_70 b0 fu  n := ⟨_, rfl⟩
    replace hm := ltb_e hm hrc
    rw [← hrc] at ih
    have hrc70 := ih
    clear ih hrc
    refine zx_iload_n C dX12_format_70 1 rfl ?_
    refine zx_sipush (v := 2000) C dX12_format_71 (by decide) ?_
    refine zx_icmp_ge C 118 dX12_format_74 (by decide) (fun c15 => ?_) (fun c15 => ?_)
    · replace hm := ip_e hm c15
      refine zx_aload_n C dX12_format_118 0 rfl ?_
      obtain ⟨k16, i17, hm⟩ := ckO_e hm
      obtain ⟨a18, h19, hm⟩ := osm_e hm
      refine zx_get (j := 1) C tC_11 k16 i17 ⟨by decide, Or.inl W_6_221⟩ dX12_format_119 (.ref a18) (rf_s h19) ?_
      refine zx_iconst (v := 0) C dX12_format_122 (by decide) ?_
      refine zx_iconst (v := 2) C dX12_format_123 (by decide) ?_
      obtain ⟨n22, k20, i21, hm⟩ := ckR_e hm
      obtain ⟨h23, hm⟩ := ckI_e hm
      refine zx_iast C k20 i21 h23 dX12_format_124 ?_
      refine zx_aload_n C dX12_format_125 0 rfl ?_
      refine zx_iconst (v := 0) C dX12_format_126 (by decide) ?_
      refine zx_put (j := 4) (ρ := sI (sI (σ) (a18) (((0 : Int32)).toNatClampNeg) (2)) (x0) 4 (0)) C tC_11 k16 i17 ⟨by decide, Or.inl W_6_224⟩ rfl rfl rfl (sI_ok (fun _ => rfl)) dX12_format_127 ?_
      refine zx_iconst (v := 0) C dX12_format_130 (by decide) ?_
      refine zx_istore_n C [(3, .int (0)), (0, .ref (x0))] dX12_format_131 rfl (by decide) rfl ?_
      exact zx_lv [1, 0] [(0, .ref (x0)), (3, .int (0))] rfl (l_X12_format_132 C htab hin  _ _ _ _ hm)
    · replace hm := in_e hm c15
      refine zx_iconst (v := 0) C dX12_format_77 (by decide) ?_
      refine zx_istore C [(4, .int (0)), (0, .ref (x0)), (3, .int (x3))] dX12_format_78 (by decide) rfl ?_
      exact zx_lv [1, 2, 0] [(0, .ref (x0)), (3, .int (x3)), (4, .int (0))] rfl (l_X12_format_80 C htab hin hrc70 _ _ _ _ _ hm)
set_option maxRecDepth 100000 in
set_option maxHeartbeats 1000000 in
theorem l_X12_format_46 {p : Program} {l : Launch} {e : Env} {s : State} {m : MethodId} {args : Array Value} {below : List Frame} {meth : Method} {c : Code} {D : va_G} {aC : Nat → ClassId} {b0 fu : Nat} {σ0 τ : tM} {v : Int32}  (C : tCx p l s m args meth c yX12_format.cls cX12_format 5 (some .int) D aC b0 σ0) (htab : ∀ x ∈ c.exceptionTable.toList, False) (hin : meth.name = yX12_format.name)  : ∀ (n : Nat) (x0 : Nat) (x3 : Int32) (σ : tM), L_X12_format_46 b0 fu  n x0 x3 σ = some (v, τ) → tX p l e s m args below meth c 5 1 21 D aC b0 σ0 (.inl (some (.int v))) τ 46 [(0, .ref (x0)), (3, .int (x3))] [] σ := by
  intro n
  induction n with
  | zero => intro x0 x3 σ hm; unfold L_X12_format_46 at hm; cases hm
  | succ n ih =>
    intro x0 x3 σ hm
    unfold L_X12_format_46 at hm
    obtain ⟨rc46, hrc⟩ : ∃ z, z = L_X12_format_46 b0 fu  n := ⟨_, rfl⟩
    replace hm := ltb_e hm hrc
    rw [← hrc] at ih
    have hrc46 := ih
    clear ih hrc
    refine zx_iload_n C dX12_format_46 1 rfl ?_
    refine zx_aload_n C dX12_format_47 0 rfl ?_
    obtain ⟨k7, i8, hm⟩ := ckO_e hm
    obtain ⟨a9, h10, hm⟩ := osm_e hm
    refine zx_get (j := 1) C tC_11 k7 i8 ⟨by decide, Or.inl W_6_221⟩ dX12_format_48 (.ref a9) (rf_s h10) ?_
    obtain ⟨n13, k11, i12, hm⟩ := ckR_e hm
    refine zx_alen C k11 (by decide) i12 dX12_format_51 ?_
    refine zx_icmp_ge C 68 dX12_format_52 (by decide) (fun c14 => ?_) (fun c14 => ?_)
    · replace hm := ip_e hm c14
      refine zx_iconst (v := 0) C dX12_format_68 (by decide) ?_
      refine zx_istore_n C [(3, .int (0)), (0, .ref (x0))] dX12_format_69 rfl (by decide) rfl ?_
      exact zx_lv [1, 0] [(0, .ref (x0)), (3, .int (0))] rfl (l_X12_format_70 C htab hin  _ _ _ _ hm)
    · replace hm := in_e hm c14
      refine zx_aload_n C dX12_format_55 0 rfl ?_
      obtain ⟨a119, h120, hm⟩ := osm_e hm
      refine zx_get (j := 1) C tC_11 k7 i8 ⟨by decide, Or.inl W_6_221⟩ dX12_format_56 (.ref a119) (rf_s h120) ?_
      refine zx_iload_n C dX12_format_59 1 rfl ?_
      refine zx_iconst (v := 0) C dX12_format_60 (by decide) ?_
      obtain ⟨n123, k121, i122, hm⟩ := ckR_e hm
      obtain ⟨h124, hm⟩ := ckI_e hm
      refine zx_iast C k121 i122 h124 dX12_format_61 ?_
      obtain ⟨y125, hy125⟩ : ∃ z : Int32, z = (x3) + Int32.ofInt 1 := ⟨_, rfl⟩
      replace hm := ltb_e hm hy125
      refine zx_iinc C [(3, .int (y125)), (0, .ref (x0))] dX12_format_62 1 rfl hy125.symm (by decide) rfl ?_
      refine zx_goto C 46 dX12_format_65 (by decide) ?_
      exact zx_lv [1, 0] [(0, .ref (x0)), (3, .int (y125))] rfl (hrc46 _ _ _ hm)
set_option maxRecDepth 100000 in
set_option maxHeartbeats 1000000 in
theorem c_X12_format {l : Launch} {D : va_G} {aC : Nat → ClassId} {b0 fu : Nat} {a0 : Nat} {p0 : Int32} {p1 : Int32} {σ τ : tM} {v : Int32} (hm : m_X12_format b0 fu a0 p0 p1 σ = some (v, τ)) : tMt l D aC b0 yX12_format (Cond.code yX12_format cX12_format 5 (some .int)) 1 21 [.ref (a0), .int (p0), .int (p1)] σ (.inl (some (.int v))) τ := by
  unfold m_X12_format at hm
  obtain ⟨hg, hm⟩ := grw_e hm
  refine tMt_of (n := 0) rfl (Nat.le_of_ble_eq_true rfl) hg ?_
  intro p e s m below meth c C htab hin
  refine zx_lv [0, 1, 2] [(0, .ref (a0)), (1, .int (p0)), (2, .int (p1))] rfl ?_
  refine zx_aload_n C dX12_format_0 0 rfl ?_
  refine zx_iconst (v := 0) C dX12_format_1 (by decide) ?_
  obtain ⟨k1, i2, hm⟩ := ckO_e hm
  refine zx_put (j := 0) (ρ := sI (σ) (a0) 0 (0)) C tC_11 k1 i2 ⟨by decide, Or.inl W_6_220⟩ rfl rfl rfl (sI_ok (fun _ => rfl)) dX12_format_2 ?_
  refine zx_iload_n C dX12_format_5 1 rfl ?_
  refine zx_bipush (v := 40) C dX12_format_6 (by decide) ?_
  refine zx_icmp_lt C 31 dX12_format_8 (by decide) (fun c3 => ?_) (fun c3 => ?_)
  · replace hm := ip_e hm c3
    exact zx_lv [] [] rfl (j_X12_format_31 C htab hin    hm)
  · replace hm := in_e hm c3
    refine zx_iload_n C dX12_format_11 1 rfl ?_
    refine zx_sipush (v := 4096) C dX12_format_12 (by decide) ?_
    refine zx_icmp_gt C 31 dX12_format_15 (by decide) (fun c4 => ?_) (fun c4 => ?_)
    · replace hm := ip_e hm c4
      exact zx_lv [] [] rfl (j_X12_format_31 C htab hin    hm)
    · replace hm := in_e hm c4
      refine zx_iload_n C dX12_format_18 2 rfl ?_
      refine zx_bipush (v := 16) C dX12_format_19 (by decide) ?_
      refine zx_icmp_lt C 31 dX12_format_21 (by decide) (fun c5 => ?_) (fun c5 => ?_)
      · replace hm := ip_e hm c5
        exact zx_lv [] [] rfl (j_X12_format_31 C htab hin    hm)
      · replace hm := in_e hm c5
        refine zx_iload_n C dX12_format_24 2 rfl ?_
        refine zx_sipush (v := 2000) C dX12_format_25 (by decide) ?_
        refine zx_icmp_le C 34 dX12_format_28 (by decide) (fun c6 => ?_) (fun c6 => ?_)
        · replace hm := ip_e hm c6
          refine zx_aload_n C dX12_format_34 0 rfl ?_
          refine zx_iload_n C dX12_format_35 1 rfl ?_
          refine zx_put (j := 6) (ρ := sI (sI (σ) (a0) 0 (0)) (a0) 6 (p0)) C tC_11 k1 i2 ⟨by decide, Or.inl W_6_225⟩ rfl rfl rfl (sI_ok (fun _ => rfl)) dX12_format_36 ?_
          refine zx_aload_n C dX12_format_39 0 rfl ?_
          refine zx_iload_n C dX12_format_40 2 rfl ?_
          refine zx_put (j := 7) (ρ := sI (sI (sI (σ) (a0) 0 (0)) (a0) 6 (p0)) (a0) 7 (p1)) C tC_11 k1 i2 ⟨by decide, Or.inl W_6_226⟩ rfl rfl rfl (sI_ok (fun _ => rfl)) dX12_format_41 ?_
          refine zx_iconst (v := 0) C dX12_format_44 (by decide) ?_
          refine zx_istore_n C [(3, .int (0)), (0, .ref (a0)), (1, .int (p0)), (2, .int (p1))] dX12_format_45 rfl (by decide) rfl ?_
          exact zx_lv [1, 0] [(0, .ref (a0)), (3, .int (0))] rfl (l_X12_format_46 C htab hin  _ _ _ _ hm)
        · replace hm := in_e hm c6
          exact zx_lv [] [] rfl (j_X12_format_31 C htab hin    hm)
abbrev cX12_feed : ByteArray := prog_13_method_68_code
def yX12_feed : MethodName := ⟨"SyncTreeModel", "feed", "(IIIII)I"⟩
theorem Y_X12_feed : tY yX12_feed cX12_feed 8 (some .int) 5 := ⟨W_7_164, W_1_14, ⟨by decide +kernel, by decide +kernel⟩, by decide +kernel⟩
theorem dX12_feed_0 : decode cX12_feed 0 = .ok (.aload_n 0, 1) := by decide +kernel
theorem dX12_feed_1 : decode cX12_feed 1 = .ok (.iconst 0, 1) := by decide +kernel
theorem dX12_feed_2 : decode cX12_feed 2 = .ok (.putfield 3, 3) := by decide +kernel
theorem dX12_feed_5 : decode cX12_feed 5 = .ok (.aload_n 0, 1) := by decide +kernel
theorem dX12_feed_6 : decode cX12_feed 6 = .ok (.getfield 400, 3) := by decide +kernel
theorem dX12_feed_9 : decode cX12_feed 9 = .ok (.bipush 20, 2) := by decide +kernel
theorem dX12_feed_11 : decode cX12_feed 11 = .ok (.iadd, 1) := by decide +kernel
theorem dX12_feed_12 : decode cX12_feed 12 = .ok (.sipush 4000, 3) := by decide +kernel
theorem dX12_feed_15 : decode cX12_feed 15 = .ok (.if_icmp .le 6, 3) := by decide +kernel
theorem dX12_feed_18 : decode cX12_feed 18 = .ok (.bipush (-9), 2) := by decide +kernel
theorem dX12_feed_20 : decode cX12_feed 20 = .ok (.ireturn, 1) := by decide +kernel
theorem dX12_feed_21 : decode cX12_feed 21 = .ok (.iconst 0, 1) := by decide +kernel
theorem dX12_feed_22 : decode cX12_feed 22 = .ok (.istore 6, 2) := by decide +kernel
theorem dX12_feed_24 : decode cX12_feed 24 = .ok (.iload 6, 2) := by decide +kernel
theorem dX12_feed_26 : decode cX12_feed 26 = .ok (.bipush 20, 2) := by decide +kernel
theorem dX12_feed_28 : decode cX12_feed 28 = .ok (.if_icmp .ge 83, 3) := by decide +kernel
theorem dX12_feed_31 : decode cX12_feed 31 = .ok (.iload 6, 2) := by decide +kernel
theorem dX12_feed_33 : decode cX12_feed 33 = .ok (.iconst 4, 1) := by decide +kernel
theorem dX12_feed_34 : decode cX12_feed 34 = .ok (.if_icmp .ge 7, 3) := by decide +kernel
theorem dX12_feed_37 : decode cX12_feed 37 = .ok (.iload_n 1, 1) := by decide +kernel
theorem dX12_feed_38 : decode cX12_feed 38 = .ok (.goto 39, 3) := by decide +kernel
theorem dX12_feed_41 : decode cX12_feed 41 = .ok (.iload 6, 2) := by decide +kernel
theorem dX12_feed_43 : decode cX12_feed 43 = .ok (.bipush 8, 2) := by decide +kernel
theorem dX12_feed_45 : decode cX12_feed 45 = .ok (.if_icmp .ge 7, 3) := by decide +kernel
theorem dX12_feed_48 : decode cX12_feed 48 = .ok (.iload_n 2, 1) := by decide +kernel
theorem dX12_feed_49 : decode cX12_feed 49 = .ok (.goto 28, 3) := by decide +kernel
theorem dX12_feed_52 : decode cX12_feed 52 = .ok (.iload 6, 2) := by decide +kernel
theorem dX12_feed_54 : decode cX12_feed 54 = .ok (.bipush 12, 2) := by decide +kernel
theorem dX12_feed_56 : decode cX12_feed 56 = .ok (.if_icmp .ge 7, 3) := by decide +kernel
theorem dX12_feed_59 : decode cX12_feed 59 = .ok (.iload_n 3, 1) := by decide +kernel
theorem dX12_feed_60 : decode cX12_feed 60 = .ok (.goto 17, 3) := by decide +kernel
theorem dX12_feed_63 : decode cX12_feed 63 = .ok (.iload 6, 2) := by decide +kernel
theorem dX12_feed_65 : decode cX12_feed 65 = .ok (.bipush 16, 2) := by decide +kernel
theorem dX12_feed_67 : decode cX12_feed 67 = .ok (.if_icmp .ge 8, 3) := by decide +kernel
theorem dX12_feed_70 : decode cX12_feed 70 = .ok (.iload 4, 2) := by decide +kernel
theorem dX12_feed_72 : decode cX12_feed 72 = .ok (.goto 5, 3) := by decide +kernel
theorem dX12_feed_75 : decode cX12_feed 75 = .ok (.iload 5, 2) := by decide +kernel
theorem dX12_feed_77 : decode cX12_feed 77 = .ok (.istore 7, 2) := by decide +kernel
theorem dX12_feed_79 : decode cX12_feed 79 = .ok (.aload_n 0, 1) := by decide +kernel
theorem dX12_feed_80 : decode cX12_feed 80 = .ok (.getfield 391, 3) := by decide +kernel
theorem dX12_feed_83 : decode cX12_feed 83 = .ok (.aload_n 0, 1) := by decide +kernel
theorem dX12_feed_84 : decode cX12_feed 84 = .ok (.getfield 400, 3) := by decide +kernel
theorem dX12_feed_87 : decode cX12_feed 87 = .ok (.iload 6, 2) := by decide +kernel
theorem dX12_feed_89 : decode cX12_feed 89 = .ok (.iadd, 1) := by decide +kernel
theorem dX12_feed_90 : decode cX12_feed 90 = .ok (.iload 7, 2) := by decide +kernel
theorem dX12_feed_92 : decode cX12_feed 92 = .ok (.bipush 24, 2) := by decide +kernel
theorem dX12_feed_94 : decode cX12_feed 94 = .ok (.bipush 8, 2) := by decide +kernel
theorem dX12_feed_96 : decode cX12_feed 96 = .ok (.iload 6, 2) := by decide +kernel
theorem dX12_feed_98 : decode cX12_feed 98 = .ok (.iconst 4, 1) := by decide +kernel
theorem dX12_feed_99 : decode cX12_feed 99 = .ok (.irem, 1) := by decide +kernel
theorem dX12_feed_100 : decode cX12_feed 100 = .ok (.imul, 1) := by decide +kernel
theorem dX12_feed_101 : decode cX12_feed 101 = .ok (.isub, 1) := by decide +kernel
theorem dX12_feed_102 : decode cX12_feed 102 = .ok (.ishr, 1) := by decide +kernel
theorem dX12_feed_103 : decode cX12_feed 103 = .ok (.i2b, 1) := by decide +kernel
theorem dX12_feed_104 : decode cX12_feed 104 = .ok (.bastore, 1) := by decide +kernel
theorem dX12_feed_105 : decode cX12_feed 105 = .ok (.iinc 6 1, 3) := by decide +kernel
theorem dX12_feed_108 : decode cX12_feed 108 = .ok (.goto (-84), 3) := by decide +kernel
theorem dX12_feed_111 : decode cX12_feed 111 = .ok (.aload_n 0, 1) := by decide +kernel
theorem dX12_feed_112 : decode cX12_feed 112 = .ok (.dup, 1) := by decide +kernel
theorem dX12_feed_113 : decode cX12_feed 113 = .ok (.getfield 400, 3) := by decide +kernel
theorem dX12_feed_116 : decode cX12_feed 116 = .ok (.bipush 20, 2) := by decide +kernel
theorem dX12_feed_118 : decode cX12_feed 118 = .ok (.iadd, 1) := by decide +kernel
theorem dX12_feed_119 : decode cX12_feed 119 = .ok (.putfield 400, 3) := by decide +kernel
theorem dX12_feed_122 : decode cX12_feed 122 = .ok (.aload_n 0, 1) := by decide +kernel
theorem dX12_feed_123 : decode cX12_feed 123 = .ok (.getfield 400, 3) := by decide +kernel
theorem dX12_feed_126 : decode cX12_feed 126 = .ok (.ireturn, 1) := by decide +kernel
def J_X12_feed_77 (b0 fu : Nat) (rc24 : Nat → Int32 → Int32 → Int32 → Int32 → Int32 → Int32 → tM → Option ((Int32) × tM)) (x0 : Nat) (x1 : Int32) (x2 : Int32) (x3 : Int32) (x4 : Int32) (x5 : Int32) (x6 : Int32) (s0 : Int32) (σ : tM) : Option ((Int32) × tM) := ckO b0 (σ) (x0) 11 (osm (tA (σ) (x0) 56) (fun a13 => ckR b0 (σ) (a13) 1 (fun n17 => ckI ((tI (σ) (x0) 57) + (x6)) (n17) (ltb ((x6) + Int32.ofInt 1) (fun y19 => rc24 (x0) (x1) (x2) (x3) (x4) (x5) (y19) (sI (σ) (a13) (((tI (σ) (x0) 57) + (x6)).toNatClampNeg) (vp_nar .byte (((s0) >>> (((24) - ((8) * ((x6) - (x6) / (4) * (4)))) &&& 31)).toInt8.toInt32))))))))
def L_X12_feed_24 (b0 fu : Nat)  : Nat → Nat → Int32 → Int32 → Int32 → Int32 → Int32 → Int32 → tM → Option ((Int32) × tM)
  | 0, _, _, _, _, _, _, _, _ => none
  | n + 1, x0, x1, x2, x3, x4, x5, x6, σ => ltb (L_X12_feed_24 b0 fu  n) (fun rc24 => if (20) ≤ (x6) then ckO b0 (σ) (x0) 11 (some (tI (sI (σ) (x0) 57 ((tI (σ) (x0) 57) + (20))) (x0) 57, sI (σ) (x0) 57 ((tI (σ) (x0) 57) + (20)))) else if (4) ≤ (x6) then if (8) ≤ (x6) then if (12) ≤ (x6) then if (16) ≤ (x6) then J_X12_feed_77 b0 fu rc24  (x0) (x1) (x2) (x3) (x4) (x5) (x6) (x5) (σ) else J_X12_feed_77 b0 fu rc24  (x0) (x1) (x2) (x3) (x4) (x5) (x6) (x4) (σ) else J_X12_feed_77 b0 fu rc24  (x0) (x1) (x2) (x3) (x4) (x5) (x6) (x3) (σ) else J_X12_feed_77 b0 fu rc24  (x0) (x1) (x2) (x3) (x4) (x5) (x6) (x2) (σ) else J_X12_feed_77 b0 fu rc24  (x0) (x1) (x2) (x3) (x4) (x5) (x6) (x1) (σ))
def m_X12_feed (b0 fu : Nat) (a0 : Nat) (p0 : Int32) (p1 : Int32) (p2 : Int32) (p3 : Int32) (p4 : Int32) (σ : tM) : Option ((Int32) × tM) := grw σ (ckO b0 (σ) (a0) 11 (if ((tI (sI (σ) (a0) 0 (0)) (a0) 57) + (20)) ≤ (4000) then L_X12_feed_24 b0 fu  (fu) (a0) (p0) (p1) (p2) (p3) (p4) (0) (sI (σ) (a0) 0 (0)) else some ((-9), sI (σ) (a0) 0 (0))))
set_option maxRecDepth 100000 in
set_option maxHeartbeats 1000000 in
theorem j_X12_feed_77 {p : Program} {l : Launch} {e : Env} {s : State} {m : MethodId} {args : Array Value} {below : List Frame} {meth : Method} {c : Code} {D : va_G} {aC : Nat → ClassId} {b0 fu : Nat} {σ0 τ : tM} {v : Int32} {rc24 : Nat → Int32 → Int32 → Int32 → Int32 → Int32 → Int32 → tM → Option ((Int32) × tM)} (C : tCx p l s m args meth c yX12_feed.cls cX12_feed 8 (some .int) D aC b0 σ0) (htab : ∀ x ∈ c.exceptionTable.toList, False) (hin : meth.name = yX12_feed.name) (hrc24 : ∀ (x0 : Nat) (x1 : Int32) (x2 : Int32) (x3 : Int32) (x4 : Int32) (x5 : Int32) (x6 : Int32) (ρ : tM), rc24 x0 x1 x2 x3 x4 x5 x6 ρ = some (v, τ) → tX p l e s m args below meth c 8 0 0 D aC b0 σ0 (.inl (some (.int v))) τ 24 [(0, .ref (x0)), (1, .int (x1)), (2, .int (x2)), (3, .int (x3)), (4, .int (x4)), (5, .int (x5)), (6, .int (x6))] [] ρ) {x0 : Nat} {x1 : Int32} {x2 : Int32} {x3 : Int32} {x4 : Int32} {x5 : Int32} {x6 : Int32} {s0 : Int32} {σ : tM} (hm : J_X12_feed_77 b0 fu rc24 x0 x1 x2 x3 x4 x5 x6 s0 σ = some (v, τ)) : tX p l e s m args below meth c 8 0 0 D aC b0 σ0 (.inl (some (.int v))) τ 77 [(0, .ref (x0)), (1, .int (x1)), (2, .int (x2)), (3, .int (x3)), (4, .int (x4)), (5, .int (x5)), (6, .int (x6))] [.int (s0)] σ := by
  unfold J_X12_feed_77 at hm
  refine zx_istore C [(7, .int (s0)), (0, .ref (x0)), (1, .int (x1)), (2, .int (x2)), (3, .int (x3)), (4, .int (x4)), (5, .int (x5)), (6, .int (x6))] dX12_feed_77 (by decide) rfl ?_
  refine zx_aload_n C dX12_feed_79 1 rfl ?_
  obtain ⟨k11, i12, hm⟩ := ckO_e hm
  obtain ⟨a13, h14, hm⟩ := osm_e hm
  refine zx_get (j := 56) C tC_11 k11 i12 ⟨by decide, Or.inl W_7_35⟩ dX12_feed_80 (.ref a13) (rf_s h14) ?_
  refine zx_aload_n C dX12_feed_83 1 rfl ?_
  refine zx_get (j := 57) C tC_11 k11 i12 ⟨by decide, Or.inl W_7_36⟩ dX12_feed_84 (.int (tI (σ) (x0) 57)) rfl ?_
  refine zx_iload C dX12_feed_87 7 rfl ?_
  refine zx_iadd C dX12_feed_89 ?_
  refine zx_iload C dX12_feed_90 0 rfl ?_
  refine zx_bipush (v := 24) C dX12_feed_92 (by decide) ?_
  refine zx_bipush (v := 8) C dX12_feed_94 (by decide) ?_
  refine zx_iload C dX12_feed_96 7 rfl ?_
  refine zx_iconst (v := 4) C dX12_feed_98 (by decide) ?_
  refine zx_irem C dX12_feed_99 (by decide) ?_
  refine zx_imul C dX12_feed_100 ?_
  refine zx_isub C dX12_feed_101 ?_
  refine zx_ishr C dX12_feed_102 ?_
  refine zx_i2b C dX12_feed_103 ?_
  obtain ⟨n17, k15, i16, hm⟩ := ckR_e hm
  obtain ⟨h18, hm⟩ := ckI_e hm
  refine zx_bast C k15 i16 h18 dX12_feed_104 ?_
  obtain ⟨y19, hy19⟩ : ∃ z : Int32, z = (x6) + Int32.ofInt 1 := ⟨_, rfl⟩
  replace hm := ltb_e hm hy19
  refine zx_iinc C [(6, .int (y19)), (7, .int (s0)), (0, .ref (x0)), (1, .int (x1)), (2, .int (x2)), (3, .int (x3)), (4, .int (x4)), (5, .int (x5))] dX12_feed_105 7 rfl hy19.symm (by decide) rfl ?_
  refine zx_goto C 24 dX12_feed_108 (by decide) ?_
  exact zx_lv [2, 3, 4, 5, 6, 7, 0] [(0, .ref (x0)), (1, .int (x1)), (2, .int (x2)), (3, .int (x3)), (4, .int (x4)), (5, .int (x5)), (6, .int (y19))] rfl (hrc24 _ _ _ _ _ _ _ _ hm)
set_option maxRecDepth 100000 in
set_option maxHeartbeats 1000000 in
theorem l_X12_feed_24 {p : Program} {l : Launch} {e : Env} {s : State} {m : MethodId} {args : Array Value} {below : List Frame} {meth : Method} {c : Code} {D : va_G} {aC : Nat → ClassId} {b0 fu : Nat} {σ0 τ : tM} {v : Int32}  (C : tCx p l s m args meth c yX12_feed.cls cX12_feed 8 (some .int) D aC b0 σ0) (htab : ∀ x ∈ c.exceptionTable.toList, False) (hin : meth.name = yX12_feed.name)  : ∀ (n : Nat) (x0 : Nat) (x1 : Int32) (x2 : Int32) (x3 : Int32) (x4 : Int32) (x5 : Int32) (x6 : Int32) (σ : tM), L_X12_feed_24 b0 fu  n x0 x1 x2 x3 x4 x5 x6 σ = some (v, τ) → tX p l e s m args below meth c 8 0 0 D aC b0 σ0 (.inl (some (.int v))) τ 24 [(0, .ref (x0)), (1, .int (x1)), (2, .int (x2)), (3, .int (x3)), (4, .int (x4)), (5, .int (x5)), (6, .int (x6))] [] σ := by
  intro n
  induction n with
  | zero => intro x0 x1 x2 x3 x4 x5 x6 σ hm; unfold L_X12_feed_24 at hm; cases hm
  | succ n ih =>
    intro x0 x1 x2 x3 x4 x5 x6 σ hm
    unfold L_X12_feed_24 at hm
    obtain ⟨rc24, hrc⟩ : ∃ z, z = L_X12_feed_24 b0 fu  n := ⟨_, rfl⟩
    replace hm := ltb_e hm hrc
    rw [← hrc] at ih
    have hrc24 := ih
    clear ih hrc
    refine zx_iload C dX12_feed_24 6 rfl ?_
    refine zx_bipush (v := 20) C dX12_feed_26 (by decide) ?_
    refine zx_icmp_ge C 111 dX12_feed_28 (by decide) (fun c4 => ?_) (fun c4 => ?_)
    · replace hm := ip_e hm c4
      refine zx_aload_n C dX12_feed_111 0 rfl ?_
      refine zx_dup C dX12_feed_112 rfl ?_
      obtain ⟨k5, i6, hm⟩ := ckO_e hm
      refine zx_get (j := 57) C tC_11 k5 i6 ⟨by decide, Or.inl W_7_36⟩ dX12_feed_113 (.int (tI (σ) (x0) 57)) rfl ?_
      refine zx_bipush (v := 20) C dX12_feed_116 (by decide) ?_
      refine zx_iadd C dX12_feed_118 ?_
      refine zx_put (j := 57) (ρ := sI (σ) (x0) 57 ((tI (σ) (x0) 57) + (20))) C tC_11 k5 i6 ⟨by decide, Or.inl W_7_36⟩ rfl rfl rfl (sI_ok (fun _ => rfl)) dX12_feed_119 ?_
      refine zx_aload_n C dX12_feed_122 0 rfl ?_
      refine zx_get (j := 57) C tC_11 k5 i6 ⟨by decide, Or.inl W_7_36⟩ dX12_feed_123 (.int (tI (sI (σ) (x0) 57 ((tI (σ) (x0) 57) + (20))) (x0) 57)) rfl ?_
      obtain ⟨rfl, rfl⟩ := ret_e hm
      exact zx_iret C rfl rfl rfl dX12_feed_126
    · replace hm := in_e hm c4
      refine zx_iload C dX12_feed_31 6 rfl ?_
      refine zx_iconst (v := 4) C dX12_feed_33 (by decide) ?_
      refine zx_icmp_ge C 41 dX12_feed_34 (by decide) (fun c7 => ?_) (fun c7 => ?_)
      · replace hm := ip_e hm c7
        refine zx_iload C dX12_feed_41 6 rfl ?_
        refine zx_bipush (v := 8) C dX12_feed_43 (by decide) ?_
        refine zx_icmp_ge C 52 dX12_feed_45 (by decide) (fun c8 => ?_) (fun c8 => ?_)
        · replace hm := ip_e hm c8
          refine zx_iload C dX12_feed_52 6 rfl ?_
          refine zx_bipush (v := 12) C dX12_feed_54 (by decide) ?_
          refine zx_icmp_ge C 63 dX12_feed_56 (by decide) (fun c9 => ?_) (fun c9 => ?_)
          · replace hm := ip_e hm c9
            refine zx_iload C dX12_feed_63 6 rfl ?_
            refine zx_bipush (v := 16) C dX12_feed_65 (by decide) ?_
            refine zx_icmp_ge C 75 dX12_feed_67 (by decide) (fun c10 => ?_) (fun c10 => ?_)
            · replace hm := ip_e hm c10
              refine zx_iload C dX12_feed_75 5 rfl ?_
              exact zx_lv [0, 1, 2, 3, 4, 5, 6] [(0, .ref (x0)), (1, .int (x1)), (2, .int (x2)), (3, .int (x3)), (4, .int (x4)), (5, .int (x5)), (6, .int (x6))] rfl (j_X12_feed_77 C htab hin hrc24   hm)
            · replace hm := in_e hm c10
              refine zx_iload C dX12_feed_70 4 rfl ?_
              refine zx_goto C 77 dX12_feed_72 (by decide) ?_
              exact zx_lv [0, 1, 2, 3, 4, 5, 6] [(0, .ref (x0)), (1, .int (x1)), (2, .int (x2)), (3, .int (x3)), (4, .int (x4)), (5, .int (x5)), (6, .int (x6))] rfl (j_X12_feed_77 C htab hin hrc24   hm)
          · replace hm := in_e hm c9
            refine zx_iload_n C dX12_feed_59 3 rfl ?_
            refine zx_goto C 77 dX12_feed_60 (by decide) ?_
            exact zx_lv [0, 1, 2, 3, 4, 5, 6] [(0, .ref (x0)), (1, .int (x1)), (2, .int (x2)), (3, .int (x3)), (4, .int (x4)), (5, .int (x5)), (6, .int (x6))] rfl (j_X12_feed_77 C htab hin hrc24   hm)
        · replace hm := in_e hm c8
          refine zx_iload_n C dX12_feed_48 2 rfl ?_
          refine zx_goto C 77 dX12_feed_49 (by decide) ?_
          exact zx_lv [0, 1, 2, 3, 4, 5, 6] [(0, .ref (x0)), (1, .int (x1)), (2, .int (x2)), (3, .int (x3)), (4, .int (x4)), (5, .int (x5)), (6, .int (x6))] rfl (j_X12_feed_77 C htab hin hrc24   hm)
      · replace hm := in_e hm c7
        refine zx_iload_n C dX12_feed_37 1 rfl ?_
        refine zx_goto C 77 dX12_feed_38 (by decide) ?_
        exact zx_lv [0, 1, 2, 3, 4, 5, 6] [(0, .ref (x0)), (1, .int (x1)), (2, .int (x2)), (3, .int (x3)), (4, .int (x4)), (5, .int (x5)), (6, .int (x6))] rfl (j_X12_feed_77 C htab hin hrc24   hm)
set_option maxRecDepth 100000 in
set_option maxHeartbeats 1000000 in
theorem c_X12_feed {l : Launch} {D : va_G} {aC : Nat → ClassId} {b0 fu : Nat} {a0 : Nat} {p0 : Int32} {p1 : Int32} {p2 : Int32} {p3 : Int32} {p4 : Int32} {σ τ : tM} {v : Int32} (hm : m_X12_feed b0 fu a0 p0 p1 p2 p3 p4 σ = some (v, τ)) : tMt l D aC b0 yX12_feed (Cond.code yX12_feed cX12_feed 8 (some .int)) 0 0 [.ref (a0), .int (p0), .int (p1), .int (p2), .int (p3), .int (p4)] σ (.inl (some (.int v))) τ := by
  unfold m_X12_feed at hm
  obtain ⟨hg, hm⟩ := grw_e hm
  refine tMt_of (n := 0) rfl (Nat.le_of_ble_eq_true rfl) hg ?_
  intro p e s m below meth c C htab hin
  refine zx_lv [0, 1, 2, 3, 4, 5] [(0, .ref (a0)), (1, .int (p0)), (2, .int (p1)), (3, .int (p2)), (4, .int (p3)), (5, .int (p4))] rfl ?_
  refine zx_aload_n C dX12_feed_0 0 rfl ?_
  refine zx_iconst (v := 0) C dX12_feed_1 (by decide) ?_
  obtain ⟨k1, i2, hm⟩ := ckO_e hm
  refine zx_put (j := 0) (ρ := sI (σ) (a0) 0 (0)) C tC_11 k1 i2 ⟨by decide, Or.inl W_6_220⟩ rfl rfl rfl (sI_ok (fun _ => rfl)) dX12_feed_2 ?_
  refine zx_aload_n C dX12_feed_5 0 rfl ?_
  refine zx_get (j := 57) C tC_11 k1 i2 ⟨by decide, Or.inl W_7_36⟩ dX12_feed_6 (.int (tI (sI (σ) (a0) 0 (0)) (a0) 57)) rfl ?_
  refine zx_bipush (v := 20) C dX12_feed_9 (by decide) ?_
  refine zx_iadd C dX12_feed_11 ?_
  refine zx_sipush (v := 4000) C dX12_feed_12 (by decide) ?_
  refine zx_icmp_le C 21 dX12_feed_15 (by decide) (fun c3 => ?_) (fun c3 => ?_)
  · replace hm := ip_e hm c3
    refine zx_iconst (v := 0) C dX12_feed_21 (by decide) ?_
    refine zx_istore C [(6, .int (0)), (0, .ref (a0)), (1, .int (p0)), (2, .int (p1)), (3, .int (p2)), (4, .int (p3)), (5, .int (p4))] dX12_feed_22 (by decide) rfl ?_
    exact zx_lv [1, 2, 3, 4, 5, 6, 0] [(0, .ref (a0)), (1, .int (p0)), (2, .int (p1)), (3, .int (p2)), (4, .int (p3)), (5, .int (p4)), (6, .int (0))] rfl (l_X12_feed_24 C htab hin  _ _ _ _ _ _ _ _ _ hm)
  · replace hm := in_e hm c3
    refine zx_bipush (v := (-9)) C dX12_feed_18 (by decide) ?_
    obtain ⟨rfl, rfl⟩ := ret_e hm
    exact zx_iret C rfl rfl rfl dX12_feed_20
abbrev cX12_path : ByteArray := prog_13_method_69_code
def yX12_path : MethodName := ⟨"SyncTreeModel", "path", "(II)I"⟩
theorem Y_X12_path : tY yX12_path cX12_path 5 (some .int) 2 := ⟨W_7_168, W_1_14, ⟨by decide +kernel, by decide +kernel⟩, by decide +kernel⟩
theorem dX12_path_0 : decode cX12_path 0 = .ok (.aload_n 0, 1) := by decide +kernel
theorem dX12_path_1 : decode cX12_path 1 = .ok (.iconst 0, 1) := by decide +kernel
theorem dX12_path_2 : decode cX12_path 2 = .ok (.putfield 3, 3) := by decide +kernel
theorem dX12_path_5 : decode cX12_path 5 = .ok (.aload_n 0, 1) := by decide +kernel
theorem dX12_path_6 : decode cX12_path 6 = .ok (.getfield 400, 3) := by decide +kernel
theorem dX12_path_9 : decode cX12_path 9 = .ok (.istore_n 3, 1) := by decide +kernel
theorem dX12_path_10 : decode cX12_path 10 = .ok (.aload_n 0, 1) := by decide +kernel
theorem dX12_path_11 : decode cX12_path 11 = .ok (.iconst 0, 1) := by decide +kernel
theorem dX12_path_12 : decode cX12_path 12 = .ok (.putfield 400, 3) := by decide +kernel
theorem dX12_path_15 : decode cX12_path 15 = .ok (.iload_n 1, 1) := by decide +kernel
theorem dX12_path_16 : decode cX12_path 16 = .ok (.ifCond .lt 23, 3) := by decide +kernel
theorem dX12_path_19 : decode cX12_path 19 = .ok (.iload_n 1, 1) := by decide +kernel
theorem dX12_path_20 : decode cX12_path 20 = .ok (.iconst 1, 1) := by decide +kernel
theorem dX12_path_21 : decode cX12_path 21 = .ok (.if_icmp .gt 18, 3) := by decide +kernel
theorem dX12_path_24 : decode cX12_path 24 = .ok (.iload_n 2, 1) := by decide +kernel
theorem dX12_path_25 : decode cX12_path 25 = .ok (.ifCond .lt 14, 3) := by decide +kernel
theorem dX12_path_28 : decode cX12_path 28 = .ok (.iload_n 2, 1) := by decide +kernel
theorem dX12_path_29 : decode cX12_path 29 = .ok (.bipush 120, 2) := by decide +kernel
theorem dX12_path_31 : decode cX12_path 31 = .ok (.if_icmp .gt 8, 3) := by decide +kernel
theorem dX12_path_34 : decode cX12_path 34 = .ok (.iload_n 2, 1) := by decide +kernel
theorem dX12_path_35 : decode cX12_path 35 = .ok (.iload_n 3, 1) := by decide +kernel
theorem dX12_path_36 : decode cX12_path 36 = .ok (.if_icmp .le 6, 3) := by decide +kernel
theorem dX12_path_39 : decode cX12_path 39 = .ok (.bipush (-9), 2) := by decide +kernel
theorem dX12_path_41 : decode cX12_path 41 = .ok (.ireturn, 1) := by decide +kernel
theorem dX12_path_42 : decode cX12_path 42 = .ok (.iconst 0, 1) := by decide +kernel
theorem dX12_path_43 : decode cX12_path 43 = .ok (.istore 4, 2) := by decide +kernel
theorem dX12_path_45 : decode cX12_path 45 = .ok (.iload 4, 2) := by decide +kernel
theorem dX12_path_47 : decode cX12_path 47 = .ok (.iload_n 2, 1) := by decide +kernel
theorem dX12_path_48 : decode cX12_path 48 = .ok (.if_icmp .ge 36, 3) := by decide +kernel
theorem dX12_path_51 : decode cX12_path 51 = .ok (.aload_n 0, 1) := by decide +kernel
theorem dX12_path_52 : decode cX12_path 52 = .ok (.getfield 391, 3) := by decide +kernel
theorem dX12_path_55 : decode cX12_path 55 = .ok (.iload 4, 2) := by decide +kernel
theorem dX12_path_57 : decode cX12_path 57 = .ok (.baload, 1) := by decide +kernel
theorem dX12_path_58 : decode cX12_path 58 = .ok (.bipush 33, 2) := by decide +kernel
theorem dX12_path_60 : decode cX12_path 60 = .ok (.if_icmp .lt 15, 3) := by decide +kernel
theorem dX12_path_63 : decode cX12_path 63 = .ok (.aload_n 0, 1) := by decide +kernel
theorem dX12_path_64 : decode cX12_path 64 = .ok (.getfield 391, 3) := by decide +kernel
theorem dX12_path_67 : decode cX12_path 67 = .ok (.iload 4, 2) := by decide +kernel
theorem dX12_path_69 : decode cX12_path 69 = .ok (.baload, 1) := by decide +kernel
theorem dX12_path_70 : decode cX12_path 70 = .ok (.bipush 126, 2) := by decide +kernel
theorem dX12_path_72 : decode cX12_path 72 = .ok (.if_icmp .le 6, 3) := by decide +kernel
theorem dX12_path_75 : decode cX12_path 75 = .ok (.bipush (-9), 2) := by decide +kernel
theorem dX12_path_77 : decode cX12_path 77 = .ok (.ireturn, 1) := by decide +kernel
theorem dX12_path_78 : decode cX12_path 78 = .ok (.iinc 4 1, 3) := by decide +kernel
theorem dX12_path_81 : decode cX12_path 81 = .ok (.goto (-36), 3) := by decide +kernel
theorem dX12_path_84 : decode cX12_path 84 = .ok (.aload_n 0, 1) := by decide +kernel
theorem dX12_path_85 : decode cX12_path 85 = .ok (.getfield 391, 3) := by decide +kernel
theorem dX12_path_88 : decode cX12_path 88 = .ok (.iconst 0, 1) := by decide +kernel
theorem dX12_path_89 : decode cX12_path 89 = .ok (.aload_n 0, 1) := by decide +kernel
theorem dX12_path_90 : decode cX12_path 90 = .ok (.getfield 323, 3) := by decide +kernel
theorem dX12_path_93 : decode cX12_path 93 = .ok (.iload_n 1, 1) := by decide +kernel
theorem dX12_path_94 : decode cX12_path 94 = .ok (.aaload, 1) := by decide +kernel
theorem dX12_path_95 : decode cX12_path 95 = .ok (.iconst 0, 1) := by decide +kernel
theorem dX12_path_96 : decode cX12_path 96 = .ok (.iload_n 2, 1) := by decide +kernel
theorem dX12_path_97 : decode cX12_path 97 = .ok (.invokestatic 7, 3) := by decide +kernel
theorem dX12_path_100 : decode cX12_path 100 = .ok (.aload_n 0, 1) := by decide +kernel
theorem dX12_path_101 : decode cX12_path 101 = .ok (.getfield 346, 3) := by decide +kernel
theorem dX12_path_104 : decode cX12_path 104 = .ok (.iload_n 1, 1) := by decide +kernel
theorem dX12_path_105 : decode cX12_path 105 = .ok (.iload_n 2, 1) := by decide +kernel
theorem dX12_path_106 : decode cX12_path 106 = .ok (.iastore, 1) := by decide +kernel
theorem dX12_path_107 : decode cX12_path 107 = .ok (.iload_n 2, 1) := by decide +kernel
theorem dX12_path_108 : decode cX12_path 108 = .ok (.ireturn, 1) := by decide +kernel
def J_X12_path_39 (b0 fu : Nat)   (σ : tM) : Option ((Int32) × tM) := some ((-9), σ)
def J_X12_path_75 (b0 fu : Nat)   (σ : tM) : Option ((Int32) × tM) := some ((-9), σ)
def L_X12_path_45 (b0 fu : Nat)  : Nat → Nat → Int32 → Int32 → Int32 → tM → Option ((Int32) × tM)
  | 0, _, _, _, _, _ => none
  | n + 1, x0, x1, x2, x4, σ => ltb (L_X12_path_45 b0 fu  n) (fun rc45 => if (x2) ≤ (x4) then ckO b0 (σ) (x0) 11 (osm (tA (σ) (x0) 56) (fun a12 => osm (tA (σ) (x0) 47) (fun a14 => ckR b0 (σ) (a14) 5 (fun n18 => ckI (x1) (n18) (osm (tA (σ) (a14) ((x1).toNatClampNeg)) (fun a20 => ckR b0 (σ) (a12) 1 (fun n24 => ckR b0 (σ) (a20) 1 (fun n27 => ckC (0) (0) (x2) (n24) (n27) (ckF (tI (σ) (a12)) (0) (x2) (osm (tA (sIr (σ) (a20) (va_cpy (tI (σ) (a12)) (tI (σ) (a20)) (((0 : Int32)).toNatClampNeg) (((0 : Int32)).toNatClampNeg) ((x2).toNatClampNeg))) (x0) 48) (fun a30 => ckR b0 (sIr (σ) (a20) (va_cpy (tI (σ) (a12)) (tI (σ) (a20)) (((0 : Int32)).toNatClampNeg) (((0 : Int32)).toNatClampNeg) ((x2).toNatClampNeg))) (a30) 0 (fun n34 => ckI (x1) (n34) (some (x2, sI (sIr (σ) (a20) (va_cpy (tI (σ) (a12)) (tI (σ) (a20)) (((0 : Int32)).toNatClampNeg) (((0 : Int32)).toNatClampNeg) ((x2).toNatClampNeg))) (a30) ((x1).toNatClampNeg) (x2))))))))))))))) else ckO b0 (σ) (x0) 11 (osm (tA (σ) (x0) 56) (fun a39 => ckR b0 (σ) (a39) 1 (fun n43 => ckI (x4) (n43) (if (tI (σ) (a39) ((x4).toNatClampNeg)) < (33) then J_X12_path_75 b0 fu    (σ) else osm (tA (σ) (x0) 56) (fun a46 => ckR b0 (σ) (a46) 1 (fun n50 => ckI (x4) (n50) (if (tI (σ) (a46) ((x4).toNatClampNeg)) ≤ (126) then ltb ((x4) + Int32.ofInt 1) (fun y53 => rc45 (x0) (x1) (x2) (y53) (σ)) else J_X12_path_75 b0 fu    (σ)))))))))
def m_X12_path (b0 fu : Nat) (a0 : Nat) (p0 : Int32) (p1 : Int32) (σ : tM) : Option ((Int32) × tM) := grw σ (ckO b0 (σ) (a0) 11 (ltb ((tI (sI (σ) (a0) 0 (0)) (a0) 57 : Int32)) (fun y3 => if (p0) < (0) then J_X12_path_39 b0 fu    (sI (sI (σ) (a0) 0 (0)) (a0) 57 (0)) else if (1) < (p0) then J_X12_path_39 b0 fu    (sI (sI (σ) (a0) 0 (0)) (a0) 57 (0)) else if (p1) < (0) then J_X12_path_39 b0 fu    (sI (sI (σ) (a0) 0 (0)) (a0) 57 (0)) else if (120) < (p1) then J_X12_path_39 b0 fu    (sI (sI (σ) (a0) 0 (0)) (a0) 57 (0)) else if (p1) ≤ (y3) then L_X12_path_45 b0 fu  (fu) (a0) (p0) (p1) (0) (sI (sI (σ) (a0) 0 (0)) (a0) 57 (0)) else J_X12_path_39 b0 fu    (sI (sI (σ) (a0) 0 (0)) (a0) 57 (0)))))
set_option maxRecDepth 100000 in
set_option maxHeartbeats 1000000 in
theorem j_X12_path_39 {p : Program} {l : Launch} {e : Env} {s : State} {m : MethodId} {args : Array Value} {below : List Frame} {meth : Method} {c : Code} {D : va_G} {aC : Nat → ClassId} {b0 fu : Nat} {σ0 τ : tM} {v : Int32}  (C : tCx p l s m args meth c yX12_path.cls cX12_path 5 (some .int) D aC b0 σ0) (htab : ∀ x ∈ c.exceptionTable.toList, False) (hin : meth.name = yX12_path.name)   {σ : tM} (hm : J_X12_path_39 b0 fu   σ = some (v, τ)) : tX p l e s m args below meth c 5 1 26 D aC b0 σ0 (.inl (some (.int v))) τ 39 [] [] σ := by
  unfold J_X12_path_39 at hm
  refine zx_bipush (v := (-9)) C dX12_path_39 (by decide) ?_
  obtain ⟨rfl, rfl⟩ := ret_e hm
  exact zx_iret C rfl rfl rfl dX12_path_41
set_option maxRecDepth 100000 in
set_option maxHeartbeats 1000000 in
theorem j_X12_path_75 {p : Program} {l : Launch} {e : Env} {s : State} {m : MethodId} {args : Array Value} {below : List Frame} {meth : Method} {c : Code} {D : va_G} {aC : Nat → ClassId} {b0 fu : Nat} {σ0 τ : tM} {v : Int32}  (C : tCx p l s m args meth c yX12_path.cls cX12_path 5 (some .int) D aC b0 σ0) (htab : ∀ x ∈ c.exceptionTable.toList, False) (hin : meth.name = yX12_path.name)   {σ : tM} (hm : J_X12_path_75 b0 fu   σ = some (v, τ)) : tX p l e s m args below meth c 5 1 26 D aC b0 σ0 (.inl (some (.int v))) τ 75 [] [] σ := by
  unfold J_X12_path_75 at hm
  refine zx_bipush (v := (-9)) C dX12_path_75 (by decide) ?_
  obtain ⟨rfl, rfl⟩ := ret_e hm
  exact zx_iret C rfl rfl rfl dX12_path_77
set_option maxRecDepth 100000 in
set_option maxHeartbeats 1000000 in
theorem l_X12_path_45 {p : Program} {l : Launch} {e : Env} {s : State} {m : MethodId} {args : Array Value} {below : List Frame} {meth : Method} {c : Code} {D : va_G} {aC : Nat → ClassId} {b0 fu : Nat} {σ0 τ : tM} {v : Int32}  (C : tCx p l s m args meth c yX12_path.cls cX12_path 5 (some .int) D aC b0 σ0) (htab : ∀ x ∈ c.exceptionTable.toList, False) (hin : meth.name = yX12_path.name)  : ∀ (n : Nat) (x0 : Nat) (x1 : Int32) (x2 : Int32) (x4 : Int32) (σ : tM), L_X12_path_45 b0 fu  n x0 x1 x2 x4 σ = some (v, τ) → tX p l e s m args below meth c 5 1 26 D aC b0 σ0 (.inl (some (.int v))) τ 45 [(0, .ref (x0)), (1, .int (x1)), (2, .int (x2)), (4, .int (x4))] [] σ := by
  intro n
  induction n with
  | zero => intro x0 x1 x2 x4 σ hm; unfold L_X12_path_45 at hm; cases hm
  | succ n ih =>
    intro x0 x1 x2 x4 σ hm
    unfold L_X12_path_45 at hm
    obtain ⟨rc45, hrc⟩ : ∃ z, z = L_X12_path_45 b0 fu  n := ⟨_, rfl⟩
    replace hm := ltb_e hm hrc
    rw [← hrc] at ih
    have hrc45 := ih
    clear ih hrc
    refine zx_iload C dX12_path_45 3 rfl ?_
    refine zx_iload_n C dX12_path_47 2 rfl ?_
    refine zx_icmp_ge C 84 dX12_path_48 (by decide) (fun c9 => ?_) (fun c9 => ?_)
    · replace hm := ip_e hm c9
      refine zx_aload_n C dX12_path_84 0 rfl ?_
      obtain ⟨k10, i11, hm⟩ := ckO_e hm
      obtain ⟨a12, h13, hm⟩ := osm_e hm
      refine zx_get (j := 56) C tC_11 k10 i11 ⟨by decide, Or.inl W_7_35⟩ dX12_path_85 (.ref a12) (rf_s h13) ?_
      refine zx_iconst (v := 0) C dX12_path_88 (by decide) ?_
      refine zx_aload_n C dX12_path_89 0 rfl ?_
      obtain ⟨a14, h15, hm⟩ := osm_e hm
      refine zx_get (j := 47) C tC_11 k10 i11 ⟨by decide, Or.inl W_7_26⟩ dX12_path_90 (.ref a14) (rf_s h15) ?_
      refine zx_iload_n C dX12_path_93 1 rfl ?_
      obtain ⟨n18, k16, i17, hm⟩ := ckR_e hm
      obtain ⟨h19, hm⟩ := ckI_e hm
      obtain ⟨a20, h21, hm⟩ := osm_e hm
      refine zx_aald5 C k16 i17 h19 dX12_path_94 (.ref a20) (rf_s h21) ?_
      refine zx_iconst (v := 0) C dX12_path_95 (by decide) ?_
      refine zx_iload_n C dX12_path_96 2 rfl ?_
      obtain ⟨n24, k22, i23, hm⟩ := ckR_e hm
      obtain ⟨n27, k25, i26, hm⟩ := ckR_e hm
      obtain ⟨h28, hm⟩ := ckC_e hm
      obtain ⟨h36, hm⟩ := ckF_e hm
      refine zx_copyB (σ := σ) C W_7_169 W_2_135 W_2_134 W_1_11 k22 i23 k25 i26 h28 h36 (by decide) (by decide) (Nat.le_of_ble_eq_true rfl) dX12_path_97 ?_
      refine zx_aload_n C dX12_path_100 0 rfl ?_
      obtain ⟨a30, h31, hm⟩ := osm_e hm
      refine zx_get (j := 48) C tC_11 k10 i11 ⟨by decide, Or.inl W_7_27⟩ dX12_path_101 (.ref a30) (rf_s h31) ?_
      refine zx_iload_n C dX12_path_104 1 rfl ?_
      refine zx_iload_n C dX12_path_105 2 rfl ?_
      obtain ⟨n34, k32, i33, hm⟩ := ckR_e hm
      obtain ⟨h35, hm⟩ := ckI_e hm
      refine zx_iast C k32 i33 h35 dX12_path_106 ?_
      refine zx_iload_n C dX12_path_107 2 rfl ?_
      obtain ⟨rfl, rfl⟩ := ret_e hm
      exact zx_iret C rfl rfl rfl dX12_path_108
    · replace hm := in_e hm c9
      refine zx_aload_n C dX12_path_51 0 rfl ?_
      obtain ⟨k37, i38, hm⟩ := ckO_e hm
      obtain ⟨a39, h40, hm⟩ := osm_e hm
      refine zx_get (j := 56) C tC_11 k37 i38 ⟨by decide, Or.inl W_7_35⟩ dX12_path_52 (.ref a39) (rf_s h40) ?_
      refine zx_iload C dX12_path_55 3 rfl ?_
      obtain ⟨n43, k41, i42, hm⟩ := ckR_e hm
      obtain ⟨h44, hm⟩ := ckI_e hm
      refine zx_bald C k41 i42 h44 dX12_path_57 ?_
      refine zx_bipush (v := 33) C dX12_path_58 (by decide) ?_
      refine zx_icmp_lt C 75 dX12_path_60 (by decide) (fun c45 => ?_) (fun c45 => ?_)
      · replace hm := ip_e hm c45
        exact zx_lv [] [] rfl (j_X12_path_75 C htab hin    hm)
      · replace hm := in_e hm c45
        refine zx_aload_n C dX12_path_63 0 rfl ?_
        obtain ⟨a46, h47, hm⟩ := osm_e hm
        refine zx_get (j := 56) C tC_11 k37 i38 ⟨by decide, Or.inl W_7_35⟩ dX12_path_64 (.ref a46) (rf_s h47) ?_
        refine zx_iload C dX12_path_67 3 rfl ?_
        obtain ⟨n50, k48, i49, hm⟩ := ckR_e hm
        obtain ⟨h51, hm⟩ := ckI_e hm
        refine zx_bald C k48 i49 h51 dX12_path_69 ?_
        refine zx_bipush (v := 126) C dX12_path_70 (by decide) ?_
        refine zx_icmp_le C 78 dX12_path_72 (by decide) (fun c52 => ?_) (fun c52 => ?_)
        · replace hm := ip_e hm c52
          obtain ⟨y53, hy53⟩ : ∃ z : Int32, z = (x4) + Int32.ofInt 1 := ⟨_, rfl⟩
          replace hm := ltb_e hm hy53
          refine zx_iinc C [(4, .int (y53)), (0, .ref (x0)), (1, .int (x1)), (2, .int (x2))] dX12_path_78 3 rfl hy53.symm (by decide) rfl ?_
          refine zx_goto C 45 dX12_path_81 (by decide) ?_
          exact zx_lv [1, 2, 3, 0] [(0, .ref (x0)), (1, .int (x1)), (2, .int (x2)), (4, .int (y53))] rfl (hrc45 _ _ _ _ _ hm)
        · replace hm := in_e hm c52
          exact zx_lv [] [] rfl (j_X12_path_75 C htab hin    hm)
set_option maxRecDepth 100000 in
set_option maxHeartbeats 1000000 in
theorem c_X12_path {l : Launch} {D : va_G} {aC : Nat → ClassId} {b0 fu : Nat} {a0 : Nat} {p0 : Int32} {p1 : Int32} {σ τ : tM} {v : Int32} (hm : m_X12_path b0 fu a0 p0 p1 σ = some (v, τ)) : tMt l D aC b0 yX12_path (Cond.code yX12_path cX12_path 5 (some .int)) 1 26 [.ref (a0), .int (p0), .int (p1)] σ (.inl (some (.int v))) τ := by
  unfold m_X12_path at hm
  obtain ⟨hg, hm⟩ := grw_e hm
  refine tMt_of (n := 0) rfl (Nat.le_of_ble_eq_true rfl) hg ?_
  intro p e s m below meth c C htab hin
  refine zx_lv [0, 1, 2] [(0, .ref (a0)), (1, .int (p0)), (2, .int (p1))] rfl ?_
  refine zx_aload_n C dX12_path_0 0 rfl ?_
  refine zx_iconst (v := 0) C dX12_path_1 (by decide) ?_
  obtain ⟨k1, i2, hm⟩ := ckO_e hm
  refine zx_put (j := 0) (ρ := sI (σ) (a0) 0 (0)) C tC_11 k1 i2 ⟨by decide, Or.inl W_6_220⟩ rfl rfl rfl (sI_ok (fun _ => rfl)) dX12_path_2 ?_
  refine zx_aload_n C dX12_path_5 0 rfl ?_
  refine zx_get (j := 57) C tC_11 k1 i2 ⟨by decide, Or.inl W_7_36⟩ dX12_path_6 (.int (tI (sI (σ) (a0) 0 (0)) (a0) 57)) rfl ?_
  refine zx_topi (fun y3 hy3 => ?_)
  replace hm := ltb_e hm hy3
  refine zx_istore_n C [(3, .int (y3)), (0, .ref (a0)), (1, .int (p0)), (2, .int (p1))] dX12_path_9 rfl (by decide) rfl ?_
  refine zx_aload_n C dX12_path_10 1 rfl ?_
  refine zx_iconst (v := 0) C dX12_path_11 (by decide) ?_
  refine zx_put (j := 57) (ρ := sI (sI (σ) (a0) 0 (0)) (a0) 57 (0)) C tC_11 k1 i2 ⟨by decide, Or.inl W_7_36⟩ rfl rfl rfl (sI_ok (fun _ => rfl)) dX12_path_12 ?_
  refine zx_iload_n C dX12_path_15 2 rfl ?_
  refine zx_if_lt C 39 dX12_path_16 (by decide) (fun c4 => ?_) (fun c4 => ?_)
  · replace hm := ip_e hm c4
    exact zx_lv [] [] rfl (j_X12_path_39 C htab hin    hm)
  · replace hm := in_e hm c4
    refine zx_iload_n C dX12_path_19 2 rfl ?_
    refine zx_iconst (v := 1) C dX12_path_20 (by decide) ?_
    refine zx_icmp_gt C 39 dX12_path_21 (by decide) (fun c5 => ?_) (fun c5 => ?_)
    · replace hm := ip_e hm c5
      exact zx_lv [] [] rfl (j_X12_path_39 C htab hin    hm)
    · replace hm := in_e hm c5
      refine zx_iload_n C dX12_path_24 3 rfl ?_
      refine zx_if_lt C 39 dX12_path_25 (by decide) (fun c6 => ?_) (fun c6 => ?_)
      · replace hm := ip_e hm c6
        exact zx_lv [] [] rfl (j_X12_path_39 C htab hin    hm)
      · replace hm := in_e hm c6
        refine zx_iload_n C dX12_path_28 3 rfl ?_
        refine zx_bipush (v := 120) C dX12_path_29 (by decide) ?_
        refine zx_icmp_gt C 39 dX12_path_31 (by decide) (fun c7 => ?_) (fun c7 => ?_)
        · replace hm := ip_e hm c7
          exact zx_lv [] [] rfl (j_X12_path_39 C htab hin    hm)
        · replace hm := in_e hm c7
          refine zx_iload_n C dX12_path_34 3 rfl ?_
          refine zx_iload_n C dX12_path_35 0 rfl ?_
          refine zx_icmp_le C 42 dX12_path_36 (by decide) (fun c8 => ?_) (fun c8 => ?_)
          · replace hm := ip_e hm c8
            refine zx_iconst (v := 0) C dX12_path_42 (by decide) ?_
            refine zx_istore C [(4, .int (0)), (3, .int (y3)), (0, .ref (a0)), (1, .int (p0)), (2, .int (p1))] dX12_path_43 (by decide) rfl ?_
            exact zx_lv [2, 3, 4, 0] [(0, .ref (a0)), (1, .int (p0)), (2, .int (p1)), (4, .int (0))] rfl (l_X12_path_45 C htab hin  _ _ _ _ _ _ hm)
          · replace hm := in_e hm c8
            exact zx_lv [] [] rfl (j_X12_path_39 C htab hin    hm)
abbrev cX12_up : ByteArray := prog_13_method_70_code
def yX12_up : MethodName := ⟨"SyncTreeModel", "up", "()V"⟩
theorem Y_X12_up : tY yX12_up cX12_up 1 none 0 := ⟨W_7_182, W_1_14, ⟨by decide +kernel, by decide +kernel⟩, by decide +kernel⟩
theorem dX12_up_0 : decode cX12_up 0 = .ok (.aload_n 0, 1) := by decide +kernel
theorem dX12_up_1 : decode cX12_up 1 = .ok (.getfield 58, 3) := by decide +kernel
theorem dX12_up_4 : decode cX12_up 4 = .ok (.ifCond .ne 7, 3) := by decide +kernel
theorem dX12_up_7 : decode cX12_up 7 = .ok (.getstatic 51, 3) := by decide +kernel
theorem dX12_up_10 : decode cX12_up 10 = .ok (.athrow, 1) := by decide +kernel
theorem dX12_up_11 : decode cX12_up 11 = .ok (.return_, 1) := by decide +kernel
def m_X12_up (b0 fu : Nat) (a0 : Nat) (σ : tM) : Option (((Unit) ⊕ Unit) × tM) := grw σ (ckO b0 (σ) (a0) 11 (if (tI (σ) (a0) 18) = (0) then some (.inr (), σ) else some (.inl (()), σ)))
set_option maxRecDepth 100000 in
set_option maxHeartbeats 1000000 in
theorem c_X12_up {l : Launch} {D : va_G} {aC : Nat → ClassId} {b0 fu : Nat} {a0 : Nat} {σ τ : tM} {v : (Unit) ⊕ Unit} (hm : m_X12_up b0 fu a0 σ = some (v, τ)) : tMt l D aC b0 yX12_up (Cond.code yX12_up cX12_up 1 none) 0 0 [.ref (a0)] σ (rxV "SyncTreeModel$Off" v) τ := by
  unfold m_X12_up at hm
  obtain ⟨hg, hm⟩ := grw_e hm
  refine tMt_of (n := 0) rfl (Nat.le_of_ble_eq_true rfl) hg ?_
  intro p e s m below meth c C htab hin
  refine zx_lv [0] [(0, .ref (a0))] rfl ?_
  refine zx_aload_n C dX12_up_0 0 rfl ?_
  obtain ⟨k1, i2, hm⟩ := ckO_e hm
  refine zx_get (j := 18) C tC_11 k1 i2 ⟨by decide, Or.inl W_6_237⟩ dX12_up_1 (.int (tI (σ) (a0) 18)) rfl ?_
  refine zx_if_ne C 11 dX12_up_4 (by decide) (fun c3 => ?_) (fun c3 => ?_)
  · replace hm := in_e hm c3
    obtain ⟨rfl, rfl⟩ := ret_e hm
    exact zx_vret C rfl rfl rfl dX12_up_11
  · replace hm := ip_e hm c3
    obtain ⟨rfl, rfl⟩ := ret_e hm
    exact zx_off C htab W_7_183 dX12_up_7 dX12_up_10 rfl rfl
abbrev cX12_off : ByteArray := prog_13_method_72_code
def yX12_off : MethodName := ⟨"SyncTreeModel", "off", "()I"⟩
theorem Y_X12_off : tY yX12_off cX12_off 1 (some .int) 0 := ⟨W_8_138, W_1_14, ⟨by decide +kernel, by decide +kernel⟩, by decide +kernel⟩
theorem dX12_off_0 : decode cX12_off 0 = .ok (.aload_n 0, 1) := by decide +kernel
theorem dX12_off_1 : decode cX12_off 1 = .ok (.iconst 1, 1) := by decide +kernel
theorem dX12_off_2 : decode cX12_off 2 = .ok (.putfield 3, 3) := by decide +kernel
theorem dX12_off_5 : decode cX12_off 5 = .ok (.iconst 0, 1) := by decide +kernel
theorem dX12_off_6 : decode cX12_off 6 = .ok (.ireturn, 1) := by decide +kernel
def m_X12_off (b0 fu : Nat) (a0 : Nat) (σ : tM) : Option ((Int32) × tM) := grw σ (ckO b0 (σ) (a0) 11 (some (0, sI (σ) (a0) 0 (1))))
set_option maxRecDepth 100000 in
set_option maxHeartbeats 1000000 in
theorem c_X12_off {l : Launch} {D : va_G} {aC : Nat → ClassId} {b0 fu : Nat} {a0 : Nat} {σ τ : tM} {v : Int32} (hm : m_X12_off b0 fu a0 σ = some (v, τ)) : tMt l D aC b0 yX12_off (Cond.code yX12_off cX12_off 1 (some .int)) 0 0 [.ref (a0)] σ (.inl (some (.int v))) τ := by
  unfold m_X12_off at hm
  obtain ⟨hg, hm⟩ := grw_e hm
  refine tMt_of (n := 0) rfl (Nat.le_of_ble_eq_true rfl) hg ?_
  intro p e s m below meth c C htab hin
  refine zx_lv [0] [(0, .ref (a0))] rfl ?_
  refine zx_aload_n C dX12_off_0 0 rfl ?_
  refine zx_iconst (v := 1) C dX12_off_1 (by decide) ?_
  obtain ⟨k1, i2, hm⟩ := ckO_e hm
  refine zx_put (j := 0) (ρ := sI (σ) (a0) 0 (1)) C tC_11 k1 i2 ⟨by decide, Or.inl W_6_220⟩ rfl rfl rfl (sI_ok (fun _ => rfl)) dX12_off_2 ?_
  refine zx_iconst (v := 0) C dX12_off_5 (by decide) ?_
  obtain ⟨rfl, rfl⟩ := ret_e hm
  exact zx_iret C rfl rfl rfl dX12_off_6
