abbrev cX12_undo : ByteArray := prog_13_method_64_code
def yX12_undo : MethodName := ⟨"SyncTreeModel", "undo", "(I)V"⟩
theorem Y_X12_undo : tY yX12_undo cX12_undo 5 none 1 := ⟨W_9_109, W_1_14, ⟨by decide +kernel, by decide +kernel⟩, by decide +kernel⟩
theorem dX12_undo_0 : decode cX12_undo 0 = .ok (.iload_n 1, 1) := by decide +kernel
theorem dX12_undo_1 : decode cX12_undo 1 = .ok (.aload_n 0, 1) := by decide +kernel
theorem dX12_undo_2 : decode cX12_undo 2 = .ok (.getfield 128, 3) := by decide +kernel
theorem dX12_undo_5 : decode cX12_undo 5 = .ok (.if_icmp .le 38, 3) := by decide +kernel
theorem dX12_undo_8 : decode cX12_undo 8 = .ok (.aload_n 0, 1) := by decide +kernel
theorem dX12_undo_9 : decode cX12_undo 9 = .ok (.getfield 143, 3) := by decide +kernel
theorem dX12_undo_12 : decode cX12_undo 12 = .ok (.iload_n 1, 1) := by decide +kernel
theorem dX12_undo_13 : decode cX12_undo 13 = .ok (.aload_n 0, 1) := by decide +kernel
theorem dX12_undo_14 : decode cX12_undo 14 = .ok (.getfield 128, 3) := by decide +kernel
theorem dX12_undo_17 : decode cX12_undo 17 = .ok (.isub, 1) := by decide +kernel
theorem dX12_undo_18 : decode cX12_undo 18 = .ok (.iconst 1, 1) := by decide +kernel
theorem dX12_undo_19 : decode cX12_undo 19 = .ok (.isub, 1) := by decide +kernel
theorem dX12_undo_20 : decode cX12_undo 20 = .ok (.iaload, 1) := by decide +kernel
theorem dX12_undo_21 : decode cX12_undo 21 = .ok (.aload_n 0, 1) := by decide +kernel
theorem dX12_undo_22 : decode cX12_undo 22 = .ok (.getfield 125, 3) := by decide +kernel
theorem dX12_undo_25 : decode cX12_undo 25 = .ok (.iload_n 1, 1) := by decide +kernel
theorem dX12_undo_26 : decode cX12_undo 26 = .ok (.aload_n 0, 1) := by decide +kernel
theorem dX12_undo_27 : decode cX12_undo 27 = .ok (.getfield 128, 3) := by decide +kernel
theorem dX12_undo_30 : decode cX12_undo 30 = .ok (.isub, 1) := by decide +kernel
theorem dX12_undo_31 : decode cX12_undo 31 = .ok (.iconst 1, 1) := by decide +kernel
theorem dX12_undo_32 : decode cX12_undo 32 = .ok (.isub, 1) := by decide +kernel
theorem dX12_undo_33 : decode cX12_undo 33 = .ok (.iaload, 1) := by decide +kernel
theorem dX12_undo_34 : decode cX12_undo 34 = .ok (.iadd, 1) := by decide +kernel
theorem dX12_undo_35 : decode cX12_undo 35 = .ok (.aload_n 0, 1) := by decide +kernel
theorem dX12_undo_36 : decode cX12_undo 36 = .ok (.getfield 38, 3) := by decide +kernel
theorem dX12_undo_39 : decode cX12_undo 39 = .ok (.irem, 1) := by decide +kernel
theorem dX12_undo_40 : decode cX12_undo 40 = .ok (.goto 7, 3) := by decide +kernel
theorem dX12_undo_43 : decode cX12_undo 43 = .ok (.aload_n 0, 1) := by decide +kernel
theorem dX12_undo_44 : decode cX12_undo 44 = .ok (.getfield 217, 3) := by decide +kernel
theorem dX12_undo_47 : decode cX12_undo 47 = .ok (.istore_n 2, 1) := by decide +kernel
theorem dX12_undo_48 : decode cX12_undo 48 = .ok (.iload_n 1, 1) := by decide +kernel
theorem dX12_undo_49 : decode cX12_undo 49 = .ok (.aload_n 0, 1) := by decide +kernel
theorem dX12_undo_50 : decode cX12_undo 50 = .ok (.getfield 128, 3) := by decide +kernel
theorem dX12_undo_53 : decode cX12_undo 53 = .ok (.if_icmp .le 19, 3) := by decide +kernel
theorem dX12_undo_56 : decode cX12_undo 56 = .ok (.aload_n 0, 1) := by decide +kernel
theorem dX12_undo_57 : decode cX12_undo 57 = .ok (.getfield 146, 3) := by decide +kernel
theorem dX12_undo_60 : decode cX12_undo 60 = .ok (.iload_n 1, 1) := by decide +kernel
theorem dX12_undo_61 : decode cX12_undo 61 = .ok (.aload_n 0, 1) := by decide +kernel
theorem dX12_undo_62 : decode cX12_undo 62 = .ok (.getfield 128, 3) := by decide +kernel
theorem dX12_undo_65 : decode cX12_undo 65 = .ok (.isub, 1) := by decide +kernel
theorem dX12_undo_66 : decode cX12_undo 66 = .ok (.iconst 1, 1) := by decide +kernel
theorem dX12_undo_67 : decode cX12_undo 67 = .ok (.isub, 1) := by decide +kernel
theorem dX12_undo_68 : decode cX12_undo 68 = .ok (.iaload, 1) := by decide +kernel
theorem dX12_undo_69 : decode cX12_undo 69 = .ok (.goto 4, 3) := by decide +kernel
theorem dX12_undo_72 : decode cX12_undo 72 = .ok (.iconst 0, 1) := by decide +kernel
theorem dX12_undo_73 : decode cX12_undo 73 = .ok (.istore_n 3, 1) := by decide +kernel
theorem dX12_undo_74 : decode cX12_undo 74 = .ok (.aload_n 0, 1) := by decide +kernel
theorem dX12_undo_75 : decode cX12_undo 75 = .ok (.getfield 17, 3) := by decide +kernel
theorem dX12_undo_78 : decode cX12_undo 78 = .ok (.iload_n 3, 1) := by decide +kernel
theorem dX12_undo_79 : decode cX12_undo 79 = .ok (.if_icmp .le 39, 3) := by decide +kernel
theorem dX12_undo_82 : decode cX12_undo 82 = .ok (.aload_n 0, 1) := by decide +kernel
theorem dX12_undo_83 : decode cX12_undo 83 = .ok (.dup, 1) := by decide +kernel
theorem dX12_undo_84 : decode cX12_undo 84 = .ok (.getfield 17, 3) := by decide +kernel
theorem dX12_undo_87 : decode cX12_undo 87 = .ok (.iconst 1, 1) := by decide +kernel
theorem dX12_undo_88 : decode cX12_undo 88 = .ok (.isub, 1) := by decide +kernel
theorem dX12_undo_89 : decode cX12_undo 89 = .ok (.putfield 17, 3) := by decide +kernel
theorem dX12_undo_92 : decode cX12_undo 92 = .ok (.aload_n 0, 1) := by decide +kernel
theorem dX12_undo_93 : decode cX12_undo 93 = .ok (.getfield 13, 3) := by decide +kernel
theorem dX12_undo_96 : decode cX12_undo 96 = .ok (.aload_n 0, 1) := by decide +kernel
theorem dX12_undo_97 : decode cX12_undo 97 = .ok (.getfield 20, 3) := by decide +kernel
theorem dX12_undo_100 : decode cX12_undo 100 = .ok (.aload_n 0, 1) := by decide +kernel
theorem dX12_undo_101 : decode cX12_undo 101 = .ok (.getfield 17, 3) := by decide +kernel
theorem dX12_undo_104 : decode cX12_undo 104 = .ok (.iaload, 1) := by decide +kernel
theorem dX12_undo_105 : decode cX12_undo 105 = .ok (.aload_n 0, 1) := by decide +kernel
theorem dX12_undo_106 : decode cX12_undo 106 = .ok (.getfield 27, 3) := by decide +kernel
theorem dX12_undo_109 : decode cX12_undo 109 = .ok (.aload_n 0, 1) := by decide +kernel
theorem dX12_undo_110 : decode cX12_undo 110 = .ok (.getfield 17, 3) := by decide +kernel
theorem dX12_undo_113 : decode cX12_undo 113 = .ok (.iaload, 1) := by decide +kernel
theorem dX12_undo_114 : decode cX12_undo 114 = .ok (.iastore, 1) := by decide +kernel
theorem dX12_undo_115 : decode cX12_undo 115 = .ok (.goto (-41), 3) := by decide +kernel
theorem dX12_undo_118 : decode cX12_undo 118 = .ok (.aload_n 0, 1) := by decide +kernel
theorem dX12_undo_119 : decode cX12_undo 119 = .ok (.iconst 0, 1) := by decide +kernel
theorem dX12_undo_120 : decode cX12_undo 120 = .ok (.putfield 17, 3) := by decide +kernel
theorem dX12_undo_123 : decode cX12_undo 123 = .ok (.aload_n 0, 1) := by decide +kernel
theorem dX12_undo_124 : decode cX12_undo 124 = .ok (.iload_n 1, 1) := by decide +kernel
theorem dX12_undo_125 : decode cX12_undo 125 = .ok (.putfield 128, 3) := by decide +kernel
theorem dX12_undo_128 : decode cX12_undo 128 = .ok (.aload_n 0, 1) := by decide +kernel
theorem dX12_undo_129 : decode cX12_undo 129 = .ok (.iconst 0, 1) := by decide +kernel
theorem dX12_undo_130 : decode cX12_undo 130 = .ok (.putfield 137, 3) := by decide +kernel
theorem dX12_undo_133 : decode cX12_undo 133 = .ok (.aload_n 0, 1) := by decide +kernel
theorem dX12_undo_134 : decode cX12_undo 134 = .ok (.iconst 0, 1) := by decide +kernel
theorem dX12_undo_135 : decode cX12_undo 135 = .ok (.putfield 131, 3) := by decide +kernel
theorem dX12_undo_138 : decode cX12_undo 138 = .ok (.aload_n 0, 1) := by decide +kernel
theorem dX12_undo_139 : decode cX12_undo 139 = .ok (.iload_n 2, 1) := by decide +kernel
theorem dX12_undo_140 : decode cX12_undo 140 = .ok (.putfield 217, 3) := by decide +kernel
theorem dX12_undo_143 : decode cX12_undo 143 = .ok (.aload_n 0, 1) := by decide +kernel
theorem dX12_undo_144 : decode cX12_undo 144 = .ok (.iload_n 2, 1) := by decide +kernel
theorem dX12_undo_145 : decode cX12_undo 145 = .ok (.putfield 161, 3) := by decide +kernel
theorem dX12_undo_148 : decode cX12_undo 148 = .ok (.aload_n 0, 1) := by decide +kernel
theorem dX12_undo_149 : decode cX12_undo 149 = .ok (.iload_n 1, 1) := by decide +kernel
theorem dX12_undo_150 : decode cX12_undo 150 = .ok (.putfield 122, 3) := by decide +kernel
theorem dX12_undo_153 : decode cX12_undo 153 = .ok (.aload_n 0, 1) := by decide +kernel
theorem dX12_undo_154 : decode cX12_undo 154 = .ok (.iload_n 1, 1) := by decide +kernel
theorem dX12_undo_155 : decode cX12_undo 155 = .ok (.putfield 199, 3) := by decide +kernel
theorem dX12_undo_158 : decode cX12_undo 158 = .ok (.aload_n 0, 1) := by decide +kernel
theorem dX12_undo_159 : decode cX12_undo 159 = .ok (.iload_n 1, 1) := by decide +kernel
theorem dX12_undo_160 : decode cX12_undo 160 = .ok (.putfield 208, 3) := by decide +kernel
theorem dX12_undo_163 : decode cX12_undo 163 = .ok (.aload_n 0, 1) := by decide +kernel
theorem dX12_undo_164 : decode cX12_undo 164 = .ok (.iload_n 1, 1) := by decide +kernel
theorem dX12_undo_165 : decode cX12_undo 165 = .ok (.putfield 202, 3) := by decide +kernel
theorem dX12_undo_168 : decode cX12_undo 168 = .ok (.aload_n 0, 1) := by decide +kernel
theorem dX12_undo_169 : decode cX12_undo 169 = .ok (.iload_n 1, 1) := by decide +kernel
theorem dX12_undo_170 : decode cX12_undo 170 = .ok (.putfield 119, 3) := by decide +kernel
theorem dX12_undo_173 : decode cX12_undo 173 = .ok (.aload_n 0, 1) := by decide +kernel
theorem dX12_undo_174 : decode cX12_undo 174 = .ok (.invokevirtual 187, 3) := by decide +kernel
theorem dX12_undo_177 : decode cX12_undo 177 = .ok (.iconst 0, 1) := by decide +kernel
theorem dX12_undo_178 : decode cX12_undo 178 = .ok (.istore 4, 2) := by decide +kernel
theorem dX12_undo_180 : decode cX12_undo 180 = .ok (.iload 4, 2) := by decide +kernel
theorem dX12_undo_182 : decode cX12_undo 182 = .ok (.aload_n 0, 1) := by decide +kernel
theorem dX12_undo_183 : decode cX12_undo 183 = .ok (.getfield 41, 3) := by decide +kernel
theorem dX12_undo_186 : decode cX12_undo 186 = .ok (.if_icmp .ge 25, 3) := by decide +kernel
theorem dX12_undo_189 : decode cX12_undo 189 = .ok (.aload_n 0, 1) := by decide +kernel
theorem dX12_undo_190 : decode cX12_undo 190 = .ok (.getfield 190, 3) := by decide +kernel
theorem dX12_undo_193 : decode cX12_undo 193 = .ok (.iload 4, 2) := by decide +kernel
theorem dX12_undo_195 : decode cX12_undo 195 = .ok (.iconst 0, 1) := by decide +kernel
theorem dX12_undo_196 : decode cX12_undo 196 = .ok (.iastore, 1) := by decide +kernel
theorem dX12_undo_197 : decode cX12_undo 197 = .ok (.aload_n 0, 1) := by decide +kernel
theorem dX12_undo_198 : decode cX12_undo 198 = .ok (.getfield 244, 3) := by decide +kernel
theorem dX12_undo_201 : decode cX12_undo 201 = .ok (.iload 4, 2) := by decide +kernel
theorem dX12_undo_203 : decode cX12_undo 203 = .ok (.iconst 0, 1) := by decide +kernel
theorem dX12_undo_204 : decode cX12_undo 204 = .ok (.bastore, 1) := by decide +kernel
theorem dX12_undo_205 : decode cX12_undo 205 = .ok (.iinc 4 1, 3) := by decide +kernel
theorem dX12_undo_208 : decode cX12_undo 208 = .ok (.goto (-28), 3) := by decide +kernel
theorem dX12_undo_211 : decode cX12_undo 211 = .ok (.iconst 0, 1) := by decide +kernel
theorem dX12_undo_212 : decode cX12_undo 212 = .ok (.istore 4, 2) := by decide +kernel
theorem dX12_undo_214 : decode cX12_undo 214 = .ok (.iload 4, 2) := by decide +kernel
theorem dX12_undo_216 : decode cX12_undo 216 = .ok (.bipush 16, 2) := by decide +kernel
theorem dX12_undo_218 : decode cX12_undo 218 = .ok (.if_icmp .ge 17, 3) := by decide +kernel
theorem dX12_undo_221 : decode cX12_undo 221 = .ok (.aload_n 0, 1) := by decide +kernel
theorem dX12_undo_222 : decode cX12_undo 222 = .ok (.getfield 286, 3) := by decide +kernel
theorem dX12_undo_225 : decode cX12_undo 225 = .ok (.iload 4, 2) := by decide +kernel
theorem dX12_undo_227 : decode cX12_undo 227 = .ok (.iconst (-1), 1) := by decide +kernel
theorem dX12_undo_228 : decode cX12_undo 228 = .ok (.iastore, 1) := by decide +kernel
theorem dX12_undo_229 : decode cX12_undo 229 = .ok (.iinc 4 1, 3) := by decide +kernel
theorem dX12_undo_232 : decode cX12_undo 232 = .ok (.goto (-18), 3) := by decide +kernel
theorem dX12_undo_235 : decode cX12_undo 235 = .ok (.aload_n 0, 1) := by decide +kernel
theorem dX12_undo_236 : decode cX12_undo 236 = .ok (.invokevirtual 376, 3) := by decide +kernel
theorem dX12_undo_239 : decode cX12_undo 239 = .ok (.iconst 0, 1) := by decide +kernel
theorem dX12_undo_240 : decode cX12_undo 240 = .ok (.istore 4, 2) := by decide +kernel
theorem dX12_undo_242 : decode cX12_undo 242 = .ok (.iload 4, 2) := by decide +kernel
theorem dX12_undo_244 : decode cX12_undo 244 = .ok (.bipush 64, 2) := by decide +kernel
theorem dX12_undo_246 : decode cX12_undo 246 = .ok (.if_icmp .ge 37, 3) := by decide +kernel
theorem dX12_undo_249 : decode cX12_undo 249 = .ok (.aload_n 0, 1) := by decide +kernel
theorem dX12_undo_250 : decode cX12_undo 250 = .ok (.iload 4, 2) := by decide +kernel
theorem dX12_undo_252 : decode cX12_undo 252 = .ok (.iconst 0, 1) := by decide +kernel
theorem dX12_undo_253 : decode cX12_undo 253 = .ok (.invokevirtual 247, 3) := by decide +kernel
theorem dX12_undo_256 : decode cX12_undo 256 = .ok (.iconst 1, 1) := by decide +kernel
theorem dX12_undo_257 : decode cX12_undo 257 = .ok (.if_icmp .eq 14, 3) := by decide +kernel
theorem dX12_undo_260 : decode cX12_undo 260 = .ok (.aload_n 0, 1) := by decide +kernel
theorem dX12_undo_261 : decode cX12_undo 261 = .ok (.iload 4, 2) := by decide +kernel
theorem dX12_undo_263 : decode cX12_undo 263 = .ok (.iconst 0, 1) := by decide +kernel
theorem dX12_undo_264 : decode cX12_undo 264 = .ok (.invokevirtual 247, 3) := by decide +kernel
theorem dX12_undo_267 : decode cX12_undo 267 = .ok (.iconst 3, 1) := by decide +kernel
theorem dX12_undo_268 : decode cX12_undo 268 = .ok (.if_icmp .ne 9, 3) := by decide +kernel
theorem dX12_undo_271 : decode cX12_undo 271 = .ok (.aload_n 0, 1) := by decide +kernel
theorem dX12_undo_272 : decode cX12_undo 272 = .ok (.iload 4, 2) := by decide +kernel
theorem dX12_undo_274 : decode cX12_undo 274 = .ok (.invokevirtual 379, 3) := by decide +kernel
theorem dX12_undo_277 : decode cX12_undo 277 = .ok (.iinc 4 1, 3) := by decide +kernel
theorem dX12_undo_280 : decode cX12_undo 280 = .ok (.goto (-38), 3) := by decide +kernel
theorem dX12_undo_283 : decode cX12_undo 283 = .ok (.return_, 1) := by decide +kernel
def J_X12_undo_277 (b0 fu : Nat) (rc242 : Nat → Int32 → tM → Option ((Unit) × tM)) (x0 : Nat) (x4 : Int32) (σ : tM) : Option ((Unit) × tM) := ltb ((x4) + Int32.ofInt 1) (fun y34 => rc242 (x0) (y34) (σ))
def J_X12_undo_271 (b0 fu : Nat) (rc242 : Nat → Int32 → tM → Option ((Unit) × tM)) (x0 : Nat) (x4 : Int32) (σ : tM) : Option ((Unit) × tM) := ckO b0 (σ) (x0) 11 (cll (m_X12_maybeFree b0 fu (x0) (x4) (σ)) (fun v31 ρ32 => J_X12_undo_277 b0 fu rc242  (x0) (x4) (ρ32)))
def L_X12_undo_242 (b0 fu : Nat)  : Nat → Nat → Int32 → tM → Option ((Unit) × tM)
  | 0, _, _, _ => none
  | n + 1, x0, x4, σ => ltb (L_X12_undo_242 b0 fu  n) (fun rc242 => if (64) ≤ (x4) then some ((), σ) else ckO b0 (σ) (x0) 11 (cll (m_X12_node b0 fu (x0) (x4) (0) (σ)) (fun v25 ρ26 => if (v25) = (1) then J_X12_undo_271 b0 fu rc242  (x0) (x4) (ρ26) else ckO b0 (ρ26) (x0) 11 (cll (m_X12_node b0 fu (x0) (x4) (0) (ρ26)) (fun v37 ρ38 => if (v37) = (3) then J_X12_undo_271 b0 fu rc242  (x0) (x4) (ρ38) else J_X12_undo_277 b0 fu rc242  (x0) (x4) (ρ38))))))
def L_X12_undo_214 (b0 fu : Nat)  : Nat → Nat → Int32 → tM → Option ((Unit) × tM)
  | 0, _, _, _ => none
  | n + 1, x0, x4, σ => ltb (L_X12_undo_214 b0 fu  n) (fun rc214 => if (16) ≤ (x4) then ckO b0 (σ) (x0) 11 (cll (m_X12_bytesAgain b0 fu (x0) (σ)) (fun v19 ρ20 => L_X12_undo_242 b0 fu  (fu) (x0) (0) (ρ20))) else ckO b0 (σ) (x0) 11 (osm (tA (σ) (x0) 58) (fun a43 => ckR b0 (σ) (a43) 0 (fun n47 => ckI (x4) (n47) (ltb ((x4) + Int32.ofInt 1) (fun y49 => rc214 (x0) (y49) (sI (σ) (a43) ((x4).toNatClampNeg) ((-1)))))))))
def L_X12_undo_180 (b0 fu : Nat)  : Nat → Nat → Int32 → tM → Option ((Unit) × tM)
  | 0, _, _, _ => none
  | n + 1, x0, x4, σ => ltb (L_X12_undo_180 b0 fu  n) (fun rc180 => ckO b0 (σ) (x0) 11 (if (tI (σ) (x0) 7) ≤ (x4) then L_X12_undo_214 b0 fu  (fu) (x0) (0) (σ) else osm (tA (σ) (x0) 24) (fun a50 => ckR b0 (σ) (a50) 0 (fun n54 => ckI (x4) (n54) (osm (tA (sI (σ) (a50) ((x4).toNatClampNeg) (0)) (x0) 23) (fun a56 => ckR b0 (sI (σ) (a50) ((x4).toNatClampNeg) (0)) (a56) 2 (fun n60 => ckI (x4) (n60) (ltb ((x4) + Int32.ofInt 1) (fun y62 => rc180 (x0) (y62) (sI (sI (σ) (a50) ((x4).toNatClampNeg) (0)) (a56) ((x4).toNatClampNeg) (vp_nar .boolean ((0 : Int32)))))))))))))
def L_X12_undo_74 (b0 fu : Nat)  : Nat → Nat → Int32 → Int32 → Int32 → tM → Option ((Unit) × tM)
  | 0, _, _, _, _, _ => none
  | n + 1, x0, x1, x2, x3, σ => ltb (L_X12_undo_74 b0 fu  n) (fun rc74 => ckO b0 (σ) (x0) 11 (if (tI (σ) (x0) 4) ≤ (x3) then cll (m_X12_emptyGroup b0 fu (x0) (sI (sI (sI (sI (sI (sI (sI (sI (sI (sI (sI (σ) (x0) 4 (0)) (x0) 35 (x1)) (x0) 36 (0)) (x0) 45 (0)) (x0) 46 (x2)) (x0) 33 (x2)) (x0) 28 (x1)) (x0) 29 (x1)) (x0) 30 (x1)) (x0) 31 (x1)) (x0) 32 (x1))) (fun v10 ρ11 => L_X12_undo_180 b0 fu  (fu) (x0) (0) (ρ11)) else osm (tA (sI (σ) (x0) 4 ((tI (σ) (x0) 4) - (1))) (x0) 1) (fun a63 => osm (tA (sI (σ) (x0) 4 ((tI (σ) (x0) 4) - (1))) (x0) 2) (fun a65 => ckR b0 (sI (σ) (x0) 4 ((tI (σ) (x0) 4) - (1))) (a65) 0 (fun n69 => ckI (tI (sI (σ) (x0) 4 ((tI (σ) (x0) 4) - (1))) (x0) 4) (n69) (osm (tA (sI (σ) (x0) 4 ((tI (σ) (x0) 4) - (1))) (x0) 3) (fun a71 => ckR b0 (sI (σ) (x0) 4 ((tI (σ) (x0) 4) - (1))) (a71) 0 (fun n75 => ckI (tI (sI (σ) (x0) 4 ((tI (σ) (x0) 4) - (1))) (x0) 4) (n75) (ckR b0 (sI (σ) (x0) 4 ((tI (σ) (x0) 4) - (1))) (a63) 0 (fun n79 => ckI (tI (sI (σ) (x0) 4 ((tI (σ) (x0) 4) - (1))) (a65) ((tI (sI (σ) (x0) 4 ((tI (σ) (x0) 4) - (1))) (x0) 4).toNatClampNeg)) (n79) (ltb (sI (sI (σ) (x0) 4 ((tI (σ) (x0) 4) - (1))) (a63) ((tI (sI (σ) (x0) 4 ((tI (σ) (x0) 4) - (1))) (a65) ((tI (sI (σ) (x0) 4 ((tI (σ) (x0) 4) - (1))) (x0) 4).toNatClampNeg)).toNatClampNeg) (tI (sI (σ) (x0) 4 ((tI (σ) (x0) 4) - (1))) (a71) ((tI (sI (σ) (x0) 4 ((tI (σ) (x0) 4) - (1))) (x0) 4).toNatClampNeg))) (fun ρ81 => rc74 (x0) (x1) (x2) (x3) (ρ81)))))))))))))
def J_X12_undo_73 (b0 fu : Nat)  (x0 : Nat) (x1 : Int32) (x2 : Int32) (s0 : Int32) (σ : tM) : Option ((Unit) × tM) := L_X12_undo_74 b0 fu  (fu) (x0) (x1) (x2) (s0) (σ)
def J_X12_undo_47 (b0 fu : Nat)  (x0 : Nat) (x1 : Int32) (s0 : Int32) (σ : tM) : Option ((Unit) × tM) := ckO b0 (σ) (x0) 11 (if (x1) ≤ (tI (σ) (x0) 35) then J_X12_undo_73 b0 fu   (x0) (x1) (s0) (0) (σ) else osm (tA (σ) (x0) 40) (fun a90 => ckR b0 (σ) (a90) 0 (fun n94 => ckI (((x1) - (tI (σ) (x0) 35)) - (1)) (n94) (J_X12_undo_73 b0 fu   (x0) (x1) (s0) (tI (σ) (a90) ((((x1) - (tI (σ) (x0) 35)) - (1)).toNatClampNeg)) (σ)))))
def m_X12_undo (b0 fu : Nat) (a0 : Nat) (p0 : Int32) (σ : tM) : Option ((Unit) × tM) := grw σ (ckO b0 (σ) (a0) 11 (if (p0) ≤ (tI (σ) (a0) 35) then J_X12_undo_47 b0 fu   (a0) (p0) (tI (σ) (a0) 46) (σ) else osm (tA (σ) (a0) 38) (fun a96 => ckR b0 (σ) (a96) 0 (fun n100 => ckI (((p0) - (tI (σ) (a0) 35)) - (1)) (n100) (osm (tA (σ) (a0) 39) (fun a102 => ckR b0 (σ) (a102) 0 (fun n106 => ckI (((p0) - (tI (σ) (a0) 35)) - (1)) (n106) (ckD (tI (σ) (a0) 6) (J_X12_undo_47 b0 fu   (a0) (p0) (((tI (σ) (a96) ((((p0) - (tI (σ) (a0) 35)) - (1)).toNatClampNeg)) + (tI (σ) (a102) ((((p0) - (tI (σ) (a0) 35)) - (1)).toNatClampNeg))) - ((tI (σ) (a96) ((((p0) - (tI (σ) (a0) 35)) - (1)).toNatClampNeg)) + (tI (σ) (a102) ((((p0) - (tI (σ) (a0) 35)) - (1)).toNatClampNeg))) / (tI (σ) (a0) 6) * (tI (σ) (a0) 6)) (σ))))))))))
set_option maxRecDepth 100000 in
set_option maxHeartbeats 1000000 in
theorem j_X12_undo_277 {p : Program} {l : Launch} {e : Env} {s : State} {m : MethodId} {args : Array Value} {below : List Frame} {meth : Method} {c : Code} {D : va_G} {aC : Nat → ClassId} {b0 fu : Nat} {σ0 τ : tM} {v : Unit} {rc242 : Nat → Int32 → tM → Option ((Unit) × tM)} (C : tCx p l s m args meth c yX12_undo.cls cX12_undo 5 none D aC b0 σ0) (htab : ∀ x ∈ c.exceptionTable.toList, False) (hin : meth.name = yX12_undo.name) (hrc242 : ∀ (x0 : Nat) (x4 : Int32) (ρ : tM), rc242 x0 x4 ρ = some (v, τ) → tX p l e s m args below meth c 5 7 166 D aC b0 σ0 (.inl none) τ 242 [(0, .ref (x0)), (4, .int (x4))] [] ρ) {x0 : Nat} {x4 : Int32} {σ : tM} (hm : J_X12_undo_277 b0 fu rc242 x0 x4 σ = some (v, τ)) : tX p l e s m args below meth c 5 7 166 D aC b0 σ0 (.inl none) τ 277 [(0, .ref (x0)), (4, .int (x4))] [] σ := by
  unfold J_X12_undo_277 at hm
  obtain ⟨y34, hy34⟩ : ∃ z : Int32, z = (x4) + Int32.ofInt 1 := ⟨_, rfl⟩
  replace hm := ltb_e hm hy34
  refine zx_iinc C [(4, .int (y34)), (0, .ref (x0))] dX12_undo_277 1 rfl hy34.symm (by decide) rfl ?_
  refine zx_goto C 242 dX12_undo_280 (by decide) ?_
  exact zx_lv [1, 0] [(0, .ref (x0)), (4, .int (y34))] rfl (hrc242 _ _ _ hm)
set_option maxRecDepth 100000 in
set_option maxHeartbeats 1000000 in
theorem j_X12_undo_271 {p : Program} {l : Launch} {e : Env} {s : State} {m : MethodId} {args : Array Value} {below : List Frame} {meth : Method} {c : Code} {D : va_G} {aC : Nat → ClassId} {b0 fu : Nat} {σ0 τ : tM} {v : Unit} {rc242 : Nat → Int32 → tM → Option ((Unit) × tM)} (C : tCx p l s m args meth c yX12_undo.cls cX12_undo 5 none D aC b0 σ0) (htab : ∀ x ∈ c.exceptionTable.toList, False) (hin : meth.name = yX12_undo.name) (hrc242 : ∀ (x0 : Nat) (x4 : Int32) (ρ : tM), rc242 x0 x4 ρ = some (v, τ) → tX p l e s m args below meth c 5 7 166 D aC b0 σ0 (.inl none) τ 242 [(0, .ref (x0)), (4, .int (x4))] [] ρ) {x0 : Nat} {x4 : Int32} {σ : tM} (hm : J_X12_undo_271 b0 fu rc242 x0 x4 σ = some (v, τ)) : tX p l e s m args below meth c 5 7 166 D aC b0 σ0 (.inl none) τ 271 [(0, .ref (x0)), (4, .int (x4))] [] σ := by
  unfold J_X12_undo_271 at hm
  refine zx_aload_n C dX12_undo_271 0 rfl ?_
  refine zx_iload C dX12_undo_272 1 rfl ?_
  obtain ⟨k29, i30, hm⟩ := ckO_e hm
  obtain ⟨v31, ρ32, h33, hm⟩ := cll_e hm
  refine zx_callV (σ := σ) C [.int (x4)] tC_11 k29 i30 Y_X12_maybeFree W_8_183 W_8_185 Wp_111 (c_X12_maybeFree h33) (by decide) (by decide) rfl (Nat.le_of_ble_eq_true rfl) dX12_undo_274 rfl ?_
  exact zx_lv [0, 1] [(0, .ref (x0)), (4, .int (x4))] rfl (j_X12_undo_277 C htab hin hrc242   hm)
set_option maxRecDepth 100000 in
set_option maxHeartbeats 1000000 in
theorem l_X12_undo_242 {p : Program} {l : Launch} {e : Env} {s : State} {m : MethodId} {args : Array Value} {below : List Frame} {meth : Method} {c : Code} {D : va_G} {aC : Nat → ClassId} {b0 fu : Nat} {σ0 τ : tM} {v : Unit}  (C : tCx p l s m args meth c yX12_undo.cls cX12_undo 5 none D aC b0 σ0) (htab : ∀ x ∈ c.exceptionTable.toList, False) (hin : meth.name = yX12_undo.name)  : ∀ (n : Nat) (x0 : Nat) (x4 : Int32) (σ : tM), L_X12_undo_242 b0 fu  n x0 x4 σ = some (v, τ) → tX p l e s m args below meth c 5 7 166 D aC b0 σ0 (.inl none) τ 242 [(0, .ref (x0)), (4, .int (x4))] [] σ := by
  intro n
  induction n with
  | zero => intro x0 x4 σ hm; unfold L_X12_undo_242 at hm; cases hm
  | succ n ih =>
    intro x0 x4 σ hm
    unfold L_X12_undo_242 at hm
    obtain ⟨rc242, hrc⟩ : ∃ z, z = L_X12_undo_242 b0 fu  n := ⟨_, rfl⟩
    replace hm := ltb_e hm hrc
    rw [← hrc] at ih
    have hrc242 := ih
    clear ih hrc
    refine zx_iload C dX12_undo_242 1 rfl ?_
    refine zx_bipush (v := 64) C dX12_undo_244 (by decide) ?_
    refine zx_icmp_ge C 283 dX12_undo_246 (by decide) (fun c22 => ?_) (fun c22 => ?_)
    · replace hm := ip_e hm c22
      obtain ⟨rfl, rfl⟩ := ret_e hm
      exact zx_vret C rfl rfl rfl dX12_undo_283
    · replace hm := in_e hm c22
      refine zx_aload_n C dX12_undo_249 0 rfl ?_
      refine zx_iload C dX12_undo_250 1 rfl ?_
      refine zx_iconst (v := 0) C dX12_undo_252 (by decide) ?_
      obtain ⟨k23, i24, hm⟩ := ckO_e hm
      obtain ⟨v25, ρ26, h27, hm⟩ := cll_e hm
      refine zx_callV (σ := σ) C [.int (x4), .int (0)] tC_11 k23 i24 Y_X12_node W_8_40 W_8_42 Wp_80 (c_X12_node h27) (by decide) (by decide) rfl (Nat.le_of_ble_eq_true rfl) dX12_undo_253 rfl ?_
      refine zx_iconst (v := 1) C dX12_undo_256 (by decide) ?_
      refine zx_icmp_eq C 271 dX12_undo_257 (by decide) (fun c28 => ?_) (fun c28 => ?_)
      · replace hm := ip_e hm c28
        exact zx_lv [0, 1] [(0, .ref (x0)), (4, .int (x4))] rfl (j_X12_undo_271 C htab hin hrc242   hm)
      · replace hm := in_e hm c28
        refine zx_aload_n C dX12_undo_260 0 rfl ?_
        refine zx_iload C dX12_undo_261 1 rfl ?_
        refine zx_iconst (v := 0) C dX12_undo_263 (by decide) ?_
        obtain ⟨k35, i36, hm⟩ := ckO_e hm
        obtain ⟨v37, ρ38, h39, hm⟩ := cll_e hm
        refine zx_callV (σ := ρ26) C [.int (x4), .int (0)] tC_11 k35 i36 Y_X12_node W_8_40 W_8_42 Wp_80 (c_X12_node h39) (by decide) (by decide) rfl (Nat.le_of_ble_eq_true rfl) dX12_undo_264 rfl ?_
        refine zx_iconst (v := 3) C dX12_undo_267 (by decide) ?_
        refine zx_icmp_ne C 277 dX12_undo_268 (by decide) (fun c40 => ?_) (fun c40 => ?_)
        · replace hm := in_e hm c40
          exact zx_lv [0, 1] [(0, .ref (x0)), (4, .int (x4))] rfl (j_X12_undo_277 C htab hin hrc242   hm)
        · replace hm := ip_e hm c40
          exact zx_lv [0, 1] [(0, .ref (x0)), (4, .int (x4))] rfl (j_X12_undo_271 C htab hin hrc242   hm)
set_option maxRecDepth 100000 in
set_option maxHeartbeats 1000000 in
theorem l_X12_undo_214 {p : Program} {l : Launch} {e : Env} {s : State} {m : MethodId} {args : Array Value} {below : List Frame} {meth : Method} {c : Code} {D : va_G} {aC : Nat → ClassId} {b0 fu : Nat} {σ0 τ : tM} {v : Unit}  (C : tCx p l s m args meth c yX12_undo.cls cX12_undo 5 none D aC b0 σ0) (htab : ∀ x ∈ c.exceptionTable.toList, False) (hin : meth.name = yX12_undo.name)  : ∀ (n : Nat) (x0 : Nat) (x4 : Int32) (σ : tM), L_X12_undo_214 b0 fu  n x0 x4 σ = some (v, τ) → tX p l e s m args below meth c 5 7 166 D aC b0 σ0 (.inl none) τ 214 [(0, .ref (x0)), (4, .int (x4))] [] σ := by
  intro n
  induction n with
  | zero => intro x0 x4 σ hm; unfold L_X12_undo_214 at hm; cases hm
  | succ n ih =>
    intro x0 x4 σ hm
    unfold L_X12_undo_214 at hm
    obtain ⟨rc214, hrc⟩ : ∃ z, z = L_X12_undo_214 b0 fu  n := ⟨_, rfl⟩
    replace hm := ltb_e hm hrc
    rw [← hrc] at ih
    have hrc214 := ih
    clear ih hrc
    refine zx_iload C dX12_undo_214 1 rfl ?_
    refine zx_bipush (v := 16) C dX12_undo_216 (by decide) ?_
    refine zx_icmp_ge C 235 dX12_undo_218 (by decide) (fun c16 => ?_) (fun c16 => ?_)
    · replace hm := ip_e hm c16
      refine zx_aload_n C dX12_undo_235 0 rfl ?_
      obtain ⟨k17, i18, hm⟩ := ckO_e hm
      obtain ⟨v19, ρ20, h21, hm⟩ := cll_e hm
      refine zx_callV (σ := σ) C [] tC_11 k17 i18 Y_X12_bytesAgain W_9_110 W_9_112 Wp_125 (c_X12_bytesAgain h21) (by decide) (by decide) rfl (Nat.le_of_ble_eq_true rfl) dX12_undo_236 rfl ?_
      refine zx_iconst (v := 0) C dX12_undo_239 (by decide) ?_
      refine zx_istore C [(4, .int (0)), (0, .ref (x0))] dX12_undo_240 (by decide) rfl ?_
      exact zx_lv [1, 0] [(0, .ref (x0)), (4, .int (0))] rfl (l_X12_undo_242 C htab hin  _ _ _ _ hm)
    · replace hm := in_e hm c16
      refine zx_aload_n C dX12_undo_221 0 rfl ?_
      obtain ⟨k41, i42, hm⟩ := ckO_e hm
      obtain ⟨a43, h44, hm⟩ := osm_e hm
      refine zx_get (j := 58) C tC_11 k41 i42 ⟨by decide, Or.inl W_7_37⟩ dX12_undo_222 (.ref a43) (rf_s h44) ?_
      refine zx_iload C dX12_undo_225 1 rfl ?_
      refine zx_iconst (v := (-1)) C dX12_undo_227 (by decide) ?_
      obtain ⟨n47, k45, i46, hm⟩ := ckR_e hm
      obtain ⟨h48, hm⟩ := ckI_e hm
      refine zx_iast C k45 i46 h48 dX12_undo_228 ?_
      obtain ⟨y49, hy49⟩ : ∃ z : Int32, z = (x4) + Int32.ofInt 1 := ⟨_, rfl⟩
      replace hm := ltb_e hm hy49
      refine zx_iinc C [(4, .int (y49)), (0, .ref (x0))] dX12_undo_229 1 rfl hy49.symm (by decide) rfl ?_
      refine zx_goto C 214 dX12_undo_232 (by decide) ?_
      exact zx_lv [1, 0] [(0, .ref (x0)), (4, .int (y49))] rfl (hrc214 _ _ _ hm)
set_option maxRecDepth 100000 in
set_option maxHeartbeats 1000000 in
theorem l_X12_undo_180 {p : Program} {l : Launch} {e : Env} {s : State} {m : MethodId} {args : Array Value} {below : List Frame} {meth : Method} {c : Code} {D : va_G} {aC : Nat → ClassId} {b0 fu : Nat} {σ0 τ : tM} {v : Unit}  (C : tCx p l s m args meth c yX12_undo.cls cX12_undo 5 none D aC b0 σ0) (htab : ∀ x ∈ c.exceptionTable.toList, False) (hin : meth.name = yX12_undo.name)  : ∀ (n : Nat) (x0 : Nat) (x4 : Int32) (σ : tM), L_X12_undo_180 b0 fu  n x0 x4 σ = some (v, τ) → tX p l e s m args below meth c 5 7 166 D aC b0 σ0 (.inl none) τ 180 [(0, .ref (x0)), (4, .int (x4))] [] σ := by
  intro n
  induction n with
  | zero => intro x0 x4 σ hm; unfold L_X12_undo_180 at hm; cases hm
  | succ n ih =>
    intro x0 x4 σ hm
    unfold L_X12_undo_180 at hm
    obtain ⟨rc180, hrc⟩ : ∃ z, z = L_X12_undo_180 b0 fu  n := ⟨_, rfl⟩
    replace hm := ltb_e hm hrc
    rw [← hrc] at ih
    have hrc180 := ih
    clear ih hrc
    refine zx_iload C dX12_undo_180 1 rfl ?_
    refine zx_aload_n C dX12_undo_182 0 rfl ?_
    obtain ⟨k13, i14, hm⟩ := ckO_e hm
    refine zx_get (j := 7) C tC_11 k13 i14 ⟨by decide, Or.inl W_6_226⟩ dX12_undo_183 (.int (tI (σ) (x0) 7)) rfl ?_
    refine zx_icmp_ge C 211 dX12_undo_186 (by decide) (fun c15 => ?_) (fun c15 => ?_)
    · replace hm := ip_e hm c15
      refine zx_iconst (v := 0) C dX12_undo_211 (by decide) ?_
      refine zx_istore C [(4, .int (0)), (0, .ref (x0))] dX12_undo_212 (by decide) rfl ?_
      exact zx_lv [1, 0] [(0, .ref (x0)), (4, .int (0))] rfl (l_X12_undo_214 C htab hin  _ _ _ _ hm)
    · replace hm := in_e hm c15
      refine zx_aload_n C dX12_undo_189 0 rfl ?_
      obtain ⟨a50, h51, hm⟩ := osm_e hm
      refine zx_get (j := 24) C tC_11 k13 i14 ⟨by decide, Or.inl W_7_3⟩ dX12_undo_190 (.ref a50) (rf_s h51) ?_
      refine zx_iload C dX12_undo_193 1 rfl ?_
      refine zx_iconst (v := 0) C dX12_undo_195 (by decide) ?_
      obtain ⟨n54, k52, i53, hm⟩ := ckR_e hm
      obtain ⟨h55, hm⟩ := ckI_e hm
      refine zx_iast C k52 i53 h55 dX12_undo_196 ?_
      refine zx_aload_n C dX12_undo_197 0 rfl ?_
      obtain ⟨a56, h57, hm⟩ := osm_e hm
      refine zx_get (j := 23) C tC_11 k13 i14 ⟨by decide, Or.inl W_7_2⟩ dX12_undo_198 (.ref a56) (rf_s h57) ?_
      refine zx_iload C dX12_undo_201 1 rfl ?_
      refine zx_iconst (v := 0) C dX12_undo_203 (by decide) ?_
      obtain ⟨n60, k58, i59, hm⟩ := ckR_e hm
      obtain ⟨h61, hm⟩ := ckI_e hm
      refine zx_zast C k58 i59 h61 dX12_undo_204 ?_
      obtain ⟨y62, hy62⟩ : ∃ z : Int32, z = (x4) + Int32.ofInt 1 := ⟨_, rfl⟩
      replace hm := ltb_e hm hy62
      refine zx_iinc C [(4, .int (y62)), (0, .ref (x0))] dX12_undo_205 1 rfl hy62.symm (by decide) rfl ?_
      refine zx_goto C 180 dX12_undo_208 (by decide) ?_
      exact zx_lv [1, 0] [(0, .ref (x0)), (4, .int (y62))] rfl (hrc180 _ _ _ hm)
set_option maxRecDepth 100000 in
set_option maxHeartbeats 1000000 in
theorem l_X12_undo_74 {p : Program} {l : Launch} {e : Env} {s : State} {m : MethodId} {args : Array Value} {below : List Frame} {meth : Method} {c : Code} {D : va_G} {aC : Nat → ClassId} {b0 fu : Nat} {σ0 τ : tM} {v : Unit}  (C : tCx p l s m args meth c yX12_undo.cls cX12_undo 5 none D aC b0 σ0) (htab : ∀ x ∈ c.exceptionTable.toList, False) (hin : meth.name = yX12_undo.name)  : ∀ (n : Nat) (x0 : Nat) (x1 : Int32) (x2 : Int32) (x3 : Int32) (σ : tM), L_X12_undo_74 b0 fu  n x0 x1 x2 x3 σ = some (v, τ) → tX p l e s m args below meth c 5 7 166 D aC b0 σ0 (.inl none) τ 74 [(0, .ref (x0)), (1, .int (x1)), (2, .int (x2)), (3, .int (x3))] [] σ := by
  intro n
  induction n with
  | zero => intro x0 x1 x2 x3 σ hm; unfold L_X12_undo_74 at hm; cases hm
  | succ n ih =>
    intro x0 x1 x2 x3 σ hm
    unfold L_X12_undo_74 at hm
    obtain ⟨rc74, hrc⟩ : ∃ z, z = L_X12_undo_74 b0 fu  n := ⟨_, rfl⟩
    replace hm := ltb_e hm hrc
    rw [← hrc] at ih
    have hrc74 := ih
    clear ih hrc
    refine zx_aload_n C dX12_undo_74 0 rfl ?_
    obtain ⟨k7, i8, hm⟩ := ckO_e hm
    refine zx_get (j := 4) C tC_11 k7 i8 ⟨by decide, Or.inl W_6_224⟩ dX12_undo_75 (.int (tI (σ) (x0) 4)) rfl ?_
    refine zx_iload_n C dX12_undo_78 3 rfl ?_
    refine zx_icmp_le C 118 dX12_undo_79 (by decide) (fun c9 => ?_) (fun c9 => ?_)
    · replace hm := ip_e hm c9
      refine zx_aload_n C dX12_undo_118 0 rfl ?_
      refine zx_iconst (v := 0) C dX12_undo_119 (by decide) ?_
      refine zx_put (j := 4) (ρ := sI (σ) (x0) 4 (0)) C tC_11 k7 i8 ⟨by decide, Or.inl W_6_224⟩ rfl rfl rfl (sI_ok (fun _ => rfl)) dX12_undo_120 ?_
      refine zx_aload_n C dX12_undo_123 0 rfl ?_
      refine zx_iload_n C dX12_undo_124 1 rfl ?_
      refine zx_put (j := 35) (ρ := sI (sI (σ) (x0) 4 (0)) (x0) 35 (x1)) C tC_11 k7 i8 ⟨by decide, Or.inl W_7_14⟩ rfl rfl rfl (sI_ok (fun _ => rfl)) dX12_undo_125 ?_
      refine zx_aload_n C dX12_undo_128 0 rfl ?_
      refine zx_iconst (v := 0) C dX12_undo_129 (by decide) ?_
      refine zx_put (j := 36) (ρ := sI (sI (sI (σ) (x0) 4 (0)) (x0) 35 (x1)) (x0) 36 (0)) C tC_11 k7 i8 ⟨by decide, Or.inl W_7_15⟩ rfl rfl rfl (sI_ok (fun _ => rfl)) dX12_undo_130 ?_
      refine zx_aload_n C dX12_undo_133 0 rfl ?_
      refine zx_iconst (v := 0) C dX12_undo_134 (by decide) ?_
      refine zx_put (j := 45) (ρ := sI (sI (sI (sI (σ) (x0) 4 (0)) (x0) 35 (x1)) (x0) 36 (0)) (x0) 45 (0)) C tC_11 k7 i8 ⟨by decide, Or.inl W_7_24⟩ rfl rfl rfl (sI_ok (fun _ => rfl)) dX12_undo_135 ?_
      refine zx_aload_n C dX12_undo_138 0 rfl ?_
      refine zx_iload_n C dX12_undo_139 2 rfl ?_
      refine zx_put (j := 46) (ρ := sI (sI (sI (sI (sI (σ) (x0) 4 (0)) (x0) 35 (x1)) (x0) 36 (0)) (x0) 45 (0)) (x0) 46 (x2)) C tC_11 k7 i8 ⟨by decide, Or.inl W_7_25⟩ rfl rfl rfl (sI_ok (fun _ => rfl)) dX12_undo_140 ?_
      refine zx_aload_n C dX12_undo_143 0 rfl ?_
      refine zx_iload_n C dX12_undo_144 2 rfl ?_
      refine zx_put (j := 33) (ρ := sI (sI (sI (sI (sI (sI (σ) (x0) 4 (0)) (x0) 35 (x1)) (x0) 36 (0)) (x0) 45 (0)) (x0) 46 (x2)) (x0) 33 (x2)) C tC_11 k7 i8 ⟨by decide, Or.inl W_7_12⟩ rfl rfl rfl (sI_ok (fun _ => rfl)) dX12_undo_145 ?_
      refine zx_aload_n C dX12_undo_148 0 rfl ?_
      refine zx_iload_n C dX12_undo_149 1 rfl ?_
      refine zx_put (j := 28) (ρ := sI (sI (sI (sI (sI (sI (sI (σ) (x0) 4 (0)) (x0) 35 (x1)) (x0) 36 (0)) (x0) 45 (0)) (x0) 46 (x2)) (x0) 33 (x2)) (x0) 28 (x1)) C tC_11 k7 i8 ⟨by decide, Or.inl W_7_7⟩ rfl rfl rfl (sI_ok (fun _ => rfl)) dX12_undo_150 ?_
      refine zx_aload_n C dX12_undo_153 0 rfl ?_
      refine zx_iload_n C dX12_undo_154 1 rfl ?_
      refine zx_put (j := 29) (ρ := sI (sI (sI (sI (sI (sI (sI (sI (σ) (x0) 4 (0)) (x0) 35 (x1)) (x0) 36 (0)) (x0) 45 (0)) (x0) 46 (x2)) (x0) 33 (x2)) (x0) 28 (x1)) (x0) 29 (x1)) C tC_11 k7 i8 ⟨by decide, Or.inl W_7_8⟩ rfl rfl rfl (sI_ok (fun _ => rfl)) dX12_undo_155 ?_
      refine zx_aload_n C dX12_undo_158 0 rfl ?_
      refine zx_iload_n C dX12_undo_159 1 rfl ?_
      refine zx_put (j := 30) (ρ := sI (sI (sI (sI (sI (sI (sI (sI (sI (σ) (x0) 4 (0)) (x0) 35 (x1)) (x0) 36 (0)) (x0) 45 (0)) (x0) 46 (x2)) (x0) 33 (x2)) (x0) 28 (x1)) (x0) 29 (x1)) (x0) 30 (x1)) C tC_11 k7 i8 ⟨by decide, Or.inl W_7_9⟩ rfl rfl rfl (sI_ok (fun _ => rfl)) dX12_undo_160 ?_
      refine zx_aload_n C dX12_undo_163 0 rfl ?_
      refine zx_iload_n C dX12_undo_164 1 rfl ?_
      refine zx_put (j := 31) (ρ := sI (sI (sI (sI (sI (sI (sI (sI (sI (sI (σ) (x0) 4 (0)) (x0) 35 (x1)) (x0) 36 (0)) (x0) 45 (0)) (x0) 46 (x2)) (x0) 33 (x2)) (x0) 28 (x1)) (x0) 29 (x1)) (x0) 30 (x1)) (x0) 31 (x1)) C tC_11 k7 i8 ⟨by decide, Or.inl W_7_10⟩ rfl rfl rfl (sI_ok (fun _ => rfl)) dX12_undo_165 ?_
      refine zx_aload_n C dX12_undo_168 0 rfl ?_
      refine zx_iload_n C dX12_undo_169 1 rfl ?_
      refine zx_put (j := 32) (ρ := sI (sI (sI (sI (sI (sI (sI (sI (sI (sI (sI (σ) (x0) 4 (0)) (x0) 35 (x1)) (x0) 36 (0)) (x0) 45 (0)) (x0) 46 (x2)) (x0) 33 (x2)) (x0) 28 (x1)) (x0) 29 (x1)) (x0) 30 (x1)) (x0) 31 (x1)) (x0) 32 (x1)) C tC_11 k7 i8 ⟨by decide, Or.inl W_7_11⟩ rfl rfl rfl (sI_ok (fun _ => rfl)) dX12_undo_170 ?_
      refine zx_aload_n C dX12_undo_173 0 rfl ?_
      obtain ⟨v10, ρ11, h12, hm⟩ := cll_e hm
      refine zx_callV (σ := sI (sI (sI (sI (sI (sI (sI (sI (sI (sI (sI (σ) (x0) 4 (0)) (x0) 35 (x1)) (x0) 36 (0)) (x0) 45 (0)) (x0) 46 (x2)) (x0) 33 (x2)) (x0) 28 (x1)) (x0) 29 (x1)) (x0) 30 (x1)) (x0) 31 (x1)) (x0) 32 (x1)) C [] tC_11 k7 i8 Y_X12_emptyGroup W_6_212 W_6_214 Wp_54 (c_X12_emptyGroup h12) (by decide) (by decide) rfl (Nat.le_of_ble_eq_true rfl) dX12_undo_174 rfl ?_
      refine zx_iconst (v := 0) C dX12_undo_177 (by decide) ?_
      refine zx_istore C [(4, .int (0)), (0, .ref (x0)), (1, .int (x1)), (2, .int (x2)), (3, .int (x3))] dX12_undo_178 (by decide) rfl ?_
      exact zx_lv [1, 0] [(0, .ref (x0)), (4, .int (0))] rfl (l_X12_undo_180 C htab hin  _ _ _ _ hm)
    · replace hm := in_e hm c9
      refine zx_aload_n C dX12_undo_82 0 rfl ?_
      refine zx_dup C dX12_undo_83 rfl ?_
      refine zx_get (j := 4) C tC_11 k7 i8 ⟨by decide, Or.inl W_6_224⟩ dX12_undo_84 (.int (tI (σ) (x0) 4)) rfl ?_
      refine zx_iconst (v := 1) C dX12_undo_87 (by decide) ?_
      refine zx_isub C dX12_undo_88 ?_
      refine zx_put (j := 4) (ρ := sI (σ) (x0) 4 ((tI (σ) (x0) 4) - (1))) C tC_11 k7 i8 ⟨by decide, Or.inl W_6_224⟩ rfl rfl rfl (sI_ok (fun _ => rfl)) dX12_undo_89 ?_
      refine zx_aload_n C dX12_undo_92 0 rfl ?_
      obtain ⟨a63, h64, hm⟩ := osm_e hm
      refine zx_get (j := 1) C tC_11 k7 i8 ⟨by decide, Or.inl W_6_221⟩ dX12_undo_93 (.ref a63) (rf_s h64) ?_
      refine zx_aload_n C dX12_undo_96 0 rfl ?_
      obtain ⟨a65, h66, hm⟩ := osm_e hm
      refine zx_get (j := 2) C tC_11 k7 i8 ⟨by decide, Or.inl W_6_222⟩ dX12_undo_97 (.ref a65) (rf_s h66) ?_
      refine zx_aload_n C dX12_undo_100 0 rfl ?_
      refine zx_get (j := 4) C tC_11 k7 i8 ⟨by decide, Or.inl W_6_224⟩ dX12_undo_101 (.int (tI (sI (σ) (x0) 4 ((tI (σ) (x0) 4) - (1))) (x0) 4)) rfl ?_
      obtain ⟨n69, k67, i68, hm⟩ := ckR_e hm
      obtain ⟨h70, hm⟩ := ckI_e hm
      refine zx_iald C k67 i68 h70 dX12_undo_104 ?_
      refine zx_aload_n C dX12_undo_105 0 rfl ?_
      obtain ⟨a71, h72, hm⟩ := osm_e hm
      refine zx_get (j := 3) C tC_11 k7 i8 ⟨by decide, Or.inl W_6_223⟩ dX12_undo_106 (.ref a71) (rf_s h72) ?_
      refine zx_aload_n C dX12_undo_109 0 rfl ?_
      refine zx_get (j := 4) C tC_11 k7 i8 ⟨by decide, Or.inl W_6_224⟩ dX12_undo_110 (.int (tI (sI (σ) (x0) 4 ((tI (σ) (x0) 4) - (1))) (x0) 4)) rfl ?_
      obtain ⟨n75, k73, i74, hm⟩ := ckR_e hm
      obtain ⟨h76, hm⟩ := ckI_e hm
      refine zx_iald C k73 i74 h76 dX12_undo_113 ?_
      obtain ⟨n79, k77, i78, hm⟩ := ckR_e hm
      obtain ⟨h80, hm⟩ := ckI_e hm
      refine zx_iast C k77 i78 h80 dX12_undo_114 ?_
      refine zx_mem (fun ρ81 hρ81 => ?_)
      replace hm := ltb_e hm hρ81
      have k82 : tk ρ81 (x0) = .inl 11 := by rw [hρ81]; exact k7
      have i83 : tIn b0 ρ81 (x0) := by rw [hρ81]; exact i8
      have k84 : tk ρ81 (a65) = .inr (0, n69) := by rw [hρ81]; exact k67
      have i85 : tIn b0 ρ81 (a65) := by rw [hρ81]; exact i68
      have k86 : tk ρ81 (a71) = .inr (0, n75) := by rw [hρ81]; exact k73
      have i87 : tIn b0 ρ81 (a71) := by rw [hρ81]; exact i74
      have k88 : tk ρ81 (a63) = .inr (0, n79) := by rw [hρ81]; exact k77
      have i89 : tIn b0 ρ81 (a63) := by rw [hρ81]; exact i78
      refine zx_goto C 74 dX12_undo_115 (by decide) ?_
      exact zx_lv [0, 1, 2, 3] [(0, .ref (x0)), (1, .int (x1)), (2, .int (x2)), (3, .int (x3))] rfl (hrc74 _ _ _ _ _ hm)
set_option maxRecDepth 100000 in
set_option maxHeartbeats 1000000 in
theorem j_X12_undo_73 {p : Program} {l : Launch} {e : Env} {s : State} {m : MethodId} {args : Array Value} {below : List Frame} {meth : Method} {c : Code} {D : va_G} {aC : Nat → ClassId} {b0 fu : Nat} {σ0 τ : tM} {v : Unit}  (C : tCx p l s m args meth c yX12_undo.cls cX12_undo 5 none D aC b0 σ0) (htab : ∀ x ∈ c.exceptionTable.toList, False) (hin : meth.name = yX12_undo.name)  {x0 : Nat} {x1 : Int32} {x2 : Int32} {s0 : Int32} {σ : tM} (hm : J_X12_undo_73 b0 fu  x0 x1 x2 s0 σ = some (v, τ)) : tX p l e s m args below meth c 5 7 166 D aC b0 σ0 (.inl none) τ 73 [(0, .ref (x0)), (1, .int (x1)), (2, .int (x2))] [.int (s0)] σ := by
  unfold J_X12_undo_73 at hm
  refine zx_istore_n C [(3, .int (s0)), (0, .ref (x0)), (1, .int (x1)), (2, .int (x2))] dX12_undo_73 rfl (by decide) rfl ?_
  exact zx_lv [1, 2, 3, 0] [(0, .ref (x0)), (1, .int (x1)), (2, .int (x2)), (3, .int (s0))] rfl (l_X12_undo_74 C htab hin  _ _ _ _ _ _ hm)
set_option maxRecDepth 100000 in
set_option maxHeartbeats 1000000 in
theorem j_X12_undo_47 {p : Program} {l : Launch} {e : Env} {s : State} {m : MethodId} {args : Array Value} {below : List Frame} {meth : Method} {c : Code} {D : va_G} {aC : Nat → ClassId} {b0 fu : Nat} {σ0 τ : tM} {v : Unit}  (C : tCx p l s m args meth c yX12_undo.cls cX12_undo 5 none D aC b0 σ0) (htab : ∀ x ∈ c.exceptionTable.toList, False) (hin : meth.name = yX12_undo.name)  {x0 : Nat} {x1 : Int32} {s0 : Int32} {σ : tM} (hm : J_X12_undo_47 b0 fu  x0 x1 s0 σ = some (v, τ)) : tX p l e s m args below meth c 5 7 166 D aC b0 σ0 (.inl none) τ 47 [(0, .ref (x0)), (1, .int (x1))] [.int (s0)] σ := by
  unfold J_X12_undo_47 at hm
  refine zx_istore_n C [(2, .int (s0)), (0, .ref (x0)), (1, .int (x1))] dX12_undo_47 rfl (by decide) rfl ?_
  refine zx_iload_n C dX12_undo_48 2 rfl ?_
  refine zx_aload_n C dX12_undo_49 1 rfl ?_
  obtain ⟨k4, i5, hm⟩ := ckO_e hm
  refine zx_get (j := 35) C tC_11 k4 i5 ⟨by decide, Or.inl W_7_14⟩ dX12_undo_50 (.int (tI (σ) (x0) 35)) rfl ?_
  refine zx_icmp_le C 72 dX12_undo_53 (by decide) (fun c6 => ?_) (fun c6 => ?_)
  · replace hm := ip_e hm c6
    refine zx_iconst (v := 0) C dX12_undo_72 (by decide) ?_
    exact zx_lv [1, 2, 0] [(0, .ref (x0)), (1, .int (x1)), (2, .int (s0))] rfl (j_X12_undo_73 C htab hin    hm)
  · replace hm := in_e hm c6
    refine zx_aload_n C dX12_undo_56 1 rfl ?_
    obtain ⟨a90, h91, hm⟩ := osm_e hm
    refine zx_get (j := 40) C tC_11 k4 i5 ⟨by decide, Or.inl W_7_19⟩ dX12_undo_57 (.ref a90) (rf_s h91) ?_
    refine zx_iload_n C dX12_undo_60 2 rfl ?_
    refine zx_aload_n C dX12_undo_61 1 rfl ?_
    refine zx_get (j := 35) C tC_11 k4 i5 ⟨by decide, Or.inl W_7_14⟩ dX12_undo_62 (.int (tI (σ) (x0) 35)) rfl ?_
    refine zx_isub C dX12_undo_65 ?_
    refine zx_iconst (v := 1) C dX12_undo_66 (by decide) ?_
    refine zx_isub C dX12_undo_67 ?_
    obtain ⟨n94, k92, i93, hm⟩ := ckR_e hm
    obtain ⟨h95, hm⟩ := ckI_e hm
    refine zx_iald C k92 i93 h95 dX12_undo_68 ?_
    refine zx_goto C 73 dX12_undo_69 (by decide) ?_
    exact zx_lv [1, 2, 0] [(0, .ref (x0)), (1, .int (x1)), (2, .int (s0))] rfl (j_X12_undo_73 C htab hin    hm)
set_option maxRecDepth 100000 in
set_option maxHeartbeats 1000000 in
theorem c_X12_undo {l : Launch} {D : va_G} {aC : Nat → ClassId} {b0 fu : Nat} {a0 : Nat} {p0 : Int32} {σ τ : tM} {v : Unit} (hm : m_X12_undo b0 fu a0 p0 σ = some (v, τ)) : tMt l D aC b0 yX12_undo (Cond.code yX12_undo cX12_undo 5 none) 7 166 [.ref (a0), .int (p0)] σ (.inl none) τ := by
  unfold m_X12_undo at hm
  obtain ⟨hg, hm⟩ := grw_e hm
  refine tMt_of (n := 0) rfl (Nat.le_of_ble_eq_true rfl) hg ?_
  intro p e s m below meth c C htab hin
  refine zx_lv [0, 1] [(0, .ref (a0)), (1, .int (p0))] rfl ?_
  refine zx_iload_n C dX12_undo_0 1 rfl ?_
  refine zx_aload_n C dX12_undo_1 0 rfl ?_
  obtain ⟨k1, i2, hm⟩ := ckO_e hm
  refine zx_get (j := 35) C tC_11 k1 i2 ⟨by decide, Or.inl W_7_14⟩ dX12_undo_2 (.int (tI (σ) (a0) 35)) rfl ?_
  refine zx_icmp_le C 43 dX12_undo_5 (by decide) (fun c3 => ?_) (fun c3 => ?_)
  · replace hm := ip_e hm c3
    refine zx_aload_n C dX12_undo_43 0 rfl ?_
    refine zx_get (j := 46) C tC_11 k1 i2 ⟨by decide, Or.inl W_7_25⟩ dX12_undo_44 (.int (tI (σ) (a0) 46)) rfl ?_
    exact zx_lv [0, 1] [(0, .ref (a0)), (1, .int (p0))] rfl (j_X12_undo_47 C htab hin    hm)
  · replace hm := in_e hm c3
    refine zx_aload_n C dX12_undo_8 0 rfl ?_
    obtain ⟨a96, h97, hm⟩ := osm_e hm
    refine zx_get (j := 38) C tC_11 k1 i2 ⟨by decide, Or.inl W_7_17⟩ dX12_undo_9 (.ref a96) (rf_s h97) ?_
    refine zx_iload_n C dX12_undo_12 1 rfl ?_
    refine zx_aload_n C dX12_undo_13 0 rfl ?_
    refine zx_get (j := 35) C tC_11 k1 i2 ⟨by decide, Or.inl W_7_14⟩ dX12_undo_14 (.int (tI (σ) (a0) 35)) rfl ?_
    refine zx_isub C dX12_undo_17 ?_
    refine zx_iconst (v := 1) C dX12_undo_18 (by decide) ?_
    refine zx_isub C dX12_undo_19 ?_
    obtain ⟨n100, k98, i99, hm⟩ := ckR_e hm
    obtain ⟨h101, hm⟩ := ckI_e hm
    refine zx_iald C k98 i99 h101 dX12_undo_20 ?_
    refine zx_aload_n C dX12_undo_21 0 rfl ?_
    obtain ⟨a102, h103, hm⟩ := osm_e hm
    refine zx_get (j := 39) C tC_11 k1 i2 ⟨by decide, Or.inl W_7_18⟩ dX12_undo_22 (.ref a102) (rf_s h103) ?_
    refine zx_iload_n C dX12_undo_25 1 rfl ?_
    refine zx_aload_n C dX12_undo_26 0 rfl ?_
    refine zx_get (j := 35) C tC_11 k1 i2 ⟨by decide, Or.inl W_7_14⟩ dX12_undo_27 (.int (tI (σ) (a0) 35)) rfl ?_
    refine zx_isub C dX12_undo_30 ?_
    refine zx_iconst (v := 1) C dX12_undo_31 (by decide) ?_
    refine zx_isub C dX12_undo_32 ?_
    obtain ⟨n106, k104, i105, hm⟩ := ckR_e hm
    obtain ⟨h107, hm⟩ := ckI_e hm
    refine zx_iald C k104 i105 h107 dX12_undo_33 ?_
    refine zx_iadd C dX12_undo_34 ?_
    refine zx_aload_n C dX12_undo_35 0 rfl ?_
    refine zx_get (j := 6) C tC_11 k1 i2 ⟨by decide, Or.inl W_6_225⟩ dX12_undo_36 (.int (tI (σ) (a0) 6)) rfl ?_
    obtain ⟨h108, hm⟩ := ckD_e hm
    refine zx_irem C dX12_undo_39 h108 ?_
    refine zx_goto C 47 dX12_undo_40 (by decide) ?_
    exact zx_lv [0, 1] [(0, .ref (a0)), (1, .int (p0))] rfl (j_X12_undo_47 C htab hin    hm)
