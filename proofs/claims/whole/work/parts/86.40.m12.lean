abbrev cX12_undo : ByteArray := prog_13_method_64_code
def yX12_undo : MethodName := ⟨"SyncTreeModel", "undo", "(I)V"⟩
theorem Y_X12_undo : tY yX12_undo cX12_undo 5 none 1 := ⟨W_9_109, W_1_14, ⟨by decide +kernel, by decide +kernel⟩, by decide +kernel⟩
theorem dX12_undo_0 : decode cX12_undo 0 = .ok (.iload_n 1, 1) := by decide +kernel
theorem dX12_undo_1 : decode cX12_undo 1 = .ok (.aload_n 0, 1) := by decide +kernel
theorem dX12_undo_2 : decode cX12_undo 2 = .ok (.getfield 128, 3) := by decide +kernel
theorem dX12_undo_5 : decode cX12_undo 5 = .ok (.if_icmp .le 38, 3) := by decide +kernel
theorem dX12_undo_8 : decode cX12_undo 8 = .ok (.aload_n 0, 1) := by decide +kernel
theorem dX12_undo_9 : decode cX12_undo 9 = .ok (.getfield 143, 3) := by decide +kernel
theorem dX12_undo_12 : decode cX12_undo 12 = .ok (.iload_n 1, 1) := by decide +kernel
theorem dX12_undo_13 : decode cX12_undo 13 = .ok (.aload_n 0, 1) := by decide +kernel
theorem dX12_undo_14 : decode cX12_undo 14 = .ok (.getfield 128, 3) := by decide +kernel
theorem dX12_undo_17 : decode cX12_undo 17 = .ok (.isub, 1) := by decide +kernel
theorem dX12_undo_18 : decode cX12_undo 18 = .ok (.iconst 1, 1) := by decide +kernel
theorem dX12_undo_19 : decode cX12_undo 19 = .ok (.isub, 1) := by decide +kernel
theorem dX12_undo_20 : decode cX12_undo 20 = .ok (.iaload, 1) := by decide +kernel
theorem dX12_undo_21 : decode cX12_undo 21 = .ok (.aload_n 0, 1) := by decide +kernel
theorem dX12_undo_22 : decode cX12_undo 22 = .ok (.getfield 125, 3) := by decide +kernel
theorem dX12_undo_25 : decode cX12_undo 25 = .ok (.iload_n 1, 1) := by decide +kernel
theorem dX12_undo_26 : decode cX12_undo 26 = .ok (.aload_n 0, 1) := by decide +kernel
theorem dX12_undo_27 : decode cX12_undo 27 = .ok (.getfield 128, 3) := by decide +kernel
theorem dX12_undo_30 : decode cX12_undo 30 = .ok (.isub, 1) := by decide +kernel
theorem dX12_undo_31 : decode cX12_undo 31 = .ok (.iconst 1, 1) := by decide +kernel
theorem dX12_undo_32 : decode cX12_undo 32 = .ok (.isub, 1) := by decide +kernel
theorem dX12_undo_33 : decode cX12_undo 33 = .ok (.iaload, 1) := by decide +kernel
theorem dX12_undo_34 : decode cX12_undo 34 = .ok (.iadd, 1) := by decide +kernel
theorem dX12_undo_35 : decode cX12_undo 35 = .ok (.aload_n 0, 1) := by decide +kernel
theorem dX12_undo_36 : decode cX12_undo 36 = .ok (.getfield 38, 3) := by decide +kernel
theorem dX12_undo_39 : decode cX12_undo 39 = .ok (.irem, 1) := by decide +kernel
theorem dX12_undo_40 : decode cX12_undo 40 = .ok (.goto 7, 3) := by decide +kernel
theorem dX12_undo_43 : decode cX12_undo 43 = .ok (.aload_n 0, 1) := by decide +kernel
theorem dX12_undo_44 : decode cX12_undo 44 = .ok (.getfield 217, 3) := by decide +kernel
theorem dX12_undo_47 : decode cX12_undo 47 = .ok (.istore_n 2, 1) := by decide +kernel
theorem dX12_undo_48 : decode cX12_undo 48 = .ok (.iload_n 1, 1) := by decide +kernel
theorem dX12_undo_49 : decode cX12_undo 49 = .ok (.aload_n 0, 1) := by decide +kernel
theorem dX12_undo_50 : decode cX12_undo 50 = .ok (.getfield 128, 3) := by decide +kernel
theorem dX12_undo_53 : decode cX12_undo 53 = .ok (.if_icmp .le 19, 3) := by decide +kernel
theorem dX12_undo_56 : decode cX12_undo 56 = .ok (.aload_n 0, 1) := by decide +kernel
theorem dX12_undo_57 : decode cX12_undo 57 = .ok (.getfield 146, 3) := by decide +kernel
theorem dX12_undo_60 : decode cX12_undo 60 = .ok (.iload_n 1, 1) := by decide +kernel
theorem dX12_undo_61 : decode cX12_undo 61 = .ok (.aload_n 0, 1) := by decide +kernel
theorem dX12_undo_62 : decode cX12_undo 62 = .ok (.getfield 128, 3) := by decide +kernel
theorem dX12_undo_65 : decode cX12_undo 65 = .ok (.isub, 1) := by decide +kernel
theorem dX12_undo_66 : decode cX12_undo 66 = .ok (.iconst 1, 1) := by decide +kernel
theorem dX12_undo_67 : decode cX12_undo 67 = .ok (.isub, 1) := by decide +kernel
theorem dX12_undo_68 : decode cX12_undo 68 = .ok (.iaload, 1) := by decide +kernel
theorem dX12_undo_69 : decode cX12_undo 69 = .ok (.goto 4, 3) := by decide +kernel
theorem dX12_undo_72 : decode cX12_undo 72 = .ok (.iconst 0, 1) := by decide +kernel
theorem dX12_undo_73 : decode cX12_undo 73 = .ok (.istore_n 3, 1) := by decide +kernel
theorem dX12_undo_74 : decode cX12_undo 74 = .ok (.aload_n 0, 1) := by decide +kernel
theorem dX12_undo_75 : decode cX12_undo 75 = .ok (.getfield 17, 3) := by decide +kernel
theorem dX12_undo_78 : decode cX12_undo 78 = .ok (.iload_n 3, 1) := by decide +kernel
theorem dX12_undo_79 : decode cX12_undo 79 = .ok (.if_icmp .le 39, 3) := by decide +kernel
theorem dX12_undo_82 : decode cX12_undo 82 = .ok (.aload_n 0, 1) := by decide +kernel
theorem dX12_undo_83 : decode cX12_undo 83 = .ok (.dup, 1) := by decide +kernel
theorem dX12_undo_84 : decode cX12_undo 84 = .ok (.getfield 17, 3) := by decide +kernel
theorem dX12_undo_87 : decode cX12_undo 87 = .ok (.iconst 1, 1) := by decide +kernel
theorem dX12_undo_88 : decode cX12_undo 88 = .ok (.isub, 1) := by decide +kernel
theorem dX12_undo_89 : decode cX12_undo 89 = .ok (.putfield 17, 3) := by decide +kernel
theorem dX12_undo_92 : decode cX12_undo 92 = .ok (.aload_n 0, 1) := by decide +kernel
theorem dX12_undo_93 : decode cX12_undo 93 = .ok (.getfield 13, 3) := by decide +kernel
theorem dX12_undo_96 : decode cX12_undo 96 = .ok (.aload_n 0, 1) := by decide +kernel
theorem dX12_undo_97 : decode cX12_undo 97 = .ok (.getfield 20, 3) := by decide +kernel
theorem dX12_undo_100 : decode cX12_undo 100 = .ok (.aload_n 0, 1) := by decide +kernel
theorem dX12_undo_101 : decode cX12_undo 101 = .ok (.getfield 17, 3) := by decide +kernel
theorem dX12_undo_104 : decode cX12_undo 104 = .ok (.iaload, 1) := by decide +kernel
theorem dX12_undo_105 : decode cX12_undo 105 = .ok (.aload_n 0, 1) := by decide +kernel
theorem dX12_undo_106 : decode cX12_undo 106 = .ok (.getfield 27, 3) := by decide +kernel
theorem dX12_undo_109 : decode cX12_undo 109 = .ok (.aload_n 0, 1) := by decide +kernel
theorem dX12_undo_110 : decode cX12_undo 110 = .ok (.getfield 17, 3) := by decide +kernel
theorem dX12_undo_113 : decode cX12_undo 113 = .ok (.iaload, 1) := by decide +kernel
theorem dX12_undo_114 : decode cX12_undo 114 = .ok (.iastore, 1) := by decide +kernel
theorem dX12_undo_115 : decode cX12_undo 115 = .ok (.goto (-41), 3) := by decide +kernel
theorem dX12_undo_118 : decode cX12_undo 118 = .ok (.aload_n 0, 1) := by decide +kernel
theorem dX12_undo_119 : decode cX12_undo 119 = .ok (.iconst 0, 1) := by decide +kernel
theorem dX12_undo_120 : decode cX12_undo 120 = .ok (.putfield 17, 3) := by decide +kernel
theorem dX12_undo_123 : decode cX12_undo 123 = .ok (.aload_n 0, 1) := by decide +kernel
theorem dX12_undo_124 : decode cX12_undo 124 = .ok (.iload_n 1, 1) := by decide +kernel
theorem dX12_undo_125 : decode cX12_undo 125 = .ok (.putfield 128, 3) := by decide +kernel
theorem dX12_undo_128 : decode cX12_undo 128 = .ok (.aload_n 0, 1) := by decide +kernel
theorem dX12_undo_129 : decode cX12_undo 129 = .ok (.iconst 0, 1) := by decide +kernel
theorem dX12_undo_130 : decode cX12_undo 130 = .ok (.putfield 137, 3) := by decide +kernel
theorem dX12_undo_133 : decode cX12_undo 133 = .ok (.aload_n 0, 1) := by decide +kernel
theorem dX12_undo_134 : decode cX12_undo 134 = .ok (.iconst 0, 1) := by decide +kernel
theorem dX12_undo_135 : decode cX12_undo 135 = .ok (.putfield 131, 3) := by decide +kernel
theorem dX12_undo_138 : decode cX12_undo 138 = .ok (.aload_n 0, 1) := by decide +kernel
theorem dX12_undo_139 : decode cX12_undo 139 = .ok (.iload_n 2, 1) := by decide +kernel
theorem dX12_undo_140 : decode cX12_undo 140 = .ok (.putfield 217, 3) := by decide +kernel
theorem dX12_undo_143 : decode cX12_undo 143 = .ok (.aload_n 0, 1) := by decide +kernel
theorem dX12_undo_144 : decode cX12_undo 144 = .ok (.iload_n 2, 1) := by decide +kernel
theorem dX12_undo_145 : decode cX12_undo 145 = .ok (.putfield 161, 3) := by decide +kernel
theorem dX12_undo_148 : decode cX12_undo 148 = .ok (.aload_n 0, 1) := by decide +kernel
theorem dX12_undo_149 : decode cX12_undo 149 = .ok (.iload_n 1, 1) := by decide +kernel
theorem dX12_undo_150 : decode cX12_undo 150 = .ok (.putfield 122, 3) := by decide +kernel
theorem dX12_undo_153 : decode cX12_undo 153 = .ok (.aload_n 0, 1) := by decide +kernel
theorem dX12_undo_154 : decode cX12_undo 154 = .ok (.iload_n 1, 1) := by decide +kernel
theorem dX12_undo_155 : decode cX12_undo 155 = .ok (.putfield 199, 3) := by decide +kernel
theorem dX12_undo_158 : decode cX12_undo 158 = .ok (.aload_n 0, 1) := by decide +kernel
theorem dX12_undo_159 : decode cX12_undo 159 = .ok (.iload_n 1, 1) := by decide +kernel
theorem dX12_undo_160 : decode cX12_undo 160 = .ok (.putfield 208, 3) := by decide +kernel
theorem dX12_undo_163 : decode cX12_undo 163 = .ok (.aload_n 0, 1) := by decide +kernel
theorem dX12_undo_164 : decode cX12_undo 164 = .ok (.iload_n 1, 1) := by decide +kernel
theorem dX12_undo_165 : decode cX12_undo 165 = .ok (.putfield 202, 3) := by decide +kernel
theorem dX12_undo_168 : decode cX12_undo 168 = .ok (.aload_n 0, 1) := by decide +kernel
theorem dX12_undo_169 : decode cX12_undo 169 = .ok (.iload_n 1, 1) := by decide +kernel
theorem dX12_undo_170 : decode cX12_undo 170 = .ok (.putfield 119, 3) := by decide +kernel
theorem dX12_undo_173 : decode cX12_undo 173 = .ok (.aload_n 0, 1) := by decide +kernel
theorem dX12_undo_174 : decode cX12_undo 174 = .ok (.invokevirtual 187, 3) := by decide +kernel
theorem dX12_undo_177 : decode cX12_undo 177 = .ok (.iconst 0, 1) := by decide +kernel
theorem dX12_undo_178 : decode cX12_undo 178 = .ok (.istore 4, 2) := by decide +kernel
theorem dX12_undo_180 : decode cX12_undo 180 = .ok (.iload 4, 2) := by decide +kernel
theorem dX12_undo_182 : decode cX12_undo 182 = .ok (.aload_n 0, 1) := by decide +kernel
theorem dX12_undo_183 : decode cX12_undo 183 = .ok (.getfield 41, 3) := by decide +kernel
theorem dX12_undo_186 : decode cX12_undo 186 = .ok (.if_icmp .ge 25, 3) := by decide +kernel
theorem dX12_undo_189 : decode cX12_undo 189 = .ok (.aload_n 0, 1) := by decide +kernel
theorem dX12_undo_190 : decode cX12_undo 190 = .ok (.getfield 190, 3) := by decide +kernel
theorem dX12_undo_193 : decode cX12_undo 193 = .ok (.iload 4, 2) := by decide +kernel
theorem dX12_undo_195 : decode cX12_undo 195 = .ok (.iconst 0, 1) := by decide +kernel
theorem dX12_undo_196 : decode cX12_undo 196 = .ok (.iastore, 1) := by decide +kernel
theorem dX12_undo_197 : decode cX12_undo 197 = .ok (.aload_n 0, 1) := by decide +kernel
theorem dX12_undo_198 : decode cX12_undo 198 = .ok (.getfield 244, 3) := by decide +kernel
theorem dX12_undo_201 : decode cX12_undo 201 = .ok (.iload 4, 2) := by decide +kernel
theorem dX12_undo_203 : decode cX12_undo 203 = .ok (.iconst 0, 1) := by decide +kernel
theorem dX12_undo_204 : decode cX12_undo 204 = .ok (.bastore, 1) := by decide +kernel
theorem dX12_undo_205 : decode cX12_undo 205 = .ok (.iinc 4 1, 3) := by decide +kernel
theorem dX12_undo_208 : decode cX12_undo 208 = .ok (.goto (-28), 3) := by decide +kernel
theorem dX12_undo_211 : decode cX12_undo 211 = .ok (.iconst 0, 1) := by decide +kernel
theorem dX12_undo_212 : decode cX12_undo 212 = .ok (.istore 4, 2) := by decide +kernel
theorem dX12_undo_214 : decode cX12_undo 214 = .ok (.iload 4, 2) := by decide +kernel
theorem dX12_undo_216 : decode cX12_undo 216 = .ok (.bipush 16, 2) := by decide +kernel
theorem dX12_undo_218 : decode cX12_undo 218 = .ok (.if_icmp .ge 17, 3) := by decide +kernel
theorem dX12_undo_221 : decode cX12_undo 221 = .ok (.aload_n 0, 1) := by decide +kernel
theorem dX12_undo_222 : decode cX12_undo 222 = .ok (.getfield 286, 3) := by decide +kernel
theorem dX12_undo_225 : decode cX12_undo 225 = .ok (.iload 4, 2) := by decide +kernel
theorem dX12_undo_227 : decode cX12_undo 227 = .ok (.iconst (-1), 1) := by decide +kernel
theorem dX12_undo_228 : decode cX12_undo 228 = .ok (.iastore, 1) := by decide +kernel
theorem dX12_undo_229 : decode cX12_undo 229 = .ok (.iinc 4 1, 3) := by decide +kernel
theorem dX12_undo_232 : decode cX12_undo 232 = .ok (.goto (-18), 3) := by decide +kernel
theorem dX12_undo_235 : decode cX12_undo 235 = .ok (.aload_n 0, 1) := by decide +kernel
theorem dX12_undo_236 : decode cX12_undo 236 = .ok (.invokevirtual 376, 3) := by decide +kernel
theorem dX12_undo_239 : decode cX12_undo 239 = .ok (.iconst 0, 1) := by decide +kernel
theorem dX12_undo_240 : decode cX12_undo 240 = .ok (.istore 4, 2) := by decide +kernel
theorem dX12_undo_242 : decode cX12_undo 242 = .ok (.iload 4, 2) := by decide +kernel
theorem dX12_undo_244 : decode cX12_undo 244 = .ok (.bipush 64, 2) := by decide +kernel
theorem dX12_undo_246 : decode cX12_undo 246 = .ok (.if_icmp .ge 37, 3) := by decide +kernel
theorem dX12_undo_249 : decode cX12_undo 249 = .ok (.aload_n 0, 1) := by decide +kernel
theorem dX12_undo_250 : decode cX12_undo 250 = .ok (.iload 4, 2) := by decide +kernel
theorem dX12_undo_252 : decode cX12_undo 252 = .ok (.iconst 0, 1) := by decide +kernel
theorem dX12_undo_253 : decode cX12_undo 253 = .ok (.invokevirtual 247, 3) := by decide +kernel
theorem dX12_undo_256 : decode cX12_undo 256 = .ok (.iconst 1, 1) := by decide +kernel
theorem dX12_undo_257 : decode cX12_undo 257 = .ok (.if_icmp .eq 14, 3) := by decide +kernel
theorem dX12_undo_260 : decode cX12_undo 260 = .ok (.aload_n 0, 1) := by decide +kernel
theorem dX12_undo_261 : decode cX12_undo 261 = .ok (.iload 4, 2) := by decide +kernel
theorem dX12_undo_263 : decode cX12_undo 263 = .ok (.iconst 0, 1) := by decide +kernel
theorem dX12_undo_264 : decode cX12_undo 264 = .ok (.invokevirtual 247, 3) := by decide +kernel
theorem dX12_undo_267 : decode cX12_undo 267 = .ok (.iconst 3, 1) := by decide +kernel
theorem dX12_undo_268 : decode cX12_undo 268 = .ok (.if_icmp .ne 9, 3) := by decide +kernel
theorem dX12_undo_271 : decode cX12_undo 271 = .ok (.aload_n 0, 1) := by decide +kernel
theorem dX12_undo_272 : decode cX12_undo 272 = .ok (.iload 4, 2) := by decide +kernel
theorem dX12_undo_274 : decode cX12_undo 274 = .ok (.invokevirtual 379, 3) := by decide +kernel
theorem dX12_undo_277 : decode cX12_undo 277 = .ok (.iinc 4 1, 3) := by decide +kernel
theorem dX12_undo_280 : decode cX12_undo 280 = .ok (.goto (-38), 3) := by decide +kernel
theorem dX12_undo_283 : decode cX12_undo 283 = .ok (.return_, 1) := by decide +kernel
set_option maxRecDepth 100000 in
set_option maxHeartbeats 1000000 in
theorem j_X12_undo_277 {p : Program} {l : Launch} {e : Env} {s : State} {m : MethodId} {args : Array Value} {below : List Frame} {meth : Method} {c : Code} {D : va_G} {aC : Nat → ClassId} {b0 fu : Nat} {σ0 τ : tM} {v : Unit} {rc242 : Nat → Int32 → tM → Option ((Unit) × tM)} (C : tCx p l s m args meth c yX12_undo.cls cX12_undo 5 none D aC b0 σ0) (htab : ∀ x ∈ c.exceptionTable.toList, False) (hin : meth.name = yX12_undo.name) (hrc242 : ∀ (x0 : Nat) (x4 : Int32) (ρ : tM), rc242 x0 x4 ρ = some (v, τ) → tX p l e s m args below meth c 5 7 166 D aC b0 σ0 (.inl none) τ 242 [(0, .ref (x0)), (4, .int (x4))] [] ρ) {x0 : Nat} {x4 : Int32} {σ : tM} (hm : J_X12_undo_277 b0 fu rc242 x0 x4 σ = some (v, τ)) : tX p l e s m args below meth c 5 7 166 D aC b0 σ0 (.inl none) τ 277 [(0, .ref (x0)), (4, .int (x4))] [] σ := by
  unfold J_X12_undo_277 at hm
  obtain ⟨y41, hy41⟩ : ∃ z : Int32, z = (x4) + Int32.ofInt 1 := ⟨_, rfl⟩
  replace hm := ltb_e hm hy41
  refine zx_iinc C [(4, .int (y41)), (0, .ref (x0))] dX12_undo_277 1 rfl hy41.symm (by decide) rfl ?_
  refine zx_goto C 242 dX12_undo_280 (by decide) ?_
  exact zx_lv [1, 0] [(0, .ref (x0)), (4, .int (y41))] rfl (hrc242 _ _ _ hm)
set_option maxRecDepth 100000 in
set_option maxHeartbeats 1000000 in
theorem j_X12_undo_271 {p : Program} {l : Launch} {e : Env} {s : State} {m : MethodId} {args : Array Value} {below : List Frame} {meth : Method} {c : Code} {D : va_G} {aC : Nat → ClassId} {b0 fu : Nat} {σ0 τ : tM} {v : Unit} {rc242 : Nat → Int32 → tM → Option ((Unit) × tM)} (C : tCx p l s m args meth c yX12_undo.cls cX12_undo 5 none D aC b0 σ0) (htab : ∀ x ∈ c.exceptionTable.toList, False) (hin : meth.name = yX12_undo.name) (hrc242 : ∀ (x0 : Nat) (x4 : Int32) (ρ : tM), rc242 x0 x4 ρ = some (v, τ) → tX p l e s m args below meth c 5 7 166 D aC b0 σ0 (.inl none) τ 242 [(0, .ref (x0)), (4, .int (x4))] [] ρ) {x0 : Nat} {x4 : Int32} {σ : tM} (hm : J_X12_undo_271 b0 fu rc242 x0 x4 σ = some (v, τ)) : tX p l e s m args below meth c 5 7 166 D aC b0 σ0 (.inl none) τ 271 [(0, .ref (x0)), (4, .int (x4))] [] σ := by
  unfold J_X12_undo_271 at hm
  refine zx_aload_n C dX12_undo_271 0 rfl ?_
  refine zx_iload C dX12_undo_272 1 rfl ?_
  obtain ⟨k36, i37, hm⟩ := ckO_e hm
  obtain ⟨v38, ρ39, h40, hm⟩ := cll_e hm
  refine zx_callV (σ := σ) C [.int (x4)] tC_11 k36 i37 Y_X12_maybeFree W_8_183 W_8_185 Wp_111 (c_X12_maybeFree h40) (by decide) (by decide) rfl (Nat.le_of_ble_eq_true rfl) dX12_undo_274 rfl ?_
  exact zx_lv [0, 1] [(0, .ref (x0)), (4, .int (x4))] rfl (j_X12_undo_277 C htab hin hrc242   hm)
set_option maxRecDepth 100000 in
set_option maxHeartbeats 1000000 in
theorem l_X12_undo_242 {p : Program} {l : Launch} {e : Env} {s : State} {m : MethodId} {args : Array Value} {below : List Frame} {meth : Method} {c : Code} {D : va_G} {aC : Nat → ClassId} {b0 fu : Nat} {σ0 τ : tM} {v : Unit}  (C : tCx p l s m args meth c yX12_undo.cls cX12_undo 5 none D aC b0 σ0) (htab : ∀ x ∈ c.exceptionTable.toList, False) (hin : meth.name = yX12_undo.name)  : ∀ (n : Nat) (x0 : Nat) (x4 : Int32) (σ : tM), L_X12_undo_242 b0 fu  n x0 x4 σ = some (v, τ) → tX p l e s m args below meth c 5 7 166 D aC b0 σ0 (.inl none) τ 242 [(0, .ref (x0)), (4, .int (x4))] [] σ := by
  intro n
  induction n with
  | zero => intro x0 x4 σ hm; unfold L_X12_undo_242 at hm; cases hm
  | succ n ih =>
    intro x0 x4 σ hm
    unfold L_X12_undo_242 at hm
    obtain ⟨rc242, hrc⟩ : ∃ z, z = L_X12_undo_242 b0 fu  n := ⟨_, rfl⟩
    replace hm := ltb_e hm hrc
    rw [← hrc] at ih
    have hrc242 := ih
    clear ih hrc
    refine zx_iload C dX12_undo_242 1 rfl ?_
    refine zx_bipush (v := 64) C dX12_undo_244 (by decide) ?_
    refine zx_icmp_ge C 283 dX12_undo_246 (by decide) (fun c29 => ?_) (fun c29 => ?_)
    · replace hm := ip_e hm c29
      obtain ⟨rfl, rfl⟩ := ret_e hm
      exact zx_vret C rfl rfl rfl dX12_undo_283
    · replace hm := in_e hm c29
      refine zx_aload_n C dX12_undo_249 0 rfl ?_
      refine zx_iload C dX12_undo_250 1 rfl ?_
      refine zx_iconst (v := 0) C dX12_undo_252 (by decide) ?_
      obtain ⟨k30, i31, hm⟩ := ckO_e hm
      obtain ⟨v32, ρ33, h34, hm⟩ := cll_e hm
      refine zx_callV (σ := σ) C [.int (x4), .int (0)] tC_11 k30 i31 Y_X12_node W_8_40 W_8_42 Wp_80 (c_X12_node h34) (by decide) (by decide) rfl (Nat.le_of_ble_eq_true rfl) dX12_undo_253 rfl ?_
      refine zx_iconst (v := 1) C dX12_undo_256 (by decide) ?_
      refine zx_icmp_eq C 271 dX12_undo_257 (by decide) (fun c35 => ?_) (fun c35 => ?_)
      · replace hm := ip_e hm c35
        exact zx_lv [0, 1] [(0, .ref (x0)), (4, .int (x4))] rfl (j_X12_undo_271 C htab hin hrc242   hm)
      · replace hm := in_e hm c35
        refine zx_aload_n C dX12_undo_260 0 rfl ?_
        refine zx_iload C dX12_undo_261 1 rfl ?_
        refine zx_iconst (v := 0) C dX12_undo_263 (by decide) ?_
        obtain ⟨k42, i43, hm⟩ := ckO_e hm
        obtain ⟨v44, ρ45, h46, hm⟩ := cll_e hm
        refine zx_callV (σ := ρ33) C [.int (x4), .int (0)] tC_11 k42 i43 Y_X12_node W_8_40 W_8_42 Wp_80 (c_X12_node h46) (by decide) (by decide) rfl (Nat.le_of_ble_eq_true rfl) dX12_undo_264 rfl ?_
        refine zx_iconst (v := 3) C dX12_undo_267 (by decide) ?_
        refine zx_icmp_ne C 277 dX12_undo_268 (by decide) (fun c47 => ?_) (fun c47 => ?_)
        · replace hm := in_e hm c47
          exact zx_lv [0, 1] [(0, .ref (x0)), (4, .int (x4))] rfl (j_X12_undo_277 C htab hin hrc242   hm)
        · replace hm := ip_e hm c47
          exact zx_lv [0, 1] [(0, .ref (x0)), (4, .int (x4))] rfl (j_X12_undo_271 C htab hin hrc242   hm)
set_option maxRecDepth 100000 in
set_option maxHeartbeats 1000000 in
theorem l_X12_undo_214 {p : Program} {l : Launch} {e : Env} {s : State} {m : MethodId} {args : Array Value} {below : List Frame} {meth : Method} {c : Code} {D : va_G} {aC : Nat → ClassId} {b0 fu : Nat} {σ0 τ : tM} {v : Unit}  (C : tCx p l s m args meth c yX12_undo.cls cX12_undo 5 none D aC b0 σ0) (htab : ∀ x ∈ c.exceptionTable.toList, False) (hin : meth.name = yX12_undo.name)  : ∀ (n : Nat) (x0 : Nat) (x4 : Int32) (σ : tM), L_X12_undo_214 b0 fu  n x0 x4 σ = some (v, τ) → tX p l e s m args below meth c 5 7 166 D aC b0 σ0 (.inl none) τ 214 [(0, .ref (x0)), (4, .int (x4))] [] σ := by
  intro n
  induction n with
  | zero => intro x0 x4 σ hm; unfold L_X12_undo_214 at hm; cases hm
  | succ n ih =>
    intro x0 x4 σ hm
    unfold L_X12_undo_214 at hm
    obtain ⟨rc214, hrc⟩ : ∃ z, z = L_X12_undo_214 b0 fu  n := ⟨_, rfl⟩
    replace hm := ltb_e hm hrc
    rw [← hrc] at ih
    have hrc214 := ih
    clear ih hrc
    refine zx_iload C dX12_undo_214 1 rfl ?_
    refine zx_bipush (v := 16) C dX12_undo_216 (by decide) ?_
    refine zx_icmp_ge C 235 dX12_undo_218 (by decide) (fun c23 => ?_) (fun c23 => ?_)
    · replace hm := ip_e hm c23
      refine zx_aload_n C dX12_undo_235 0 rfl ?_
      obtain ⟨k24, i25, hm⟩ := ckO_e hm
      obtain ⟨v26, ρ27, h28, hm⟩ := cll_e hm
      refine zx_callV (σ := σ) C [] tC_11 k24 i25 Y_X12_bytesAgain W_9_110 W_9_112 Wp_125 (c_X12_bytesAgain h28) (by decide) (by decide) rfl (Nat.le_of_ble_eq_true rfl) dX12_undo_236 rfl ?_
      refine zx_iconst (v := 0) C dX12_undo_239 (by decide) ?_
      refine zx_istore C [(4, .int (0)), (0, .ref (x0))] dX12_undo_240 (by decide) rfl ?_
      exact zx_lv [1, 0] [(0, .ref (x0)), (4, .int (0))] rfl (l_X12_undo_242 C htab hin  _ _ _ _ hm)
    · replace hm := in_e hm c23
      refine zx_aload_n C dX12_undo_221 0 rfl ?_
      obtain ⟨k48, i49, hm⟩ := ckO_e hm
      obtain ⟨a50, h51, hm⟩ := osm_e hm
      refine zx_get (j := 58) C tC_11 k48 i49 ⟨by decide, Or.inl W_7_37⟩ dX12_undo_222 (.ref a50) (rf_s h51) ?_
      refine zx_iload C dX12_undo_225 1 rfl ?_
      refine zx_iconst (v := (-1)) C dX12_undo_227 (by decide) ?_
      obtain ⟨n54, k52, i53, hm⟩ := ckR_e hm
      obtain ⟨h55, hm⟩ := ckI_e hm
      refine zx_iast C k52 i53 h55 dX12_undo_228 ?_
      obtain ⟨y56, hy56⟩ : ∃ z : Int32, z = (x4) + Int32.ofInt 1 := ⟨_, rfl⟩
      replace hm := ltb_e hm hy56
      refine zx_iinc C [(4, .int (y56)), (0, .ref (x0))] dX12_undo_229 1 rfl hy56.symm (by decide) rfl ?_
      refine zx_goto C 214 dX12_undo_232 (by decide) ?_
      exact zx_lv [1, 0] [(0, .ref (x0)), (4, .int (y56))] rfl (hrc214 _ _ _ hm)
set_option maxRecDepth 100000 in
set_option maxHeartbeats 1000000 in
theorem l_X12_undo_180 {p : Program} {l : Launch} {e : Env} {s : State} {m : MethodId} {args : Array Value} {below : List Frame} {meth : Method} {c : Code} {D : va_G} {aC : Nat → ClassId} {b0 fu : Nat} {σ0 τ : tM} {v : Unit}  (C : tCx p l s m args meth c yX12_undo.cls cX12_undo 5 none D aC b0 σ0) (htab : ∀ x ∈ c.exceptionTable.toList, False) (hin : meth.name = yX12_undo.name)  : ∀ (n : Nat) (x0 : Nat) (x4 : Int32) (σ : tM), L_X12_undo_180 b0 fu  n x0 x4 σ = some (v, τ) → tX p l e s m args below meth c 5 7 166 D aC b0 σ0 (.inl none) τ 180 [(0, .ref (x0)), (4, .int (x4))] [] σ := by
  intro n
  induction n with
  | zero => intro x0 x4 σ hm; unfold L_X12_undo_180 at hm; cases hm
  | succ n ih =>
    intro x0 x4 σ hm
    unfold L_X12_undo_180 at hm
    obtain ⟨rc180, hrc⟩ : ∃ z, z = L_X12_undo_180 b0 fu  n := ⟨_, rfl⟩
    replace hm := ltb_e hm hrc
    rw [← hrc] at ih
    have hrc180 := ih
    clear ih hrc
    refine zx_iload C dX12_undo_180 1 rfl ?_
    refine zx_aload_n C dX12_undo_182 0 rfl ?_
    obtain ⟨k20, i21, hm⟩ := ckO_e hm
    refine zx_get (j := 7) C tC_11 k20 i21 ⟨by decide, Or.inl W_6_226⟩ dX12_undo_183 (.int (tI (σ) (x0) 7)) rfl ?_
    refine zx_icmp_ge C 211 dX12_undo_186 (by decide) (fun c22 => ?_) (fun c22 => ?_)
    · replace hm := ip_e hm c22
      refine zx_iconst (v := 0) C dX12_undo_211 (by decide) ?_
      refine zx_istore C [(4, .int (0)), (0, .ref (x0))] dX12_undo_212 (by decide) rfl ?_
      exact zx_lv [1, 0] [(0, .ref (x0)), (4, .int (0))] rfl (l_X12_undo_214 C htab hin  _ _ _ _ hm)
    · replace hm := in_e hm c22
      refine zx_aload_n C dX12_undo_189 0 rfl ?_
      obtain ⟨a57, h58, hm⟩ := osm_e hm
      refine zx_get (j := 24) C tC_11 k20 i21 ⟨by decide, Or.inl W_7_3⟩ dX12_undo_190 (.ref a57) (rf_s h58) ?_
      refine zx_iload C dX12_undo_193 1 rfl ?_
      refine zx_iconst (v := 0) C dX12_undo_195 (by decide) ?_
      obtain ⟨n61, k59, i60, hm⟩ := ckR_e hm
      obtain ⟨h62, hm⟩ := ckI_e hm
      refine zx_iast C k59 i60 h62 dX12_undo_196 ?_
      refine zx_aload_n C dX12_undo_197 0 rfl ?_
      obtain ⟨a63, h64, hm⟩ := osm_e hm
      refine zx_get (j := 23) C tC_11 k20 i21 ⟨by decide, Or.inl W_7_2⟩ dX12_undo_198 (.ref a63) (rf_s h64) ?_
      refine zx_iload C dX12_undo_201 1 rfl ?_
      refine zx_iconst (v := 0) C dX12_undo_203 (by decide) ?_
      obtain ⟨n67, k65, i66, hm⟩ := ckR_e hm
      obtain ⟨h68, hm⟩ := ckI_e hm
      refine zx_zast C k65 i66 h68 dX12_undo_204 ?_
      obtain ⟨y69, hy69⟩ : ∃ z : Int32, z = (x4) + Int32.ofInt 1 := ⟨_, rfl⟩
      replace hm := ltb_e hm hy69
      refine zx_iinc C [(4, .int (y69)), (0, .ref (x0))] dX12_undo_205 1 rfl hy69.symm (by decide) rfl ?_
      refine zx_goto C 180 dX12_undo_208 (by decide) ?_
      exact zx_lv [1, 0] [(0, .ref (x0)), (4, .int (y69))] rfl (hrc180 _ _ _ hm)
set_option maxRecDepth 100000 in
set_option maxHeartbeats 1000000 in
theorem j_X12_undo_177 {p : Program} {l : Launch} {e : Env} {s : State} {m : MethodId} {args : Array Value} {below : List Frame} {meth : Method} {c : Code} {D : va_G} {aC : Nat → ClassId} {b0 fu : Nat} {σ0 τ : tM} {v : Unit}  (C : tCx p l s m args meth c yX12_undo.cls cX12_undo 5 none D aC b0 σ0) (htab : ∀ x ∈ c.exceptionTable.toList, False) (hin : meth.name = yX12_undo.name)  {x0 : Nat} {σ : tM} (hm : J_X12_undo_177 b0 fu  x0 σ = some (v, τ)) : tX p l e s m args below meth c 5 7 166 D aC b0 σ0 (.inl none) τ 177 [(0, .ref (x0))] [] σ := by
  unfold J_X12_undo_177 at hm
  refine zx_iconst (v := 0) C dX12_undo_177 (by decide) ?_
  refine zx_istore C [(4, .int (0)), (0, .ref (x0))] dX12_undo_178 (by decide) rfl ?_
  exact zx_lv [1, 0] [(0, .ref (x0)), (4, .int (0))] rfl (l_X12_undo_180 C htab hin  _ _ _ _ hm)
set_option maxRecDepth 100000 in
set_option maxHeartbeats 1000000 in
theorem j_X12_undo_128 {p : Program} {l : Launch} {e : Env} {s : State} {m : MethodId} {args : Array Value} {below : List Frame} {meth : Method} {c : Code} {D : va_G} {aC : Nat → ClassId} {b0 fu : Nat} {σ0 τ : tM} {v : Unit}  (C : tCx p l s m args meth c yX12_undo.cls cX12_undo 5 none D aC b0 σ0) (htab : ∀ x ∈ c.exceptionTable.toList, False) (hin : meth.name = yX12_undo.name)  {x0 : Nat} {x1 : Int32} {x2 : Int32} {σ : tM} (hm : J_X12_undo_128 b0 fu  x0 x1 x2 σ = some (v, τ)) : tX p l e s m args below meth c 5 7 166 D aC b0 σ0 (.inl none) τ 128 [(0, .ref (x0)), (1, .int (x1)), (2, .int (x2))] [] σ := by
  unfold J_X12_undo_128 at hm
  refine zx_aload_n C dX12_undo_128 0 rfl ?_
  refine zx_iconst (v := 0) C dX12_undo_129 (by decide) ?_
  obtain ⟨k12, i13, hm⟩ := ckO_e hm
  refine zx_put (j := 36) (ρ := sI (σ) (x0) 36 (0)) C tC_11 k12 i13 ⟨by decide, Or.inl W_7_15⟩ rfl rfl rfl (sI_ok (fun _ => rfl)) dX12_undo_130 ?_
  refine zx_aload_n C dX12_undo_133 0 rfl ?_
  refine zx_iconst (v := 0) C dX12_undo_134 (by decide) ?_
  refine zx_put (j := 45) (ρ := sI (sI (σ) (x0) 36 (0)) (x0) 45 (0)) C tC_11 k12 i13 ⟨by decide, Or.inl W_7_24⟩ rfl rfl rfl (sI_ok (fun _ => rfl)) dX12_undo_135 ?_
  refine zx_aload_n C dX12_undo_138 0 rfl ?_
  refine zx_iload_n C dX12_undo_139 2 rfl ?_
  refine zx_put (j := 46) (ρ := sI (sI (sI (σ) (x0) 36 (0)) (x0) 45 (0)) (x0) 46 (x2)) C tC_11 k12 i13 ⟨by decide, Or.inl W_7_25⟩ rfl rfl rfl (sI_ok (fun _ => rfl)) dX12_undo_140 ?_
  refine zx_aload_n C dX12_undo_143 0 rfl ?_
  refine zx_iload_n C dX12_undo_144 2 rfl ?_
  refine zx_put (j := 33) (ρ := sI (sI (sI (sI (σ) (x0) 36 (0)) (x0) 45 (0)) (x0) 46 (x2)) (x0) 33 (x2)) C tC_11 k12 i13 ⟨by decide, Or.inl W_7_12⟩ rfl rfl rfl (sI_ok (fun _ => rfl)) dX12_undo_145 ?_
  refine zx_aload_n C dX12_undo_148 0 rfl ?_
  refine zx_iload_n C dX12_undo_149 1 rfl ?_
  refine zx_put (j := 28) (ρ := sI (sI (sI (sI (sI (σ) (x0) 36 (0)) (x0) 45 (0)) (x0) 46 (x2)) (x0) 33 (x2)) (x0) 28 (x1)) C tC_11 k12 i13 ⟨by decide, Or.inl W_7_7⟩ rfl rfl rfl (sI_ok (fun _ => rfl)) dX12_undo_150 ?_
  refine zx_aload_n C dX12_undo_153 0 rfl ?_
  refine zx_iload_n C dX12_undo_154 1 rfl ?_
  refine zx_put (j := 29) (ρ := sI (sI (sI (sI (sI (sI (σ) (x0) 36 (0)) (x0) 45 (0)) (x0) 46 (x2)) (x0) 33 (x2)) (x0) 28 (x1)) (x0) 29 (x1)) C tC_11 k12 i13 ⟨by decide, Or.inl W_7_8⟩ rfl rfl rfl (sI_ok (fun _ => rfl)) dX12_undo_155 ?_
  refine zx_aload_n C dX12_undo_158 0 rfl ?_
  refine zx_iload_n C dX12_undo_159 1 rfl ?_
  refine zx_put (j := 30) (ρ := sI (sI (sI (sI (sI (sI (sI (σ) (x0) 36 (0)) (x0) 45 (0)) (x0) 46 (x2)) (x0) 33 (x2)) (x0) 28 (x1)) (x0) 29 (x1)) (x0) 30 (x1)) C tC_11 k12 i13 ⟨by decide, Or.inl W_7_9⟩ rfl rfl rfl (sI_ok (fun _ => rfl)) dX12_undo_160 ?_
  refine zx_aload_n C dX12_undo_163 0 rfl ?_
  refine zx_iload_n C dX12_undo_164 1 rfl ?_
  refine zx_put (j := 31) (ρ := sI (sI (sI (sI (sI (sI (sI (sI (σ) (x0) 36 (0)) (x0) 45 (0)) (x0) 46 (x2)) (x0) 33 (x2)) (x0) 28 (x1)) (x0) 29 (x1)) (x0) 30 (x1)) (x0) 31 (x1)) C tC_11 k12 i13 ⟨by decide, Or.inl W_7_10⟩ rfl rfl rfl (sI_ok (fun _ => rfl)) dX12_undo_165 ?_
  refine zx_aload_n C dX12_undo_168 0 rfl ?_
  refine zx_iload_n C dX12_undo_169 1 rfl ?_
  refine zx_put (j := 32) (ρ := sI (sI (sI (sI (sI (sI (sI (sI (sI (σ) (x0) 36 (0)) (x0) 45 (0)) (x0) 46 (x2)) (x0) 33 (x2)) (x0) 28 (x1)) (x0) 29 (x1)) (x0) 30 (x1)) (x0) 31 (x1)) (x0) 32 (x1)) C tC_11 k12 i13 ⟨by decide, Or.inl W_7_11⟩ rfl rfl rfl (sI_ok (fun _ => rfl)) dX12_undo_170 ?_
  refine zx_mem (fun ρ14 hρ14 => ?_)
  replace hm := ltb_e hm hρ14
  have k15 : tk ρ14 (x0) = .inl 11 := by rw [hρ14]; exact k12
  have i16 : tIn b0 ρ14 (x0) := by rw [hρ14]; exact i13
  refine zx_aload_n C dX12_undo_173 0 rfl ?_
  obtain ⟨v17, ρ18, h19, hm⟩ := cll_e hm
  refine zx_callV (σ := ρ14) C [] tC_11 k15 i16 Y_X12_emptyGroup W_6_212 W_6_214 Wp_54 (c_X12_emptyGroup h19) (by decide) (by decide) rfl (Nat.le_of_ble_eq_true rfl) dX12_undo_174 rfl ?_
  exact zx_lv [0] [(0, .ref (x0))] rfl (j_X12_undo_177 C htab hin    hm)
set_option maxRecDepth 100000 in
set_option maxHeartbeats 1000000 in
theorem l_X12_undo_74 {p : Program} {l : Launch} {e : Env} {s : State} {m : MethodId} {args : Array Value} {below : List Frame} {meth : Method} {c : Code} {D : va_G} {aC : Nat → ClassId} {b0 fu : Nat} {σ0 τ : tM} {v : Unit}  (C : tCx p l s m args meth c yX12_undo.cls cX12_undo 5 none D aC b0 σ0) (htab : ∀ x ∈ c.exceptionTable.toList, False) (hin : meth.name = yX12_undo.name)  : ∀ (n : Nat) (x0 : Nat) (x1 : Int32) (x2 : Int32) (x3 : Int32) (σ : tM), L_X12_undo_74 b0 fu  n x0 x1 x2 x3 σ = some (v, τ) → tX p l e s m args below meth c 5 7 166 D aC b0 σ0 (.inl none) τ 74 [(0, .ref (x0)), (1, .int (x1)), (2, .int (x2)), (3, .int (x3))] [] σ := by
  intro n
  induction n with
  | zero => intro x0 x1 x2 x3 σ hm; unfold L_X12_undo_74 at hm; cases hm
  | succ n ih =>
    intro x0 x1 x2 x3 σ hm
    unfold L_X12_undo_74 at hm
    obtain ⟨rc74, hrc⟩ : ∃ z, z = L_X12_undo_74 b0 fu  n := ⟨_, rfl⟩
    replace hm := ltb_e hm hrc
    rw [← hrc] at ih
    have hrc74 := ih
    clear ih hrc
    refine zx_aload_n C dX12_undo_74 0 rfl ?_
    obtain ⟨k9, i10, hm⟩ := ckO_e hm
    refine zx_get (j := 4) C tC_11 k9 i10 ⟨by decide, Or.inl W_6_224⟩ dX12_undo_75 (.int (tI (σ) (x0) 4)) rfl ?_
    refine zx_iload_n C dX12_undo_78 3 rfl ?_
    refine zx_icmp_le C 118 dX12_undo_79 (by decide) (fun c11 => ?_) (fun c11 => ?_)
    · replace hm := ip_e hm c11
      refine zx_aload_n C dX12_undo_118 0 rfl ?_
      refine zx_iconst (v := 0) C dX12_undo_119 (by decide) ?_
      refine zx_put (j := 4) (ρ := sI (σ) (x0) 4 (0)) C tC_11 k9 i10 ⟨by decide, Or.inl W_6_224⟩ rfl rfl rfl (sI_ok (fun _ => rfl)) dX12_undo_120 ?_
      refine zx_aload_n C dX12_undo_123 0 rfl ?_
      refine zx_iload_n C dX12_undo_124 1 rfl ?_
      refine zx_put (j := 35) (ρ := sI (sI (σ) (x0) 4 (0)) (x0) 35 (x1)) C tC_11 k9 i10 ⟨by decide, Or.inl W_7_14⟩ rfl rfl rfl (sI_ok (fun _ => rfl)) dX12_undo_125 ?_
      exact zx_lv [0, 1, 2] [(0, .ref (x0)), (1, .int (x1)), (2, .int (x2))] rfl (j_X12_undo_128 C htab hin    hm)
    · replace hm := in_e hm c11
      refine zx_aload_n C dX12_undo_82 0 rfl ?_
      refine zx_dup C dX12_undo_83 rfl ?_
      refine zx_get (j := 4) C tC_11 k9 i10 ⟨by decide, Or.inl W_6_224⟩ dX12_undo_84 (.int (tI (σ) (x0) 4)) rfl ?_
      refine zx_iconst (v := 1) C dX12_undo_87 (by decide) ?_
      refine zx_isub C dX12_undo_88 ?_
      refine zx_put (j := 4) (ρ := sI (σ) (x0) 4 ((tI (σ) (x0) 4) - (1))) C tC_11 k9 i10 ⟨by decide, Or.inl W_6_224⟩ rfl rfl rfl (sI_ok (fun _ => rfl)) dX12_undo_89 ?_
      refine zx_aload_n C dX12_undo_92 0 rfl ?_
      obtain ⟨a70, h71, hm⟩ := osm_e hm
      refine zx_get (j := 1) C tC_11 k9 i10 ⟨by decide, Or.inl W_6_221⟩ dX12_undo_93 (.ref a70) (rf_s h71) ?_
      refine zx_aload_n C dX12_undo_96 0 rfl ?_
      obtain ⟨a72, h73, hm⟩ := osm_e hm
      refine zx_get (j := 2) C tC_11 k9 i10 ⟨by decide, Or.inl W_6_222⟩ dX12_undo_97 (.ref a72) (rf_s h73) ?_
      refine zx_aload_n C dX12_undo_100 0 rfl ?_
      refine zx_get (j := 4) C tC_11 k9 i10 ⟨by decide, Or.inl W_6_224⟩ dX12_undo_101 (.int (tI (sI (σ) (x0) 4 ((tI (σ) (x0) 4) - (1))) (x0) 4)) rfl ?_
      obtain ⟨n76, k74, i75, hm⟩ := ckR_e hm
      obtain ⟨h77, hm⟩ := ckI_e hm
      refine zx_iald C k74 i75 h77 dX12_undo_104 ?_
      refine zx_aload_n C dX12_undo_105 0 rfl ?_
      obtain ⟨a78, h79, hm⟩ := osm_e hm
      refine zx_get (j := 3) C tC_11 k9 i10 ⟨by decide, Or.inl W_6_223⟩ dX12_undo_106 (.ref a78) (rf_s h79) ?_
      refine zx_aload_n C dX12_undo_109 0 rfl ?_
      refine zx_get (j := 4) C tC_11 k9 i10 ⟨by decide, Or.inl W_6_224⟩ dX12_undo_110 (.int (tI (sI (σ) (x0) 4 ((tI (σ) (x0) 4) - (1))) (x0) 4)) rfl ?_
      obtain ⟨n82, k80, i81, hm⟩ := ckR_e hm
      obtain ⟨h83, hm⟩ := ckI_e hm
      refine zx_iald C k80 i81 h83 dX12_undo_113 ?_
      obtain ⟨n86, k84, i85, hm⟩ := ckR_e hm
      obtain ⟨h87, hm⟩ := ckI_e hm
      refine zx_iast C k84 i85 h87 dX12_undo_114 ?_
      refine zx_mem (fun ρ88 hρ88 => ?_)
      replace hm := ltb_e hm hρ88
      have k89 : tk ρ88 (x0) = .inl 11 := by rw [hρ88]; exact k9
      have i90 : tIn b0 ρ88 (x0) := by rw [hρ88]; exact i10
      have k91 : tk ρ88 (a72) = .inr (0, n76) := by rw [hρ88]; exact k74
      have i92 : tIn b0 ρ88 (a72) := by rw [hρ88]; exact i75
      have k93 : tk ρ88 (a78) = .inr (0, n82) := by rw [hρ88]; exact k80
      have i94 : tIn b0 ρ88 (a78) := by rw [hρ88]; exact i81
      have k95 : tk ρ88 (a70) = .inr (0, n86) := by rw [hρ88]; exact k84
      have i96 : tIn b0 ρ88 (a70) := by rw [hρ88]; exact i85
      refine zx_goto C 74 dX12_undo_115 (by decide) ?_
      exact zx_lv [0, 1, 2, 3] [(0, .ref (x0)), (1, .int (x1)), (2, .int (x2)), (3, .int (x3))] rfl (hrc74 _ _ _ _ _ hm)
set_option maxRecDepth 100000 in
set_option maxHeartbeats 1000000 in
theorem j_X12_undo_73 {p : Program} {l : Launch} {e : Env} {s : State} {m : MethodId} {args : Array Value} {below : List Frame} {meth : Method} {c : Code} {D : va_G} {aC : Nat → ClassId} {b0 fu : Nat} {σ0 τ : tM} {v : Unit}  (C : tCx p l s m args meth c yX12_undo.cls cX12_undo 5 none D aC b0 σ0) (htab : ∀ x ∈ c.exceptionTable.toList, False) (hin : meth.name = yX12_undo.name)  {x0 : Nat} {x1 : Int32} {x2 : Int32} {s0 : Int32} {σ : tM} (hm : J_X12_undo_73 b0 fu  x0 x1 x2 s0 σ = some (v, τ)) : tX p l e s m args below meth c 5 7 166 D aC b0 σ0 (.inl none) τ 73 [(0, .ref (x0)), (1, .int (x1)), (2, .int (x2))] [.int (s0)] σ := by
  unfold J_X12_undo_73 at hm
  refine zx_istore_n C [(3, .int (s0)), (0, .ref (x0)), (1, .int (x1)), (2, .int (x2))] dX12_undo_73 rfl (by decide) rfl ?_
  exact zx_lv [1, 2, 3, 0] [(0, .ref (x0)), (1, .int (x1)), (2, .int (x2)), (3, .int (s0))] rfl (l_X12_undo_74 C htab hin  _ _ _ _ _ _ hm)
set_option maxRecDepth 100000 in
set_option maxHeartbeats 1000000 in
theorem j_X12_undo_47 {p : Program} {l : Launch} {e : Env} {s : State} {m : MethodId} {args : Array Value} {below : List Frame} {meth : Method} {c : Code} {D : va_G} {aC : Nat → ClassId} {b0 fu : Nat} {σ0 τ : tM} {v : Unit}  (C : tCx p l s m args meth c yX12_undo.cls cX12_undo 5 none D aC b0 σ0) (htab : ∀ x ∈ c.exceptionTable.toList, False) (hin : meth.name = yX12_undo.name)  {x0 : Nat} {x1 : Int32} {s0 : Int32} {σ : tM} (hm : J_X12_undo_47 b0 fu  x0 x1 s0 σ = some (v, τ)) : tX p l e s m args below meth c 5 7 166 D aC b0 σ0 (.inl none) τ 47 [(0, .ref (x0)), (1, .int (x1))] [.int (s0)] σ := by
  unfold J_X12_undo_47 at hm
  refine zx_istore_n C [(2, .int (s0)), (0, .ref (x0)), (1, .int (x1))] dX12_undo_47 rfl (by decide) rfl ?_
  refine zx_iload_n C dX12_undo_48 2 rfl ?_
  refine zx_aload_n C dX12_undo_49 1 rfl ?_
  obtain ⟨k6, i7, hm⟩ := ckO_e hm
  refine zx_get (j := 35) C tC_11 k6 i7 ⟨by decide, Or.inl W_7_14⟩ dX12_undo_50 (.int (tI (σ) (x0) 35)) rfl ?_
  refine zx_icmp_le C 72 dX12_undo_53 (by decide) (fun c8 => ?_) (fun c8 => ?_)
  · replace hm := ip_e hm c8
    refine zx_iconst (v := 0) C dX12_undo_72 (by decide) ?_
    exact zx_lv [1, 2, 0] [(0, .ref (x0)), (1, .int (x1)), (2, .int (s0))] rfl (j_X12_undo_73 C htab hin    hm)
  · replace hm := in_e hm c8
    refine zx_aload_n C dX12_undo_56 1 rfl ?_
    obtain ⟨a97, h98, hm⟩ := osm_e hm
    refine zx_get (j := 40) C tC_11 k6 i7 ⟨by decide, Or.inl W_7_19⟩ dX12_undo_57 (.ref a97) (rf_s h98) ?_
    refine zx_iload_n C dX12_undo_60 2 rfl ?_
    refine zx_aload_n C dX12_undo_61 1 rfl ?_
    refine zx_get (j := 35) C tC_11 k6 i7 ⟨by decide, Or.inl W_7_14⟩ dX12_undo_62 (.int (tI (σ) (x0) 35)) rfl ?_
    refine zx_isub C dX12_undo_65 ?_
    refine zx_iconst (v := 1) C dX12_undo_66 (by decide) ?_
    refine zx_isub C dX12_undo_67 ?_
    obtain ⟨n101, k99, i100, hm⟩ := ckR_e hm
    obtain ⟨h102, hm⟩ := ckI_e hm
    refine zx_iald C k99 i100 h102 dX12_undo_68 ?_
    refine zx_goto C 73 dX12_undo_69 (by decide) ?_
    exact zx_lv [1, 2, 0] [(0, .ref (x0)), (1, .int (x1)), (2, .int (s0))] rfl (j_X12_undo_73 C htab hin    hm)
set_option maxRecDepth 100000 in
set_option maxHeartbeats 1000000 in
theorem j_X12_undo_43 {p : Program} {l : Launch} {e : Env} {s : State} {m : MethodId} {args : Array Value} {below : List Frame} {meth : Method} {c : Code} {D : va_G} {aC : Nat → ClassId} {b0 fu : Nat} {σ0 τ : tM} {v : Unit}  (C : tCx p l s m args meth c yX12_undo.cls cX12_undo 5 none D aC b0 σ0) (htab : ∀ x ∈ c.exceptionTable.toList, False) (hin : meth.name = yX12_undo.name)  {x0 : Nat} {x1 : Int32} {σ : tM} (hm : J_X12_undo_43 b0 fu  x0 x1 σ = some (v, τ)) : tX p l e s m args below meth c 5 7 166 D aC b0 σ0 (.inl none) τ 43 [(0, .ref (x0)), (1, .int (x1))] [] σ := by
  unfold J_X12_undo_43 at hm
  refine zx_aload_n C dX12_undo_43 0 rfl ?_
  obtain ⟨k4, i5, hm⟩ := ckO_e hm
  refine zx_get (j := 46) C tC_11 k4 i5 ⟨by decide, Or.inl W_7_25⟩ dX12_undo_44 (.int (tI (σ) (x0) 46)) rfl ?_
  exact zx_lv [0, 1] [(0, .ref (x0)), (1, .int (x1))] rfl (j_X12_undo_47 C htab hin    hm)
set_option maxRecDepth 100000 in
set_option maxHeartbeats 1000000 in
theorem c_X12_undo {l : Launch} {D : va_G} {aC : Nat → ClassId} {b0 fu : Nat} {a0 : Nat} {p0 : Int32} {σ τ : tM} {v : Unit} (hm : m_X12_undo b0 fu a0 p0 σ = some (v, τ)) : tMt l D aC b0 yX12_undo (Cond.code yX12_undo cX12_undo 5 none) 7 166 [.ref (a0), .int (p0)] σ (.inl none) τ := by
  unfold m_X12_undo at hm
  obtain ⟨hg, hm⟩ := grw_e hm
  refine tMt_of (n := 0) rfl (Nat.le_of_ble_eq_true rfl) hg ?_
  intro p e s m below meth c C htab hin
  refine zx_lv [0, 1] [(0, .ref (a0)), (1, .int (p0))] rfl ?_
  refine zx_iload_n C dX12_undo_0 1 rfl ?_
  refine zx_aload_n C dX12_undo_1 0 rfl ?_
  obtain ⟨k1, i2, hm⟩ := ckO_e hm
  refine zx_get (j := 35) C tC_11 k1 i2 ⟨by decide, Or.inl W_7_14⟩ dX12_undo_2 (.int (tI (σ) (a0) 35)) rfl ?_
  refine zx_icmp_le C 43 dX12_undo_5 (by decide) (fun c3 => ?_) (fun c3 => ?_)
  · replace hm := ip_e hm c3
    exact zx_lv [0, 1] [(0, .ref (a0)), (1, .int (p0))] rfl (j_X12_undo_43 C htab hin    hm)
  · replace hm := in_e hm c3
    refine zx_aload_n C dX12_undo_8 0 rfl ?_
    obtain ⟨a103, h104, hm⟩ := osm_e hm
    refine zx_get (j := 38) C tC_11 k1 i2 ⟨by decide, Or.inl W_7_17⟩ dX12_undo_9 (.ref a103) (rf_s h104) ?_
    refine zx_iload_n C dX12_undo_12 1 rfl ?_
    refine zx_aload_n C dX12_undo_13 0 rfl ?_
    refine zx_get (j := 35) C tC_11 k1 i2 ⟨by decide, Or.inl W_7_14⟩ dX12_undo_14 (.int (tI (σ) (a0) 35)) rfl ?_
    refine zx_isub C dX12_undo_17 ?_
    refine zx_iconst (v := 1) C dX12_undo_18 (by decide) ?_
    refine zx_isub C dX12_undo_19 ?_
    obtain ⟨n107, k105, i106, hm⟩ := ckR_e hm
    obtain ⟨h108, hm⟩ := ckI_e hm
    refine zx_iald C k105 i106 h108 dX12_undo_20 ?_
    refine zx_aload_n C dX12_undo_21 0 rfl ?_
    obtain ⟨a109, h110, hm⟩ := osm_e hm
    refine zx_get (j := 39) C tC_11 k1 i2 ⟨by decide, Or.inl W_7_18⟩ dX12_undo_22 (.ref a109) (rf_s h110) ?_
    refine zx_iload_n C dX12_undo_25 1 rfl ?_
    refine zx_aload_n C dX12_undo_26 0 rfl ?_
    refine zx_get (j := 35) C tC_11 k1 i2 ⟨by decide, Or.inl W_7_14⟩ dX12_undo_27 (.int (tI (σ) (a0) 35)) rfl ?_
    refine zx_isub C dX12_undo_30 ?_
    refine zx_iconst (v := 1) C dX12_undo_31 (by decide) ?_
    refine zx_isub C dX12_undo_32 ?_
    obtain ⟨n113, k111, i112, hm⟩ := ckR_e hm
    obtain ⟨h114, hm⟩ := ckI_e hm
    refine zx_iald C k111 i112 h114 dX12_undo_33 ?_
    refine zx_iadd C dX12_undo_34 ?_
    refine zx_aload_n C dX12_undo_35 0 rfl ?_
    refine zx_get (j := 6) C tC_11 k1 i2 ⟨by decide, Or.inl W_6_225⟩ dX12_undo_36 (.int (tI (σ) (a0) 6)) rfl ?_
    obtain ⟨h115, hm⟩ := ckD_e hm
    refine zx_irem C dX12_undo_39 h115 ?_
    refine zx_goto C 47 dX12_undo_40 (by decide) ?_
    exact zx_lv [0, 1] [(0, .ref (a0)), (1, .int (p0))] rfl (j_X12_undo_47 C htab hin    hm)
abbrev cX12_init : ByteArray := prog_13_method_66_code
def yX12_init : MethodName := ⟨"SyncTreeModel", "<init>", "()V"⟩
theorem Y_X12_init : tY yX12_init cX12_init 1 none 0 := ⟨W_6_198, W_1_14, ⟨by decide +kernel, by decide +kernel⟩, by decide +kernel⟩
theorem dX12_init_0 : decode cX12_init 0 = .ok (.aload_n 0, 1) := by decide +kernel
theorem dX12_init_1 : decode cX12_init 1 = .ok (.invokespecial 382, 3) := by decide +kernel
theorem dX12_init_4 : decode cX12_init 4 = .ok (.aload_n 0, 1) := by decide +kernel
theorem dX12_init_5 : decode cX12_init 5 = .ok (.ldc_w 387, 3) := by decide +kernel
theorem dX12_init_8 : decode cX12_init 8 = .ok (.newarray .int, 2) := by decide +kernel
theorem dX12_init_10 : decode cX12_init 10 = .ok (.putfield 13, 3) := by decide +kernel
theorem dX12_init_13 : decode cX12_init 13 = .ok (.aload_n 0, 1) := by decide +kernel
theorem dX12_init_14 : decode cX12_init 14 = .ok (.sipush 4096, 3) := by decide +kernel
theorem dX12_init_17 : decode cX12_init 17 = .ok (.newarray .int, 2) := by decide +kernel
theorem dX12_init_19 : decode cX12_init 19 = .ok (.putfield 20, 3) := by decide +kernel
theorem dX12_init_22 : decode cX12_init 22 = .ok (.aload_n 0, 1) := by decide +kernel
theorem dX12_init_23 : decode cX12_init 23 = .ok (.sipush 4096, 3) := by decide +kernel
theorem dX12_init_26 : decode cX12_init 26 = .ok (.newarray .int, 2) := by decide +kernel
theorem dX12_init_28 : decode cX12_init 28 = .ok (.putfield 27, 3) := by decide +kernel
theorem dX12_init_31 : decode cX12_init 31 = .ok (.aload_n 0, 1) := by decide +kernel
theorem dX12_init_32 : decode cX12_init 32 = .ok (.sipush 6200, 3) := by decide +kernel
theorem dX12_init_35 : decode cX12_init 35 = .ok (.newarray .int, 2) := by decide +kernel
theorem dX12_init_37 : decode cX12_init 37 = .ok (.putfield 68, 3) := by decide +kernel
theorem dX12_init_40 : decode cX12_init 40 = .ok (.aload_n 0, 1) := by decide +kernel
theorem dX12_init_41 : decode cX12_init 41 = .ok (.sipush 6200, 3) := by decide +kernel
theorem dX12_init_44 : decode cX12_init 44 = .ok (.newarray .int, 2) := by decide +kernel
theorem dX12_init_46 : decode cX12_init 46 = .ok (.putfield 74, 3) := by decide +kernel
theorem dX12_init_49 : decode cX12_init 49 = .ok (.aload_n 0, 1) := by decide +kernel
theorem dX12_init_50 : decode cX12_init 50 = .ok (.ldc_w 388, 3) := by decide +kernel
theorem dX12_init_53 : decode cX12_init 53 = .ok (.newarray .byte, 2) := by decide +kernel
theorem dX12_init_55 : decode cX12_init 55 = .ok (.putfield 84, 3) := by decide +kernel
theorem dX12_init_58 : decode cX12_init 58 = .ok (.aload_n 0, 1) := by decide +kernel
theorem dX12_init_59 : decode cX12_init 59 = .ok (.sipush 256, 3) := by decide +kernel
theorem dX12_init_62 : decode cX12_init 62 = .ok (.newarray .int, 2) := by decide +kernel
theorem dX12_init_64 : decode cX12_init 64 = .ok (.putfield 65, 3) := by decide +kernel
theorem dX12_init_67 : decode cX12_init 67 = .ok (.aload_n 0, 1) := by decide +kernel
theorem dX12_init_68 : decode cX12_init 68 = .ok (.sipush 256, 3) := by decide +kernel
theorem dX12_init_71 : decode cX12_init 71 = .ok (.newarray .int, 2) := by decide +kernel
theorem dX12_init_73 : decode cX12_init 73 = .ok (.putfield 71, 3) := by decide +kernel
theorem dX12_init_76 : decode cX12_init 76 = .ok (.aload_n 0, 1) := by decide +kernel
theorem dX12_init_77 : decode cX12_init 77 = .ok (.sipush 256, 3) := by decide +kernel
theorem dX12_init_80 : decode cX12_init 80 = .ok (.newarray .int, 2) := by decide +kernel
theorem dX12_init_82 : decode cX12_init 82 = .ok (.putfield 77, 3) := by decide +kernel
theorem dX12_init_85 : decode cX12_init 85 = .ok (.aload_n 0, 1) := by decide +kernel
theorem dX12_init_86 : decode cX12_init 86 = .ok (.ldc_w 389, 3) := by decide +kernel
theorem dX12_init_89 : decode cX12_init 89 = .ok (.newarray .byte, 2) := by decide +kernel
theorem dX12_init_91 : decode cX12_init 91 = .ok (.putfield 80, 3) := by decide +kernel
theorem dX12_init_94 : decode cX12_init 94 = .ok (.aload_n 0, 1) := by decide +kernel
theorem dX12_init_95 : decode cX12_init 95 = .ok (.sipush 6200, 3) := by decide +kernel
theorem dX12_init_98 : decode cX12_init 98 = .ok (.newarray .int, 2) := by decide +kernel
theorem dX12_init_100 : decode cX12_init 100 = .ok (.putfield 62, 3) := by decide +kernel
theorem dX12_init_103 : decode cX12_init 103 = .ok (.aload_n 0, 1) := by decide +kernel
theorem dX12_init_104 : decode cX12_init 104 = .ok (.ldc_w 388, 3) := by decide +kernel
theorem dX12_init_107 : decode cX12_init 107 = .ok (.newarray .byte, 2) := by decide +kernel
theorem dX12_init_109 : decode cX12_init 109 = .ok (.putfield 102, 3) := by decide +kernel
theorem dX12_init_112 : decode cX12_init 112 = .ok (.aload_n 0, 1) := by decide +kernel
theorem dX12_init_113 : decode cX12_init 113 = .ok (.sipush 2000, 3) := by decide +kernel
theorem dX12_init_116 : decode cX12_init 116 = .ok (.newarray .boolean, 2) := by decide +kernel
theorem dX12_init_118 : decode cX12_init 118 = .ok (.putfield 244, 3) := by decide +kernel
theorem dX12_init_121 : decode cX12_init 121 = .ok (.aload_n 0, 1) := by decide +kernel
theorem dX12_init_122 : decode cX12_init 122 = .ok (.sipush 2000, 3) := by decide +kernel
theorem dX12_init_125 : decode cX12_init 125 = .ok (.newarray .int, 2) := by decide +kernel
theorem dX12_init_127 : decode cX12_init 127 = .ok (.putfield 190, 3) := by decide +kernel
theorem dX12_init_130 : decode cX12_init 130 = .ok (.aload_n 0, 1) := by decide +kernel
theorem dX12_init_131 : decode cX12_init 131 = .ok (.bipush 64, 2) := by decide +kernel
theorem dX12_init_133 : decode cX12_init 133 = .ok (.newarray .boolean, 2) := by decide +kernel
theorem dX12_init_135 : decode cX12_init 135 = .ok (.putfield 193, 3) := by decide +kernel
theorem dX12_init_138 : decode cX12_init 138 = .ok (.aload_n 0, 1) := by decide +kernel
theorem dX12_init_139 : decode cX12_init 139 = .ok (.sipush 6200, 3) := by decide +kernel
theorem dX12_init_142 : decode cX12_init 142 = .ok (.newarray .boolean, 2) := by decide +kernel
theorem dX12_init_144 : decode cX12_init 144 = .ok (.putfield 108, 3) := by decide +kernel
theorem dX12_init_147 : decode cX12_init 147 = .ok (.aload_n 0, 1) := by decide +kernel
theorem dX12_init_148 : decode cX12_init 148 = .ok (.sipush 6200, 3) := by decide +kernel
theorem dX12_init_151 : decode cX12_init 151 = .ok (.newarray .boolean, 2) := by decide +kernel
theorem dX12_init_153 : decode cX12_init 153 = .ok (.putfield 116, 3) := by decide +kernel
theorem dX12_init_156 : decode cX12_init 156 = .ok (.aload_n 0, 1) := by decide +kernel
theorem dX12_init_157 : decode cX12_init 157 = .ok (.bipush 64, 2) := by decide +kernel
theorem dX12_init_159 : decode cX12_init 159 = .ok (.newarray .int, 2) := by decide +kernel
theorem dX12_init_161 : decode cX12_init 161 = .ok (.putfield 140, 3) := by decide +kernel
theorem dX12_init_164 : decode cX12_init 164 = .ok (.aload_n 0, 1) := by decide +kernel
theorem dX12_init_165 : decode cX12_init 165 = .ok (.bipush 64, 2) := by decide +kernel
theorem dX12_init_167 : decode cX12_init 167 = .ok (.newarray .int, 2) := by decide +kernel
theorem dX12_init_169 : decode cX12_init 169 = .ok (.putfield 143, 3) := by decide +kernel
theorem dX12_init_172 : decode cX12_init 172 = .ok (.aload_n 0, 1) := by decide +kernel
theorem dX12_init_173 : decode cX12_init 173 = .ok (.bipush 64, 2) := by decide +kernel
theorem dX12_init_175 : decode cX12_init 175 = .ok (.newarray .int, 2) := by decide +kernel
theorem dX12_init_177 : decode cX12_init 177 = .ok (.putfield 125, 3) := by decide +kernel
theorem dX12_init_180 : decode cX12_init 180 = .ok (.aload_n 0, 1) := by decide +kernel
theorem dX12_init_181 : decode cX12_init 181 = .ok (.bipush 64, 2) := by decide +kernel
theorem dX12_init_183 : decode cX12_init 183 = .ok (.newarray .int, 2) := by decide +kernel
theorem dX12_init_185 : decode cX12_init 185 = .ok (.putfield 146, 3) := by decide +kernel
theorem dX12_init_188 : decode cX12_init 188 = .ok (.aload_n 0, 1) := by decide +kernel
theorem dX12_init_189 : decode cX12_init 189 = .ok (.bipush 64, 2) := by decide +kernel
theorem dX12_init_191 : decode cX12_init 191 = .ok (.newarray .int, 2) := by decide +kernel
theorem dX12_init_193 : decode cX12_init 193 = .ok (.putfield 149, 3) := by decide +kernel
theorem dX12_init_196 : decode cX12_init 196 = .ok (.aload_n 0, 1) := by decide +kernel
theorem dX12_init_197 : decode cX12_init 197 = .ok (.bipush 64, 2) := by decide +kernel
theorem dX12_init_199 : decode cX12_init 199 = .ok (.newarray .int, 2) := by decide +kernel
theorem dX12_init_201 : decode cX12_init 201 = .ok (.putfield 152, 3) := by decide +kernel
theorem dX12_init_204 : decode cX12_init 204 = .ok (.aload_n 0, 1) := by decide +kernel
theorem dX12_init_205 : decode cX12_init 205 = .ok (.bipush 64, 2) := by decide +kernel
theorem dX12_init_207 : decode cX12_init 207 = .ok (.newarray .int, 2) := by decide +kernel
theorem dX12_init_209 : decode cX12_init 209 = .ok (.putfield 155, 3) := by decide +kernel
theorem dX12_init_212 : decode cX12_init 212 = .ok (.aload_n 0, 1) := by decide +kernel
theorem dX12_init_213 : decode cX12_init 213 = .ok (.sipush 1024, 3) := by decide +kernel
theorem dX12_init_216 : decode cX12_init 216 = .ok (.newarray .int, 2) := by decide +kernel
theorem dX12_init_218 : decode cX12_init 218 = .ok (.putfield 134, 3) := by decide +kernel
theorem dX12_init_221 : decode cX12_init 221 = .ok (.aload_n 0, 1) := by decide +kernel
theorem dX12_init_222 : decode cX12_init 222 = .ok (.iconst 2, 1) := by decide +kernel
theorem dX12_init_223 : decode cX12_init 223 = .ok (.anewarray 390, 3) := by decide +kernel
theorem dX12_init_226 : decode cX12_init 226 = .ok (.dup, 1) := by decide +kernel
theorem dX12_init_227 : decode cX12_init 227 = .ok (.iconst 0, 1) := by decide +kernel
theorem dX12_init_228 : decode cX12_init 228 = .ok (.bipush 120, 2) := by decide +kernel
theorem dX12_init_230 : decode cX12_init 230 = .ok (.newarray .byte, 2) := by decide +kernel
theorem dX12_init_232 : decode cX12_init 232 = .ok (.aastore, 1) := by decide +kernel
theorem dX12_init_233 : decode cX12_init 233 = .ok (.dup, 1) := by decide +kernel
theorem dX12_init_234 : decode cX12_init 234 = .ok (.iconst 1, 1) := by decide +kernel
theorem dX12_init_235 : decode cX12_init 235 = .ok (.bipush 120, 2) := by decide +kernel
theorem dX12_init_237 : decode cX12_init 237 = .ok (.newarray .byte, 2) := by decide +kernel
theorem dX12_init_239 : decode cX12_init 239 = .ok (.aastore, 1) := by decide +kernel
theorem dX12_init_240 : decode cX12_init 240 = .ok (.putfield 323, 3) := by decide +kernel
theorem dX12_init_243 : decode cX12_init 243 = .ok (.aload_n 0, 1) := by decide +kernel
theorem dX12_init_244 : decode cX12_init 244 = .ok (.iconst 2, 1) := by decide +kernel
theorem dX12_init_245 : decode cX12_init 245 = .ok (.newarray .int, 2) := by decide +kernel
theorem dX12_init_247 : decode cX12_init 247 = .ok (.putfield 346, 3) := by decide +kernel
theorem dX12_init_250 : decode cX12_init 250 = .ok (.aload_n 0, 1) := by decide +kernel
theorem dX12_init_251 : decode cX12_init 251 = .ok (.sipush 2048, 3) := by decide +kernel
theorem dX12_init_254 : decode cX12_init 254 = .ok (.newarray .byte, 2) := by decide +kernel
theorem dX12_init_256 : decode cX12_init 256 = .ok (.putfield 327, 3) := by decide +kernel
theorem dX12_init_259 : decode cX12_init 259 = .ok (.aload_n 0, 1) := by decide +kernel
theorem dX12_init_260 : decode cX12_init 260 = .ok (.sipush 2048, 3) := by decide +kernel
theorem dX12_init_263 : decode cX12_init 263 = .ok (.newarray .byte, 2) := by decide +kernel
theorem dX12_init_265 : decode cX12_init 265 = .ok (.putfield 333, 3) := by decide +kernel
theorem dX12_init_268 : decode cX12_init 268 = .ok (.aload_n 0, 1) := by decide +kernel
theorem dX12_init_269 : decode cX12_init 269 = .ok (.bipush 120, 2) := by decide +kernel
theorem dX12_init_271 : decode cX12_init 271 = .ok (.newarray .byte, 2) := by decide +kernel
theorem dX12_init_273 : decode cX12_init 273 = .ok (.putfield 358, 3) := by decide +kernel
theorem dX12_init_276 : decode cX12_init 276 = .ok (.aload_n 0, 1) := by decide +kernel
theorem dX12_init_277 : decode cX12_init 277 = .ok (.sipush 6200, 3) := by decide +kernel
theorem dX12_init_280 : decode cX12_init 280 = .ok (.newarray .int, 2) := by decide +kernel
theorem dX12_init_282 : decode cX12_init 282 = .ok (.putfield 361, 3) := by decide +kernel
theorem dX12_init_285 : decode cX12_init 285 = .ok (.aload_n 0, 1) := by decide +kernel
theorem dX12_init_286 : decode cX12_init 286 = .ok (.sipush 6200, 3) := by decide +kernel
theorem dX12_init_289 : decode cX12_init 289 = .ok (.newarray .int, 2) := by decide +kernel
theorem dX12_init_291 : decode cX12_init 291 = .ok (.putfield 370, 3) := by decide +kernel
theorem dX12_init_294 : decode cX12_init 294 = .ok (.aload_n 0, 1) := by decide +kernel
theorem dX12_init_295 : decode cX12_init 295 = .ok (.sipush 4000, 3) := by decide +kernel
theorem dX12_init_298 : decode cX12_init 298 = .ok (.newarray .byte, 2) := by decide +kernel
theorem dX12_init_300 : decode cX12_init 300 = .ok (.putfield 391, 3) := by decide +kernel
theorem dX12_init_303 : decode cX12_init 303 = .ok (.aload_n 0, 1) := by decide +kernel
theorem dX12_init_304 : decode cX12_init 304 = .ok (.bipush 16, 2) := by decide +kernel
theorem dX12_init_306 : decode cX12_init 306 = .ok (.newarray .int, 2) := by decide +kernel
theorem dX12_init_308 : decode cX12_init 308 = .ok (.putfield 286, 3) := by decide +kernel
theorem dX12_init_311 : decode cX12_init 311 = .ok (.aload_n 0, 1) := by decide +kernel
theorem dX12_init_312 : decode cX12_init 312 = .ok (.sipush 2000, 3) := by decide +kernel
theorem dX12_init_315 : decode cX12_init 315 = .ok (.newarray .boolean, 2) := by decide +kernel
theorem dX12_init_317 : decode cX12_init 317 = .ok (.putfield 394, 3) := by decide +kernel
theorem dX12_init_320 : decode cX12_init 320 = .ok (.aload_n 0, 1) := by decide +kernel
theorem dX12_init_321 : decode cX12_init 321 = .ok (.bipush 40, 2) := by decide +kernel
theorem dX12_init_323 : decode cX12_init 323 = .ok (.bipush 16, 2) := by decide +kernel
theorem dX12_init_325 : decode cX12_init 325 = .ok (.invokevirtual 397, 3) := by decide +kernel
theorem dX12_init_328 : decode cX12_init 328 = .ok (.pop, 1) := by decide +kernel
theorem dX12_init_329 : decode cX12_init 329 = .ok (.return_, 1) := by decide +kernel
set_option maxRecDepth 100000 in
set_option maxHeartbeats 1000000 in
theorem j_X12_init_303 {p : Program} {l : Launch} {e : Env} {s : State} {m : MethodId} {args : Array Value} {below : List Frame} {meth : Method} {c : Code} {D : va_G} {aC : Nat → ClassId} {b0 fu : Nat} {σ0 τ : tM} {v : Unit}  (C : tCx p l s m args meth c yX12_init.cls cX12_init 1 none D aC b0 σ0) (htab : ∀ x ∈ c.exceptionTable.toList, False) (hin : meth.name = yX12_init.name)  {x0 : Nat} {σ : tM} (hm : J_X12_init_303 b0 fu  x0 σ = some (v, τ)) : tX p l e s m args below meth c 1 2 45 D aC b0 σ0 (.inl none) τ 303 [(0, .ref (x0))] [] σ := by
  unfold J_X12_init_303 at hm
  refine zx_aload_n C dX12_init_303 0 rfl ?_
  refine zx_bipush (v := 16) C dX12_init_304 (by decide) ?_
  refine zx_newI C W_1_85 (by decide) (by decide) dX12_init_306 ?_
  refine zx_mem (fun ρ180 hρ180 => ?_)
  replace hm := ltb_e hm hρ180
  have k181 : tk ρ180 (b0 + tn σ) = .inr (0, ((16 : Int32)).toNatClampNeg) := by rw [hρ180]; exact sN_k _ _ _ _
  have i182 : tIn b0 ρ180 (b0 + tn σ) := by rw [hρ180]; exact sN_i _ _ _ _
  obtain ⟨k183, i184, hm⟩ := ckO_e hm
  refine zx_putF (j := 58) (ρ := sA (ρ180) (x0) 58 (some (b0 + tn σ))) C hin tC_11 k183 i184 (by decide) W_7_37 rfl rfl rfl rfl (sA_ok (fun _ => rfl)) dX12_init_308 ?_
  refine zx_aload_n C dX12_init_311 0 rfl ?_
  refine zx_sipush (v := 2000) C dX12_init_312 (by decide) ?_
  refine zx_newZ C W_1_86 (by decide) (by decide) dX12_init_315 ?_
  refine zx_mem (fun ρ185 hρ185 => ?_)
  replace hm := ltb_e hm hρ185
  have k186 : tk ρ185 (b0 + tn ρ180) = .inr (2, ((2000 : Int32)).toNatClampNeg) := by rw [hρ185]; exact sN_k _ _ _ _
  have i187 : tIn b0 ρ185 (b0 + tn ρ180) := by rw [hρ185]; exact sN_i _ _ _ _
  obtain ⟨k188, i189, hm⟩ := ckO_e hm
  refine zx_putF (j := 59) (ρ := sA (ρ185) (x0) 59 (some (b0 + tn ρ180))) C hin tC_11 k188 i189 (by decide) W_7_38 rfl rfl rfl rfl (sA_ok (fun _ => rfl)) dX12_init_317 ?_
  refine zx_aload_n C dX12_init_320 0 rfl ?_
  refine zx_bipush (v := 40) C dX12_init_321 (by decide) ?_
  refine zx_bipush (v := 16) C dX12_init_323 (by decide) ?_
  obtain ⟨v190, ρ191, h192, hm⟩ := cll_e hm
  refine zx_callV (σ := sA (ρ185) (x0) 59 (some (b0 + tn ρ180))) C [.int (40), .int (16)] tC_11 k188 i189 Y_X12_format W_6_205 W_6_206 W_6_207 (c_X12_format h192) (by decide) (by decide) rfl (Nat.le_of_ble_eq_true rfl) dX12_init_325 rfl ?_
  refine zx_pop C dX12_init_328 rfl ?_
  obtain ⟨rfl, rfl⟩ := ret_e hm
  exact zx_vret C rfl rfl rfl dX12_init_329
set_option maxRecDepth 100000 in
set_option maxHeartbeats 1000000 in
theorem j_X12_init_243 {p : Program} {l : Launch} {e : Env} {s : State} {m : MethodId} {args : Array Value} {below : List Frame} {meth : Method} {c : Code} {D : va_G} {aC : Nat → ClassId} {b0 fu : Nat} {σ0 τ : tM} {v : Unit}  (C : tCx p l s m args meth c yX12_init.cls cX12_init 1 none D aC b0 σ0) (htab : ∀ x ∈ c.exceptionTable.toList, False) (hin : meth.name = yX12_init.name)  {x0 : Nat} {σ : tM} (hm : J_X12_init_243 b0 fu  x0 σ = some (v, τ)) : tX p l e s m args below meth c 1 2 45 D aC b0 σ0 (.inl none) τ 243 [(0, .ref (x0))] [] σ := by
  unfold J_X12_init_243 at hm
  refine zx_aload_n C dX12_init_243 0 rfl ?_
  refine zx_iconst (v := 2) C dX12_init_244 (by decide) ?_
  refine zx_newI C W_1_85 (by decide) (by decide) dX12_init_245 ?_
  refine zx_mem (fun ρ145 hρ145 => ?_)
  replace hm := ltb_e hm hρ145
  have k146 : tk ρ145 (b0 + tn σ) = .inr (0, ((2 : Int32)).toNatClampNeg) := by rw [hρ145]; exact sN_k _ _ _ _
  have i147 : tIn b0 ρ145 (b0 + tn σ) := by rw [hρ145]; exact sN_i _ _ _ _
  obtain ⟨k148, i149, hm⟩ := ckO_e hm
  refine zx_putF (j := 48) (ρ := sA (ρ145) (x0) 48 (some (b0 + tn σ))) C hin tC_11 k148 i149 (by decide) W_7_27 rfl rfl rfl rfl (sA_ok (fun _ => rfl)) dX12_init_247 ?_
  refine zx_aload_n C dX12_init_250 0 rfl ?_
  refine zx_sipush (v := 2048) C dX12_init_251 (by decide) ?_
  refine zx_newB C W_1_156 (by decide) (by decide) dX12_init_254 ?_
  refine zx_mem (fun ρ150 hρ150 => ?_)
  replace hm := ltb_e hm hρ150
  have k151 : tk ρ150 (b0 + tn ρ145) = .inr (1, ((2048 : Int32)).toNatClampNeg) := by rw [hρ150]; exact sN_k _ _ _ _
  have i152 : tIn b0 ρ150 (b0 + tn ρ145) := by rw [hρ150]; exact sN_i _ _ _ _
  obtain ⟨k153, i154, hm⟩ := ckO_e hm
  refine zx_put (j := 49) (ρ := sA (ρ150) (x0) 49 (some (b0 + tn ρ145))) C tC_11 k153 i154 ⟨by decide, Or.inl W_7_28⟩ rfl rfl rfl (sA_ok (fun _ => rfl)) dX12_init_256 ?_
  refine zx_aload_n C dX12_init_259 0 rfl ?_
  refine zx_sipush (v := 2048) C dX12_init_260 (by decide) ?_
  refine zx_newB C W_1_156 (by decide) (by decide) dX12_init_263 ?_
  refine zx_mem (fun ρ155 hρ155 => ?_)
  replace hm := ltb_e hm hρ155
  have k156 : tk ρ155 (b0 + tn ρ150) = .inr (1, ((2048 : Int32)).toNatClampNeg) := by rw [hρ155]; exact sN_k _ _ _ _
  have i157 : tIn b0 ρ155 (b0 + tn ρ150) := by rw [hρ155]; exact sN_i _ _ _ _
  obtain ⟨k158, i159, hm⟩ := ckO_e hm
  refine zx_put (j := 50) (ρ := sA (ρ155) (x0) 50 (some (b0 + tn ρ150))) C tC_11 k158 i159 ⟨by decide, Or.inl W_7_29⟩ rfl rfl rfl (sA_ok (fun _ => rfl)) dX12_init_265 ?_
  refine zx_aload_n C dX12_init_268 0 rfl ?_
  refine zx_bipush (v := 120) C dX12_init_269 (by decide) ?_
  refine zx_newB C W_1_156 (by decide) (by decide) dX12_init_271 ?_
  refine zx_mem (fun ρ160 hρ160 => ?_)
  replace hm := ltb_e hm hρ160
  have k161 : tk ρ160 (b0 + tn ρ155) = .inr (1, ((120 : Int32)).toNatClampNeg) := by rw [hρ160]; exact sN_k _ _ _ _
  have i162 : tIn b0 ρ160 (b0 + tn ρ155) := by rw [hρ160]; exact sN_i _ _ _ _
  obtain ⟨k163, i164, hm⟩ := ckO_e hm
  refine zx_putF (j := 52) (ρ := sA (ρ160) (x0) 52 (some (b0 + tn ρ155))) C hin tC_11 k163 i164 (by decide) W_7_31 rfl rfl rfl rfl (sA_ok (fun _ => rfl)) dX12_init_273 ?_
  refine zx_aload_n C dX12_init_276 0 rfl ?_
  refine zx_sipush (v := 6200) C dX12_init_277 (by decide) ?_
  refine zx_newI C W_1_85 (by decide) (by decide) dX12_init_280 ?_
  refine zx_mem (fun ρ165 hρ165 => ?_)
  replace hm := ltb_e hm hρ165
  have k166 : tk ρ165 (b0 + tn ρ160) = .inr (0, ((6200 : Int32)).toNatClampNeg) := by rw [hρ165]; exact sN_k _ _ _ _
  have i167 : tIn b0 ρ165 (b0 + tn ρ160) := by rw [hρ165]; exact sN_i _ _ _ _
  obtain ⟨k168, i169, hm⟩ := ckO_e hm
  refine zx_putF (j := 54) (ρ := sA (ρ165) (x0) 54 (some (b0 + tn ρ160))) C hin tC_11 k168 i169 (by decide) W_7_33 rfl rfl rfl rfl (sA_ok (fun _ => rfl)) dX12_init_282 ?_
  refine zx_aload_n C dX12_init_285 0 rfl ?_
  refine zx_sipush (v := 6200) C dX12_init_286 (by decide) ?_
  refine zx_newI C W_1_85 (by decide) (by decide) dX12_init_289 ?_
  refine zx_mem (fun ρ170 hρ170 => ?_)
  replace hm := ltb_e hm hρ170
  have k171 : tk ρ170 (b0 + tn ρ165) = .inr (0, ((6200 : Int32)).toNatClampNeg) := by rw [hρ170]; exact sN_k _ _ _ _
  have i172 : tIn b0 ρ170 (b0 + tn ρ165) := by rw [hρ170]; exact sN_i _ _ _ _
  obtain ⟨k173, i174, hm⟩ := ckO_e hm
  refine zx_putF (j := 55) (ρ := sA (ρ170) (x0) 55 (some (b0 + tn ρ165))) C hin tC_11 k173 i174 (by decide) W_7_34 rfl rfl rfl rfl (sA_ok (fun _ => rfl)) dX12_init_291 ?_
  refine zx_aload_n C dX12_init_294 0 rfl ?_
  refine zx_sipush (v := 4000) C dX12_init_295 (by decide) ?_
  refine zx_newB C W_1_156 (by decide) (by decide) dX12_init_298 ?_
  refine zx_mem (fun ρ175 hρ175 => ?_)
  replace hm := ltb_e hm hρ175
  have k176 : tk ρ175 (b0 + tn ρ170) = .inr (1, ((4000 : Int32)).toNatClampNeg) := by rw [hρ175]; exact sN_k _ _ _ _
  have i177 : tIn b0 ρ175 (b0 + tn ρ170) := by rw [hρ175]; exact sN_i _ _ _ _
  obtain ⟨k178, i179, hm⟩ := ckO_e hm
  refine zx_putF (j := 56) (ρ := sA (ρ175) (x0) 56 (some (b0 + tn ρ170))) C hin tC_11 k178 i179 (by decide) W_7_35 rfl rfl rfl rfl (sA_ok (fun _ => rfl)) dX12_init_300 ?_
  exact zx_lv [0] [(0, .ref (x0))] rfl (j_X12_init_303 C htab hin    hm)
set_option maxRecDepth 100000 in
set_option maxHeartbeats 1000000 in
theorem j_X12_init_188 {p : Program} {l : Launch} {e : Env} {s : State} {m : MethodId} {args : Array Value} {below : List Frame} {meth : Method} {c : Code} {D : va_G} {aC : Nat → ClassId} {b0 fu : Nat} {σ0 τ : tM} {v : Unit}  (C : tCx p l s m args meth c yX12_init.cls cX12_init 1 none D aC b0 σ0) (htab : ∀ x ∈ c.exceptionTable.toList, False) (hin : meth.name = yX12_init.name)  {x0 : Nat} {σ : tM} (hm : J_X12_init_188 b0 fu  x0 σ = some (v, τ)) : tX p l e s m args below meth c 1 2 45 D aC b0 σ0 (.inl none) τ 188 [(0, .ref (x0))] [] σ := by
  unfold J_X12_init_188 at hm
  refine zx_aload_n C dX12_init_188 0 rfl ?_
  refine zx_bipush (v := 64) C dX12_init_189 (by decide) ?_
  refine zx_newI C W_1_85 (by decide) (by decide) dX12_init_191 ?_
  refine zx_mem (fun ρ106 hρ106 => ?_)
  replace hm := ltb_e hm hρ106
  have k107 : tk ρ106 (b0 + tn σ) = .inr (0, ((64 : Int32)).toNatClampNeg) := by rw [hρ106]; exact sN_k _ _ _ _
  have i108 : tIn b0 ρ106 (b0 + tn σ) := by rw [hρ106]; exact sN_i _ _ _ _
  obtain ⟨k109, i110, hm⟩ := ckO_e hm
  refine zx_put (j := 41) (ρ := sA (ρ106) (x0) 41 (some (b0 + tn σ))) C tC_11 k109 i110 ⟨by decide, Or.inl W_7_20⟩ rfl rfl rfl (sA_ok (fun _ => rfl)) dX12_init_193 ?_
  refine zx_aload_n C dX12_init_196 0 rfl ?_
  refine zx_bipush (v := 64) C dX12_init_197 (by decide) ?_
  refine zx_newI C W_1_85 (by decide) (by decide) dX12_init_199 ?_
  refine zx_mem (fun ρ111 hρ111 => ?_)
  replace hm := ltb_e hm hρ111
  have k112 : tk ρ111 (b0 + tn ρ106) = .inr (0, ((64 : Int32)).toNatClampNeg) := by rw [hρ111]; exact sN_k _ _ _ _
  have i113 : tIn b0 ρ111 (b0 + tn ρ106) := by rw [hρ111]; exact sN_i _ _ _ _
  obtain ⟨k114, i115, hm⟩ := ckO_e hm
  refine zx_put (j := 42) (ρ := sA (ρ111) (x0) 42 (some (b0 + tn ρ106))) C tC_11 k114 i115 ⟨by decide, Or.inl W_7_21⟩ rfl rfl rfl (sA_ok (fun _ => rfl)) dX12_init_201 ?_
  refine zx_aload_n C dX12_init_204 0 rfl ?_
  refine zx_bipush (v := 64) C dX12_init_205 (by decide) ?_
  refine zx_newI C W_1_85 (by decide) (by decide) dX12_init_207 ?_
  refine zx_mem (fun ρ116 hρ116 => ?_)
  replace hm := ltb_e hm hρ116
  have k117 : tk ρ116 (b0 + tn ρ111) = .inr (0, ((64 : Int32)).toNatClampNeg) := by rw [hρ116]; exact sN_k _ _ _ _
  have i118 : tIn b0 ρ116 (b0 + tn ρ111) := by rw [hρ116]; exact sN_i _ _ _ _
  obtain ⟨k119, i120, hm⟩ := ckO_e hm
  refine zx_put (j := 43) (ρ := sA (ρ116) (x0) 43 (some (b0 + tn ρ111))) C tC_11 k119 i120 ⟨by decide, Or.inl W_7_22⟩ rfl rfl rfl (sA_ok (fun _ => rfl)) dX12_init_209 ?_
  refine zx_aload_n C dX12_init_212 0 rfl ?_
  refine zx_sipush (v := 1024) C dX12_init_213 (by decide) ?_
  refine zx_newI C W_1_85 (by decide) (by decide) dX12_init_216 ?_
  refine zx_mem (fun ρ121 hρ121 => ?_)
  replace hm := ltb_e hm hρ121
  have k122 : tk ρ121 (b0 + tn ρ116) = .inr (0, ((1024 : Int32)).toNatClampNeg) := by rw [hρ121]; exact sN_k _ _ _ _
  have i123 : tIn b0 ρ121 (b0 + tn ρ116) := by rw [hρ121]; exact sN_i _ _ _ _
  obtain ⟨k124, i125, hm⟩ := ckO_e hm
  refine zx_put (j := 44) (ρ := sA (ρ121) (x0) 44 (some (b0 + tn ρ116))) C tC_11 k124 i125 ⟨by decide, Or.inl W_7_23⟩ rfl rfl rfl (sA_ok (fun _ => rfl)) dX12_init_218 ?_
  refine zx_aload_n C dX12_init_221 0 rfl ?_
  refine zx_iconst (v := 2) C dX12_init_222 (by decide) ?_
  refine zx_new5 C W_6_203 W_6_204 (by decide) (by decide) dX12_init_223 ?_
  refine zx_mem (fun ρ126 hρ126 => ?_)
  replace hm := ltb_e hm hρ126
  have k127 : tk ρ126 (b0 + tn ρ121) = .inr (5, ((2 : Int32)).toNatClampNeg) := by rw [hρ126]; exact sN_k _ _ _ _
  have i128 : tIn b0 ρ126 (b0 + tn ρ121) := by rw [hρ126]; exact sN_i _ _ _ _
  refine zx_dup C dX12_init_226 rfl ?_
  refine zx_iconst (v := 0) C dX12_init_227 (by decide) ?_
  refine zx_bipush (v := 120) C dX12_init_228 (by decide) ?_
  refine zx_newB C W_1_156 (by decide) (by decide) dX12_init_230 ?_
  refine zx_mem (fun ρ129 hρ129 => ?_)
  replace hm := ltb_e hm hρ129
  have k130 : tk ρ129 (b0 + tn ρ126) = .inr (1, ((120 : Int32)).toNatClampNeg) := by rw [hρ129]; exact sN_k _ _ _ _
  have i131 : tIn b0 ρ129 (b0 + tn ρ126) := by rw [hρ129]; exact sN_i _ _ _ _
  obtain ⟨n134, k132, i133, hm⟩ := ckR_e hm
  obtain ⟨h135, hm⟩ := ckI_e hm
  refine zx_ast5 C W_6_204 k132 i133 k130 i131 h135 dX12_init_232 ?_
  refine zx_dup C dX12_init_233 rfl ?_
  refine zx_iconst (v := 1) C dX12_init_234 (by decide) ?_
  refine zx_bipush (v := 120) C dX12_init_235 (by decide) ?_
  refine zx_newB C W_1_156 (by decide) (by decide) dX12_init_237 ?_
  refine zx_mem (fun ρ136 hρ136 => ?_)
  replace hm := ltb_e hm hρ136
  have k137 : tk ρ136 (b0 + tn ρ129) = .inr (1, ((120 : Int32)).toNatClampNeg) := by rw [hρ136]; exact sN_k _ _ _ _
  have i138 : tIn b0 ρ136 (b0 + tn ρ129) := by rw [hρ136]; exact sN_i _ _ _ _
  obtain ⟨n141, k139, i140, hm⟩ := ckR_e hm
  obtain ⟨h142, hm⟩ := ckI_e hm
  refine zx_ast5 C W_6_204 k139 i140 k137 i138 h142 dX12_init_239 ?_
  obtain ⟨k143, i144, hm⟩ := ckO_e hm
  refine zx_putF (j := 47) (ρ := sA (sA (ρ136) (b0 + tn ρ121) (((1 : Int32)).toNatClampNeg) (some (b0 + tn ρ129))) (x0) 47 (some (b0 + tn ρ121))) C hin tC_11 k143 i144 (by decide) W_7_26 rfl rfl rfl rfl (sA_ok (fun _ => rfl)) dX12_init_240 ?_
  exact zx_lv [0] [(0, .ref (x0))] rfl (j_X12_init_243 C htab hin    hm)
set_option maxRecDepth 100000 in
set_option maxHeartbeats 1000000 in
theorem j_X12_init_130 {p : Program} {l : Launch} {e : Env} {s : State} {m : MethodId} {args : Array Value} {below : List Frame} {meth : Method} {c : Code} {D : va_G} {aC : Nat → ClassId} {b0 fu : Nat} {σ0 τ : tM} {v : Unit}  (C : tCx p l s m args meth c yX12_init.cls cX12_init 1 none D aC b0 σ0) (htab : ∀ x ∈ c.exceptionTable.toList, False) (hin : meth.name = yX12_init.name)  {x0 : Nat} {σ : tM} (hm : J_X12_init_130 b0 fu  x0 σ = some (v, τ)) : tX p l e s m args below meth c 1 2 45 D aC b0 σ0 (.inl none) τ 130 [(0, .ref (x0))] [] σ := by
  unfold J_X12_init_130 at hm
  refine zx_aload_n C dX12_init_130 0 rfl ?_
  refine zx_bipush (v := 64) C dX12_init_131 (by decide) ?_
  refine zx_newZ C W_1_86 (by decide) (by decide) dX12_init_133 ?_
  refine zx_mem (fun ρ71 hρ71 => ?_)
  replace hm := ltb_e hm hρ71
  have k72 : tk ρ71 (b0 + tn σ) = .inr (2, ((64 : Int32)).toNatClampNeg) := by rw [hρ71]; exact sN_k _ _ _ _
  have i73 : tIn b0 ρ71 (b0 + tn σ) := by rw [hρ71]; exact sN_i _ _ _ _
  obtain ⟨k74, i75, hm⟩ := ckO_e hm
  refine zx_putF (j := 25) (ρ := sA (ρ71) (x0) 25 (some (b0 + tn σ))) C hin tC_11 k74 i75 (by decide) W_7_4 rfl rfl rfl rfl (sA_ok (fun _ => rfl)) dX12_init_135 ?_
  refine zx_aload_n C dX12_init_138 0 rfl ?_
  refine zx_sipush (v := 6200) C dX12_init_139 (by decide) ?_
  refine zx_newZ C W_1_86 (by decide) (by decide) dX12_init_142 ?_
  refine zx_mem (fun ρ76 hρ76 => ?_)
  replace hm := ltb_e hm hρ76
  have k77 : tk ρ76 (b0 + tn ρ71) = .inr (2, ((6200 : Int32)).toNatClampNeg) := by rw [hρ76]; exact sN_k _ _ _ _
  have i78 : tIn b0 ρ76 (b0 + tn ρ71) := by rw [hρ76]; exact sN_i _ _ _ _
  obtain ⟨k79, i80, hm⟩ := ckO_e hm
  refine zx_putF (j := 26) (ρ := sA (ρ76) (x0) 26 (some (b0 + tn ρ71))) C hin tC_11 k79 i80 (by decide) W_7_5 rfl rfl rfl rfl (sA_ok (fun _ => rfl)) dX12_init_144 ?_
  refine zx_aload_n C dX12_init_147 0 rfl ?_
  refine zx_sipush (v := 6200) C dX12_init_148 (by decide) ?_
  refine zx_newZ C W_1_86 (by decide) (by decide) dX12_init_151 ?_
  refine zx_mem (fun ρ81 hρ81 => ?_)
  replace hm := ltb_e hm hρ81
  have k82 : tk ρ81 (b0 + tn ρ76) = .inr (2, ((6200 : Int32)).toNatClampNeg) := by rw [hρ81]; exact sN_k _ _ _ _
  have i83 : tIn b0 ρ81 (b0 + tn ρ76) := by rw [hρ81]; exact sN_i _ _ _ _
  obtain ⟨k84, i85, hm⟩ := ckO_e hm
  refine zx_putF (j := 27) (ρ := sA (ρ81) (x0) 27 (some (b0 + tn ρ76))) C hin tC_11 k84 i85 (by decide) W_7_6 rfl rfl rfl rfl (sA_ok (fun _ => rfl)) dX12_init_153 ?_
  refine zx_aload_n C dX12_init_156 0 rfl ?_
  refine zx_bipush (v := 64) C dX12_init_157 (by decide) ?_
  refine zx_newI C W_1_85 (by decide) (by decide) dX12_init_159 ?_
  refine zx_mem (fun ρ86 hρ86 => ?_)
  replace hm := ltb_e hm hρ86
  have k87 : tk ρ86 (b0 + tn ρ81) = .inr (0, ((64 : Int32)).toNatClampNeg) := by rw [hρ86]; exact sN_k _ _ _ _
  have i88 : tIn b0 ρ86 (b0 + tn ρ81) := by rw [hρ86]; exact sN_i _ _ _ _
  obtain ⟨k89, i90, hm⟩ := ckO_e hm
  refine zx_put (j := 37) (ρ := sA (ρ86) (x0) 37 (some (b0 + tn ρ81))) C tC_11 k89 i90 ⟨by decide, Or.inl W_7_16⟩ rfl rfl rfl (sA_ok (fun _ => rfl)) dX12_init_161 ?_
  refine zx_aload_n C dX12_init_164 0 rfl ?_
  refine zx_bipush (v := 64) C dX12_init_165 (by decide) ?_
  refine zx_newI C W_1_85 (by decide) (by decide) dX12_init_167 ?_
  refine zx_mem (fun ρ91 hρ91 => ?_)
  replace hm := ltb_e hm hρ91
  have k92 : tk ρ91 (b0 + tn ρ86) = .inr (0, ((64 : Int32)).toNatClampNeg) := by rw [hρ91]; exact sN_k _ _ _ _
  have i93 : tIn b0 ρ91 (b0 + tn ρ86) := by rw [hρ91]; exact sN_i _ _ _ _
  obtain ⟨k94, i95, hm⟩ := ckO_e hm
  refine zx_put (j := 38) (ρ := sA (ρ91) (x0) 38 (some (b0 + tn ρ86))) C tC_11 k94 i95 ⟨by decide, Or.inl W_7_17⟩ rfl rfl rfl (sA_ok (fun _ => rfl)) dX12_init_169 ?_
  refine zx_aload_n C dX12_init_172 0 rfl ?_
  refine zx_bipush (v := 64) C dX12_init_173 (by decide) ?_
  refine zx_newI C W_1_85 (by decide) (by decide) dX12_init_175 ?_
  refine zx_mem (fun ρ96 hρ96 => ?_)
  replace hm := ltb_e hm hρ96
  have k97 : tk ρ96 (b0 + tn ρ91) = .inr (0, ((64 : Int32)).toNatClampNeg) := by rw [hρ96]; exact sN_k _ _ _ _
  have i98 : tIn b0 ρ96 (b0 + tn ρ91) := by rw [hρ96]; exact sN_i _ _ _ _
  obtain ⟨k99, i100, hm⟩ := ckO_e hm
  refine zx_put (j := 39) (ρ := sA (ρ96) (x0) 39 (some (b0 + tn ρ91))) C tC_11 k99 i100 ⟨by decide, Or.inl W_7_18⟩ rfl rfl rfl (sA_ok (fun _ => rfl)) dX12_init_177 ?_
  refine zx_aload_n C dX12_init_180 0 rfl ?_
  refine zx_bipush (v := 64) C dX12_init_181 (by decide) ?_
  refine zx_newI C W_1_85 (by decide) (by decide) dX12_init_183 ?_
  refine zx_mem (fun ρ101 hρ101 => ?_)
  replace hm := ltb_e hm hρ101
  have k102 : tk ρ101 (b0 + tn ρ96) = .inr (0, ((64 : Int32)).toNatClampNeg) := by rw [hρ101]; exact sN_k _ _ _ _
  have i103 : tIn b0 ρ101 (b0 + tn ρ96) := by rw [hρ101]; exact sN_i _ _ _ _
  obtain ⟨k104, i105, hm⟩ := ckO_e hm
  refine zx_put (j := 40) (ρ := sA (ρ101) (x0) 40 (some (b0 + tn ρ96))) C tC_11 k104 i105 ⟨by decide, Or.inl W_7_19⟩ rfl rfl rfl (sA_ok (fun _ => rfl)) dX12_init_185 ?_
  exact zx_lv [0] [(0, .ref (x0))] rfl (j_X12_init_188 C htab hin    hm)
set_option maxRecDepth 100000 in
set_option maxHeartbeats 1000000 in
theorem j_X12_init_67 {p : Program} {l : Launch} {e : Env} {s : State} {m : MethodId} {args : Array Value} {below : List Frame} {meth : Method} {c : Code} {D : va_G} {aC : Nat → ClassId} {b0 fu : Nat} {σ0 τ : tM} {v : Unit}  (C : tCx p l s m args meth c yX12_init.cls cX12_init 1 none D aC b0 σ0) (htab : ∀ x ∈ c.exceptionTable.toList, False) (hin : meth.name = yX12_init.name)  {x0 : Nat} {σ : tM} (hm : J_X12_init_67 b0 fu  x0 σ = some (v, τ)) : tX p l e s m args below meth c 1 2 45 D aC b0 σ0 (.inl none) τ 67 [(0, .ref (x0))] [] σ := by
  unfold J_X12_init_67 at hm
  refine zx_aload_n C dX12_init_67 0 rfl ?_
  refine zx_sipush (v := 256) C dX12_init_68 (by decide) ?_
  refine zx_newI C W_1_85 (by decide) (by decide) dX12_init_71 ?_
  refine zx_mem (fun ρ36 hρ36 => ?_)
  replace hm := ltb_e hm hρ36
  have k37 : tk ρ36 (b0 + tn σ) = .inr (0, ((256 : Int32)).toNatClampNeg) := by rw [hρ36]; exact sN_k _ _ _ _
  have i38 : tIn b0 ρ36 (b0 + tn σ) := by rw [hρ36]; exact sN_i _ _ _ _
  obtain ⟨k39, i40, hm⟩ := ckO_e hm
  refine zx_putF (j := 12) (ρ := sA (ρ36) (x0) 12 (some (b0 + tn σ))) C hin tC_11 k39 i40 (by decide) W_6_231 rfl rfl rfl rfl (sA_ok (fun _ => rfl)) dX12_init_73 ?_
  refine zx_aload_n C dX12_init_76 0 rfl ?_
  refine zx_sipush (v := 256) C dX12_init_77 (by decide) ?_
  refine zx_newI C W_1_85 (by decide) (by decide) dX12_init_80 ?_
  refine zx_mem (fun ρ41 hρ41 => ?_)
  replace hm := ltb_e hm hρ41
  have k42 : tk ρ41 (b0 + tn ρ36) = .inr (0, ((256 : Int32)).toNatClampNeg) := by rw [hρ41]; exact sN_k _ _ _ _
  have i43 : tIn b0 ρ41 (b0 + tn ρ36) := by rw [hρ41]; exact sN_i _ _ _ _
  obtain ⟨k44, i45, hm⟩ := ckO_e hm
  refine zx_putF (j := 13) (ρ := sA (ρ41) (x0) 13 (some (b0 + tn ρ36))) C hin tC_11 k44 i45 (by decide) W_6_232 rfl rfl rfl rfl (sA_ok (fun _ => rfl)) dX12_init_82 ?_
  refine zx_aload_n C dX12_init_85 0 rfl ?_
  refine zx_ldcw (v := 65536) C W_6_202 dX12_init_86 ?_
  refine zx_newB C W_1_156 (by decide) (by decide) dX12_init_89 ?_
  refine zx_mem (fun ρ46 hρ46 => ?_)
  replace hm := ltb_e hm hρ46
  have k47 : tk ρ46 (b0 + tn ρ41) = .inr (1, ((65536 : Int32)).toNatClampNeg) := by rw [hρ46]; exact sN_k _ _ _ _
  have i48 : tIn b0 ρ46 (b0 + tn ρ41) := by rw [hρ46]; exact sN_i _ _ _ _
  obtain ⟨k49, i50, hm⟩ := ckO_e hm
  refine zx_putF (j := 14) (ρ := sA (ρ46) (x0) 14 (some (b0 + tn ρ41))) C hin tC_11 k49 i50 (by decide) W_6_233 rfl rfl rfl rfl (sA_ok (fun _ => rfl)) dX12_init_91 ?_
  refine zx_aload_n C dX12_init_94 0 rfl ?_
  refine zx_sipush (v := 6200) C dX12_init_95 (by decide) ?_
  refine zx_newI C W_1_85 (by decide) (by decide) dX12_init_98 ?_
  refine zx_mem (fun ρ51 hρ51 => ?_)
  replace hm := ltb_e hm hρ51
  have k52 : tk ρ51 (b0 + tn ρ46) = .inr (0, ((6200 : Int32)).toNatClampNeg) := by rw [hρ51]; exact sN_k _ _ _ _
  have i53 : tIn b0 ρ51 (b0 + tn ρ46) := by rw [hρ51]; exact sN_i _ _ _ _
  obtain ⟨k54, i55, hm⟩ := ckO_e hm
  refine zx_putF (j := 17) (ρ := sA (ρ51) (x0) 17 (some (b0 + tn ρ46))) C hin tC_11 k54 i55 (by decide) W_6_236 rfl rfl rfl rfl (sA_ok (fun _ => rfl)) dX12_init_100 ?_
  refine zx_aload_n C dX12_init_103 0 rfl ?_
  refine zx_ldcw (v := 512000) C W_6_201 dX12_init_104 ?_
  refine zx_newB C W_1_156 (by decide) (by decide) dX12_init_107 ?_
  refine zx_mem (fun ρ56 hρ56 => ?_)
  replace hm := ltb_e hm hρ56
  have k57 : tk ρ56 (b0 + tn ρ51) = .inr (1, ((512000 : Int32)).toNatClampNeg) := by rw [hρ56]; exact sN_k _ _ _ _
  have i58 : tIn b0 ρ56 (b0 + tn ρ51) := by rw [hρ56]; exact sN_i _ _ _ _
  obtain ⟨k59, i60, hm⟩ := ckO_e hm
  refine zx_putF (j := 22) (ρ := sA (ρ56) (x0) 22 (some (b0 + tn ρ51))) C hin tC_11 k59 i60 (by decide) W_7_1 rfl rfl rfl rfl (sA_ok (fun _ => rfl)) dX12_init_109 ?_
  refine zx_aload_n C dX12_init_112 0 rfl ?_
  refine zx_sipush (v := 2000) C dX12_init_113 (by decide) ?_
  refine zx_newZ C W_1_86 (by decide) (by decide) dX12_init_116 ?_
  refine zx_mem (fun ρ61 hρ61 => ?_)
  replace hm := ltb_e hm hρ61
  have k62 : tk ρ61 (b0 + tn ρ56) = .inr (2, ((2000 : Int32)).toNatClampNeg) := by rw [hρ61]; exact sN_k _ _ _ _
  have i63 : tIn b0 ρ61 (b0 + tn ρ56) := by rw [hρ61]; exact sN_i _ _ _ _
  obtain ⟨k64, i65, hm⟩ := ckO_e hm
  refine zx_putF (j := 23) (ρ := sA (ρ61) (x0) 23 (some (b0 + tn ρ56))) C hin tC_11 k64 i65 (by decide) W_7_2 rfl rfl rfl rfl (sA_ok (fun _ => rfl)) dX12_init_118 ?_
  refine zx_aload_n C dX12_init_121 0 rfl ?_
  refine zx_sipush (v := 2000) C dX12_init_122 (by decide) ?_
  refine zx_newI C W_1_85 (by decide) (by decide) dX12_init_125 ?_
  refine zx_mem (fun ρ66 hρ66 => ?_)
  replace hm := ltb_e hm hρ66
  have k67 : tk ρ66 (b0 + tn ρ61) = .inr (0, ((2000 : Int32)).toNatClampNeg) := by rw [hρ66]; exact sN_k _ _ _ _
  have i68 : tIn b0 ρ66 (b0 + tn ρ61) := by rw [hρ66]; exact sN_i _ _ _ _
  obtain ⟨k69, i70, hm⟩ := ckO_e hm
  refine zx_putF (j := 24) (ρ := sA (ρ66) (x0) 24 (some (b0 + tn ρ61))) C hin tC_11 k69 i70 (by decide) W_7_3 rfl rfl rfl rfl (sA_ok (fun _ => rfl)) dX12_init_127 ?_
  exact zx_lv [0] [(0, .ref (x0))] rfl (j_X12_init_130 C htab hin    hm)
set_option maxRecDepth 100000 in
set_option maxHeartbeats 1000000 in
theorem c_X12_init {l : Launch} {D : va_G} {aC : Nat → ClassId} {b0 fu : Nat} {a0 : Nat} {σ τ : tM} {v : Unit} (hm : m_X12_init b0 fu a0 σ = some (v, τ)) : tMt l D aC b0 yX12_init (Cond.code yX12_init cX12_init 1 none) 2 45 [.ref (a0)] σ (.inl none) τ := by
  unfold m_X12_init at hm
  obtain ⟨hg, hm⟩ := grw_e hm
  refine tMt_of (n := 0) rfl (Nat.le_of_ble_eq_true rfl) hg ?_
  intro p e s m below meth c C htab hin
  refine zx_lv [0] [(0, .ref (a0))] rfl ?_
  refine zx_aload_n C dX12_init_0 0 rfl ?_
  refine zx_obj C W_6_199 W_1_26 W_1_27 (by decide) (by decide) (Nat.le_of_ble_eq_true rfl) dX12_init_1 ?_
  refine zx_aload_n C dX12_init_4 0 rfl ?_
  refine zx_ldcw (v := 554080) C W_6_200 dX12_init_5 ?_
  refine zx_newI C W_1_85 (by decide) (by decide) dX12_init_8 ?_
  refine zx_mem (fun ρ1 hρ1 => ?_)
  replace hm := ltb_e hm hρ1
  have k2 : tk ρ1 (b0 + tn σ) = .inr (0, ((554080 : Int32)).toNatClampNeg) := by rw [hρ1]; exact sN_k _ _ _ _
  have i3 : tIn b0 ρ1 (b0 + tn σ) := by rw [hρ1]; exact sN_i _ _ _ _
  obtain ⟨k4, i5, hm⟩ := ckO_e hm
  refine zx_putF (j := 1) (ρ := sA (ρ1) (a0) 1 (some (b0 + tn σ))) C hin tC_11 k4 i5 (by decide) W_6_221 rfl rfl rfl rfl (sA_ok (fun _ => rfl)) dX12_init_10 ?_
  refine zx_aload_n C dX12_init_13 0 rfl ?_
  refine zx_sipush (v := 4096) C dX12_init_14 (by decide) ?_
  refine zx_newI C W_1_85 (by decide) (by decide) dX12_init_17 ?_
  refine zx_mem (fun ρ6 hρ6 => ?_)
  replace hm := ltb_e hm hρ6
  have k7 : tk ρ6 (b0 + tn ρ1) = .inr (0, ((4096 : Int32)).toNatClampNeg) := by rw [hρ6]; exact sN_k _ _ _ _
  have i8 : tIn b0 ρ6 (b0 + tn ρ1) := by rw [hρ6]; exact sN_i _ _ _ _
  obtain ⟨k9, i10, hm⟩ := ckO_e hm
  refine zx_put (j := 2) (ρ := sA (ρ6) (a0) 2 (some (b0 + tn ρ1))) C tC_11 k9 i10 ⟨by decide, Or.inl W_6_222⟩ rfl rfl rfl (sA_ok (fun _ => rfl)) dX12_init_19 ?_
  refine zx_aload_n C dX12_init_22 0 rfl ?_
  refine zx_sipush (v := 4096) C dX12_init_23 (by decide) ?_
  refine zx_newI C W_1_85 (by decide) (by decide) dX12_init_26 ?_
  refine zx_mem (fun ρ11 hρ11 => ?_)
  replace hm := ltb_e hm hρ11
  have k12 : tk ρ11 (b0 + tn ρ6) = .inr (0, ((4096 : Int32)).toNatClampNeg) := by rw [hρ11]; exact sN_k _ _ _ _
  have i13 : tIn b0 ρ11 (b0 + tn ρ6) := by rw [hρ11]; exact sN_i _ _ _ _
  obtain ⟨k14, i15, hm⟩ := ckO_e hm
  refine zx_put (j := 3) (ρ := sA (ρ11) (a0) 3 (some (b0 + tn ρ6))) C tC_11 k14 i15 ⟨by decide, Or.inl W_6_223⟩ rfl rfl rfl (sA_ok (fun _ => rfl)) dX12_init_28 ?_
  refine zx_aload_n C dX12_init_31 0 rfl ?_
  refine zx_sipush (v := 6200) C dX12_init_32 (by decide) ?_
  refine zx_newI C W_1_85 (by decide) (by decide) dX12_init_35 ?_
  refine zx_mem (fun ρ16 hρ16 => ?_)
  replace hm := ltb_e hm hρ16
  have k17 : tk ρ16 (b0 + tn ρ11) = .inr (0, ((6200 : Int32)).toNatClampNeg) := by rw [hρ16]; exact sN_k _ _ _ _
  have i18 : tIn b0 ρ16 (b0 + tn ρ11) := by rw [hρ16]; exact sN_i _ _ _ _
  obtain ⟨k19, i20, hm⟩ := ckO_e hm
  refine zx_putF (j := 8) (ρ := sA (ρ16) (a0) 8 (some (b0 + tn ρ11))) C hin tC_11 k19 i20 (by decide) W_6_227 rfl rfl rfl rfl (sA_ok (fun _ => rfl)) dX12_init_37 ?_
  refine zx_aload_n C dX12_init_40 0 rfl ?_
  refine zx_sipush (v := 6200) C dX12_init_41 (by decide) ?_
  refine zx_newI C W_1_85 (by decide) (by decide) dX12_init_44 ?_
  refine zx_mem (fun ρ21 hρ21 => ?_)
  replace hm := ltb_e hm hρ21
  have k22 : tk ρ21 (b0 + tn ρ16) = .inr (0, ((6200 : Int32)).toNatClampNeg) := by rw [hρ21]; exact sN_k _ _ _ _
  have i23 : tIn b0 ρ21 (b0 + tn ρ16) := by rw [hρ21]; exact sN_i _ _ _ _
  obtain ⟨k24, i25, hm⟩ := ckO_e hm
  refine zx_putF (j := 9) (ρ := sA (ρ21) (a0) 9 (some (b0 + tn ρ16))) C hin tC_11 k24 i25 (by decide) W_6_228 rfl rfl rfl rfl (sA_ok (fun _ => rfl)) dX12_init_46 ?_
  refine zx_aload_n C dX12_init_49 0 rfl ?_
  refine zx_ldcw (v := 512000) C W_6_201 dX12_init_50 ?_
  refine zx_newB C W_1_156 (by decide) (by decide) dX12_init_53 ?_
  refine zx_mem (fun ρ26 hρ26 => ?_)
  replace hm := ltb_e hm hρ26
  have k27 : tk ρ26 (b0 + tn ρ21) = .inr (1, ((512000 : Int32)).toNatClampNeg) := by rw [hρ26]; exact sN_k _ _ _ _
  have i28 : tIn b0 ρ26 (b0 + tn ρ21) := by rw [hρ26]; exact sN_i _ _ _ _
  obtain ⟨k29, i30, hm⟩ := ckO_e hm
  refine zx_putF (j := 10) (ρ := sA (ρ26) (a0) 10 (some (b0 + tn ρ21))) C hin tC_11 k29 i30 (by decide) W_6_229 rfl rfl rfl rfl (sA_ok (fun _ => rfl)) dX12_init_55 ?_
  refine zx_aload_n C dX12_init_58 0 rfl ?_
  refine zx_sipush (v := 256) C dX12_init_59 (by decide) ?_
  refine zx_newI C W_1_85 (by decide) (by decide) dX12_init_62 ?_
  refine zx_mem (fun ρ31 hρ31 => ?_)
  replace hm := ltb_e hm hρ31
  have k32 : tk ρ31 (b0 + tn ρ26) = .inr (0, ((256 : Int32)).toNatClampNeg) := by rw [hρ31]; exact sN_k _ _ _ _
  have i33 : tIn b0 ρ31 (b0 + tn ρ26) := by rw [hρ31]; exact sN_i _ _ _ _
  obtain ⟨k34, i35, hm⟩ := ckO_e hm
  refine zx_putF (j := 11) (ρ := sA (ρ31) (a0) 11 (some (b0 + tn ρ26))) C hin tC_11 k34 i35 (by decide) W_6_230 rfl rfl rfl rfl (sA_ok (fun _ => rfl)) dX12_init_64 ?_
  exact zx_lv [0] [(0, .ref (a0))] rfl (j_X12_init_67 C htab hin    hm)
