abbrev cX12_walk : ByteArray := prog_13_method_58_code
def yX12_walk : MethodName := ⟨"SyncTreeModel", "walk", "(Z)I"⟩
theorem Y_X12_walk : tY yX12_walk cX12_walk 12 (some .int) 1 := ⟨W_8_35, W_1_14, ⟨by decide +kernel, by decide +kernel⟩, by decide +kernel⟩
theorem dX12_walk_0 : decode cX12_walk 0 = .ok (.iconst 0, 1) := by decide +kernel
theorem dX12_walk_1 : decode cX12_walk 1 = .ok (.istore_n 2, 1) := by decide +kernel
theorem dX12_walk_2 : decode cX12_walk 2 = .ok (.iconst 0, 1) := by decide +kernel
theorem dX12_walk_3 : decode cX12_walk 3 = .ok (.istore_n 3, 1) := by decide +kernel
theorem dX12_walk_4 : decode cX12_walk 4 = .ok (.aload_n 0, 1) := by decide +kernel
theorem dX12_walk_5 : decode cX12_walk 5 = .ok (.iconst 0, 1) := by decide +kernel
theorem dX12_walk_6 : decode cX12_walk 6 = .ok (.invokevirtual 336, 3) := by decide +kernel
theorem dX12_walk_9 : decode cX12_walk 9 = .ok (.istore 4, 2) := by decide +kernel
theorem dX12_walk_11 : decode cX12_walk 11 = .ok (.iload 4, 2) := by decide +kernel
theorem dX12_walk_13 : decode cX12_walk 13 = .ok (.aload_n 0, 1) := by decide +kernel
theorem dX12_walk_14 : decode cX12_walk 14 = .ok (.getfield 330, 3) := by decide +kernel
theorem dX12_walk_17 : decode cX12_walk 17 = .ok (.if_icmp .ge 277, 3) := by decide +kernel
theorem dX12_walk_20 : decode cX12_walk 20 = .ok (.iload 4, 2) := by decide +kernel
theorem dX12_walk_22 : decode cX12_walk 22 = .ok (.istore 5, 2) := by decide +kernel
theorem dX12_walk_24 : decode cX12_walk 24 = .ok (.iload 5, 2) := by decide +kernel
theorem dX12_walk_26 : decode cX12_walk 26 = .ok (.aload_n 0, 1) := by decide +kernel
theorem dX12_walk_27 : decode cX12_walk 27 = .ok (.getfield 330, 3) := by decide +kernel
theorem dX12_walk_30 : decode cX12_walk 30 = .ok (.if_icmp .ge 21, 3) := by decide +kernel
theorem dX12_walk_33 : decode cX12_walk 33 = .ok (.aload_n 0, 1) := by decide +kernel
theorem dX12_walk_34 : decode cX12_walk 34 = .ok (.getfield 327, 3) := by decide +kernel
theorem dX12_walk_37 : decode cX12_walk 37 = .ok (.iload 5, 2) := by decide +kernel
theorem dX12_walk_39 : decode cX12_walk 39 = .ok (.baload, 1) := by decide +kernel
theorem dX12_walk_40 : decode cX12_walk 40 = .ok (.bipush 47, 2) := by decide +kernel
theorem dX12_walk_42 : decode cX12_walk 42 = .ok (.if_icmp .eq 9, 3) := by decide +kernel
theorem dX12_walk_45 : decode cX12_walk 45 = .ok (.iinc 5 1, 3) := by decide +kernel
theorem dX12_walk_48 : decode cX12_walk 48 = .ok (.goto (-24), 3) := by decide +kernel
theorem dX12_walk_51 : decode cX12_walk 51 = .ok (.iload 5, 2) := by decide +kernel
theorem dX12_walk_53 : decode cX12_walk 53 = .ok (.iload 4, 2) := by decide +kernel
theorem dX12_walk_55 : decode cX12_walk 55 = .ok (.isub, 1) := by decide +kernel
theorem dX12_walk_56 : decode cX12_walk 56 = .ok (.istore 6, 2) := by decide +kernel
theorem dX12_walk_58 : decode cX12_walk 58 = .ok (.aload_n 0, 1) := by decide +kernel
theorem dX12_walk_59 : decode cX12_walk 59 = .ok (.iload 5, 2) := by decide +kernel
theorem dX12_walk_61 : decode cX12_walk 61 = .ok (.invokevirtual 336, 3) := by decide +kernel
theorem dX12_walk_64 : decode cX12_walk 64 = .ok (.istore 7, 2) := by decide +kernel
theorem dX12_walk_66 : decode cX12_walk 66 = .ok (.aload_n 0, 1) := by decide +kernel
theorem dX12_walk_67 : decode cX12_walk 67 = .ok (.iload_n 2, 1) := by decide +kernel
theorem dX12_walk_68 : decode cX12_walk 68 = .ok (.iconst 0, 1) := by decide +kernel
theorem dX12_walk_69 : decode cX12_walk 69 = .ok (.invokevirtual 247, 3) := by decide +kernel
theorem dX12_walk_72 : decode cX12_walk 72 = .ok (.iconst 2, 1) := by decide +kernel
theorem dX12_walk_73 : decode cX12_walk 73 = .ok (.if_icmp .eq 6, 3) := by decide +kernel
theorem dX12_walk_76 : decode cX12_walk 76 = .ok (.bipush (-3), 2) := by decide +kernel
theorem dX12_walk_78 : decode cX12_walk 78 = .ok (.ireturn, 1) := by decide +kernel
theorem dX12_walk_79 : decode cX12_walk 79 = .ok (.iload 6, 2) := by decide +kernel
theorem dX12_walk_81 : decode cX12_walk 81 = .ok (.bipush 28, 2) := by decide +kernel
theorem dX12_walk_83 : decode cX12_walk 83 = .ok (.if_icmp .le 6, 3) := by decide +kernel
theorem dX12_walk_86 : decode cX12_walk 86 = .ok (.bipush (-7), 2) := by decide +kernel
theorem dX12_walk_88 : decode cX12_walk 88 = .ok (.ireturn, 1) := by decide +kernel
theorem dX12_walk_89 : decode cX12_walk 89 = .ok (.iload 6, 2) := by decide +kernel
theorem dX12_walk_91 : decode cX12_walk 91 = .ok (.iconst 1, 1) := by decide +kernel
theorem dX12_walk_92 : decode cX12_walk 92 = .ok (.if_icmp .ne 19, 3) := by decide +kernel
theorem dX12_walk_95 : decode cX12_walk 95 = .ok (.aload_n 0, 1) := by decide +kernel
theorem dX12_walk_96 : decode cX12_walk 96 = .ok (.getfield 327, 3) := by decide +kernel
theorem dX12_walk_99 : decode cX12_walk 99 = .ok (.iload 4, 2) := by decide +kernel
theorem dX12_walk_101 : decode cX12_walk 101 = .ok (.baload, 1) := by decide +kernel
theorem dX12_walk_102 : decode cX12_walk 102 = .ok (.bipush 46, 2) := by decide +kernel
theorem dX12_walk_104 : decode cX12_walk 104 = .ok (.if_icmp .ne 7, 3) := by decide +kernel
theorem dX12_walk_107 : decode cX12_walk 107 = .ok (.iconst 1, 1) := by decide +kernel
theorem dX12_walk_108 : decode cX12_walk 108 = .ok (.goto 4, 3) := by decide +kernel
theorem dX12_walk_111 : decode cX12_walk 111 = .ok (.iconst 0, 1) := by decide +kernel
theorem dX12_walk_112 : decode cX12_walk 112 = .ok (.istore 8, 2) := by decide +kernel
theorem dX12_walk_114 : decode cX12_walk 114 = .ok (.iload 6, 2) := by decide +kernel
theorem dX12_walk_116 : decode cX12_walk 116 = .ok (.iconst 2, 1) := by decide +kernel
theorem dX12_walk_117 : decode cX12_walk 117 = .ok (.if_icmp .ne 33, 3) := by decide +kernel
theorem dX12_walk_120 : decode cX12_walk 120 = .ok (.aload_n 0, 1) := by decide +kernel
theorem dX12_walk_121 : decode cX12_walk 121 = .ok (.getfield 327, 3) := by decide +kernel
theorem dX12_walk_124 : decode cX12_walk 124 = .ok (.iload 4, 2) := by decide +kernel
theorem dX12_walk_126 : decode cX12_walk 126 = .ok (.baload, 1) := by decide +kernel
theorem dX12_walk_127 : decode cX12_walk 127 = .ok (.bipush 46, 2) := by decide +kernel
theorem dX12_walk_129 : decode cX12_walk 129 = .ok (.if_icmp .ne 21, 3) := by decide +kernel
theorem dX12_walk_132 : decode cX12_walk 132 = .ok (.aload_n 0, 1) := by decide +kernel
theorem dX12_walk_133 : decode cX12_walk 133 = .ok (.getfield 327, 3) := by decide +kernel
theorem dX12_walk_136 : decode cX12_walk 136 = .ok (.iload 4, 2) := by decide +kernel
theorem dX12_walk_138 : decode cX12_walk 138 = .ok (.iconst 1, 1) := by decide +kernel
theorem dX12_walk_139 : decode cX12_walk 139 = .ok (.iadd, 1) := by decide +kernel
theorem dX12_walk_140 : decode cX12_walk 140 = .ok (.baload, 1) := by decide +kernel
theorem dX12_walk_141 : decode cX12_walk 141 = .ok (.bipush 46, 2) := by decide +kernel
theorem dX12_walk_143 : decode cX12_walk 143 = .ok (.if_icmp .ne 7, 3) := by decide +kernel
theorem dX12_walk_146 : decode cX12_walk 146 = .ok (.iconst 1, 1) := by decide +kernel
theorem dX12_walk_147 : decode cX12_walk 147 = .ok (.goto 4, 3) := by decide +kernel
theorem dX12_walk_150 : decode cX12_walk 150 = .ok (.iconst 0, 1) := by decide +kernel
theorem dX12_walk_151 : decode cX12_walk 151 = .ok (.istore 9, 2) := by decide +kernel
theorem dX12_walk_153 : decode cX12_walk 153 = .ok (.iload 8, 2) := by decide +kernel
theorem dX12_walk_155 : decode cX12_walk 155 = .ok (.ifCond .ne 8, 3) := by decide +kernel
theorem dX12_walk_158 : decode cX12_walk 158 = .ok (.iload 9, 2) := by decide +kernel
theorem dX12_walk_160 : decode cX12_walk 160 = .ok (.ifCond .eq 26, 3) := by decide +kernel
theorem dX12_walk_163 : decode cX12_walk 163 = .ok (.iload 9, 2) := by decide +kernel
theorem dX12_walk_165 : decode cX12_walk 165 = .ok (.ifCond .eq 12, 3) := by decide +kernel
theorem dX12_walk_168 : decode cX12_walk 168 = .ok (.aload_n 0, 1) := by decide +kernel
theorem dX12_walk_169 : decode cX12_walk 169 = .ok (.iload_n 2, 1) := by decide +kernel
theorem dX12_walk_170 : decode cX12_walk 170 = .ok (.iconst 3, 1) := by decide +kernel
theorem dX12_walk_171 : decode cX12_walk 171 = .ok (.invokevirtual 247, 3) := by decide +kernel
theorem dX12_walk_174 : decode cX12_walk 174 = .ok (.goto 4, 3) := by decide +kernel
theorem dX12_walk_177 : decode cX12_walk 177 = .ok (.iload_n 2, 1) := by decide +kernel
theorem dX12_walk_178 : decode cX12_walk 178 = .ok (.istore_n 2, 1) := by decide +kernel
theorem dX12_walk_179 : decode cX12_walk 179 = .ok (.iload 7, 2) := by decide +kernel
theorem dX12_walk_181 : decode cX12_walk 181 = .ok (.istore 4, 2) := by decide +kernel
theorem dX12_walk_183 : decode cX12_walk 183 = .ok (.goto (-172), 3) := by decide +kernel
theorem dX12_walk_186 : decode cX12_walk 186 = .ok (.aload_n 0, 1) := by decide +kernel
theorem dX12_walk_187 : decode cX12_walk 187 = .ok (.iload_n 2, 1) := by decide +kernel
theorem dX12_walk_188 : decode cX12_walk 188 = .ok (.aload_n 0, 1) := by decide +kernel
theorem dX12_walk_189 : decode cX12_walk 189 = .ok (.getfield 327, 3) := by decide +kernel
theorem dX12_walk_192 : decode cX12_walk 192 = .ok (.iload 4, 2) := by decide +kernel
theorem dX12_walk_194 : decode cX12_walk 194 = .ok (.iload 6, 2) := by decide +kernel
theorem dX12_walk_196 : decode cX12_walk 196 = .ok (.invokevirtual 339, 3) := by decide +kernel
theorem dX12_walk_199 : decode cX12_walk 199 = .ok (.istore 10, 2) := by decide +kernel
theorem dX12_walk_201 : decode cX12_walk 201 = .ok (.iload 10, 2) := by decide +kernel
theorem dX12_walk_203 : decode cX12_walk 203 = .ok (.ifCond .ge 5, 3) := by decide +kernel
theorem dX12_walk_206 : decode cX12_walk 206 = .ok (.iconst (-1), 1) := by decide +kernel
theorem dX12_walk_207 : decode cX12_walk 207 = .ok (.ireturn, 1) := by decide +kernel
theorem dX12_walk_208 : decode cX12_walk 208 = .ok (.aload_n 0, 1) := by decide +kernel
theorem dX12_walk_209 : decode cX12_walk 209 = .ok (.iload_n 2, 1) := by decide +kernel
theorem dX12_walk_210 : decode cX12_walk 210 = .ok (.iload 10, 2) := by decide +kernel
theorem dX12_walk_212 : decode cX12_walk 212 = .ok (.invokevirtual 302, 3) := by decide +kernel
theorem dX12_walk_215 : decode cX12_walk 215 = .ok (.istore 11, 2) := by decide +kernel
theorem dX12_walk_217 : decode cX12_walk 217 = .ok (.aload_n 0, 1) := by decide +kernel
theorem dX12_walk_218 : decode cX12_walk 218 = .ok (.iload 11, 2) := by decide +kernel
theorem dX12_walk_220 : decode cX12_walk 220 = .ok (.iconst 0, 1) := by decide +kernel
theorem dX12_walk_221 : decode cX12_walk 221 = .ok (.invokevirtual 247, 3) := by decide +kernel
theorem dX12_walk_224 : decode cX12_walk 224 = .ok (.iconst 3, 1) := by decide +kernel
theorem dX12_walk_225 : decode cX12_walk 225 = .ok (.if_icmp .ne 59, 3) := by decide +kernel
theorem dX12_walk_228 : decode cX12_walk 228 = .ok (.iload 7, 2) := by decide +kernel
theorem dX12_walk_230 : decode cX12_walk 230 = .ok (.aload_n 0, 1) := by decide +kernel
theorem dX12_walk_231 : decode cX12_walk 231 = .ok (.getfield 330, 3) := by decide +kernel
theorem dX12_walk_234 : decode cX12_walk 234 = .ok (.if_icmp .lt 7, 3) := by decide +kernel
theorem dX12_walk_237 : decode cX12_walk 237 = .ok (.iload_n 1, 1) := by decide +kernel
theorem dX12_walk_238 : decode cX12_walk 238 = .ok (.ifCond .eq 46, 3) := by decide +kernel
theorem dX12_walk_241 : decode cX12_walk 241 = .ok (.iinc 3 1, 3) := by decide +kernel
theorem dX12_walk_244 : decode cX12_walk 244 = .ok (.iload_n 3, 1) := by decide +kernel
theorem dX12_walk_245 : decode cX12_walk 245 = .ok (.bipush 9, 2) := by decide +kernel
theorem dX12_walk_247 : decode cX12_walk 247 = .ok (.if_icmp .ne 6, 3) := by decide +kernel
theorem dX12_walk_250 : decode cX12_walk 250 = .ok (.bipush (-8), 2) := by decide +kernel
theorem dX12_walk_252 : decode cX12_walk 252 = .ok (.ireturn, 1) := by decide +kernel
theorem dX12_walk_253 : decode cX12_walk 253 = .ok (.aload_n 0, 1) := by decide +kernel
theorem dX12_walk_254 : decode cX12_walk 254 = .ok (.iload 11, 2) := by decide +kernel
theorem dX12_walk_256 : decode cX12_walk 256 = .ok (.iload 7, 2) := by decide +kernel
theorem dX12_walk_258 : decode cX12_walk 258 = .ok (.invokevirtual 343, 3) := by decide +kernel
theorem dX12_walk_261 : decode cX12_walk 261 = .ok (.aload_n 0, 1) := by decide +kernel
theorem dX12_walk_262 : decode cX12_walk 262 = .ok (.getfield 327, 3) := by decide +kernel
theorem dX12_walk_265 : decode cX12_walk 265 = .ok (.iconst 0, 1) := by decide +kernel
theorem dX12_walk_266 : decode cX12_walk 266 = .ok (.baload, 1) := by decide +kernel
theorem dX12_walk_267 : decode cX12_walk 267 = .ok (.bipush 47, 2) := by decide +kernel
theorem dX12_walk_269 : decode cX12_walk 269 = .ok (.if_icmp .ne 5, 3) := by decide +kernel
theorem dX12_walk_272 : decode cX12_walk 272 = .ok (.iconst 0, 1) := by decide +kernel
theorem dX12_walk_273 : decode cX12_walk 273 = .ok (.istore_n 2, 1) := by decide +kernel
theorem dX12_walk_274 : decode cX12_walk 274 = .ok (.aload_n 0, 1) := by decide +kernel
theorem dX12_walk_275 : decode cX12_walk 275 = .ok (.iconst 0, 1) := by decide +kernel
theorem dX12_walk_276 : decode cX12_walk 276 = .ok (.invokevirtual 336, 3) := by decide +kernel
theorem dX12_walk_279 : decode cX12_walk 279 = .ok (.istore 4, 2) := by decide +kernel
theorem dX12_walk_281 : decode cX12_walk 281 = .ok (.goto 10, 3) := by decide +kernel
theorem dX12_walk_284 : decode cX12_walk 284 = .ok (.iload 11, 2) := by decide +kernel
theorem dX12_walk_286 : decode cX12_walk 286 = .ok (.istore_n 2, 1) := by decide +kernel
theorem dX12_walk_287 : decode cX12_walk 287 = .ok (.iload 7, 2) := by decide +kernel
theorem dX12_walk_289 : decode cX12_walk 289 = .ok (.istore 4, 2) := by decide +kernel
theorem dX12_walk_291 : decode cX12_walk 291 = .ok (.goto (-280), 3) := by decide +kernel
theorem dX12_walk_294 : decode cX12_walk 294 = .ok (.iload_n 2, 1) := by decide +kernel
theorem dX12_walk_295 : decode cX12_walk 295 = .ok (.ireturn, 1) := by decide +kernel
set_option maxRecDepth 100000 in
set_option maxHeartbeats 1000000 in
theorem j_X12_walk_178 {p : Program} {l : Launch} {e : Env} {s : State} {m : MethodId} {args : Array Value} {below : List Frame} {meth : Method} {c : Code} {D : va_G} {aC : Nat → ClassId} {b0 fu : Nat} {σ0 τ : tM} {v : Int32} {rc11 : Nat → Int32 → Int32 → Int32 → Int32 → tM → Option ((Int32) × tM)} (C : tCx p l s m args meth c yX12_walk.cls cX12_walk 12 (some .int) D aC b0 σ0) (htab : ∀ x ∈ c.exceptionTable.toList, False) (hin : meth.name = yX12_walk.name) (hrc11 : ∀ (x0 : Nat) (x1 : Int32) (x2 : Int32) (x3 : Int32) (x4 : Int32) (ρ : tM), rc11 x0 x1 x2 x3 x4 ρ = some (v, τ) → tX p l e s m args below meth c 12 7 162 D aC b0 σ0 (.inl (some (.int v))) τ 11 [(0, .ref (x0)), (1, .int (x1)), (2, .int (x2)), (3, .int (x3)), (4, .int (x4))] [] ρ) {x0 : Nat} {x1 : Int32} {x3 : Int32} {x7 : Int32} {s0 : Int32} {σ : tM} (hm : J_X12_walk_178 b0 fu rc11 x0 x1 x3 x7 s0 σ = some (v, τ)) : tX p l e s m args below meth c 12 7 162 D aC b0 σ0 (.inl (some (.int v))) τ 178 [(0, .ref (x0)), (1, .int (x1)), (3, .int (x3)), (7, .int (x7))] [.int (s0)] σ := by
  unfold J_X12_walk_178 at hm
  refine zx_istore_n C [(2, .int (s0)), (0, .ref (x0)), (1, .int (x1)), (3, .int (x3)), (7, .int (x7))] dX12_walk_178 rfl (by decide) rfl ?_
  refine zx_iload C dX12_walk_179 4 rfl ?_
  refine zx_istore C [(4, .int (x7)), (2, .int (s0)), (0, .ref (x0)), (1, .int (x1)), (3, .int (x3)), (7, .int (x7))] dX12_walk_181 (by decide) rfl ?_
  refine zx_goto C 11 dX12_walk_183 (by decide) ?_
  exact zx_lv [2, 3, 1, 4, 0] [(0, .ref (x0)), (1, .int (x1)), (2, .int (s0)), (3, .int (x3)), (4, .int (x7))] rfl (hrc11 _ _ _ _ _ _ hm)
set_option maxRecDepth 100000 in
set_option maxHeartbeats 1000000 in
theorem j_X12_walk_163 {p : Program} {l : Launch} {e : Env} {s : State} {m : MethodId} {args : Array Value} {below : List Frame} {meth : Method} {c : Code} {D : va_G} {aC : Nat → ClassId} {b0 fu : Nat} {σ0 τ : tM} {v : Int32} {rc11 : Nat → Int32 → Int32 → Int32 → Int32 → tM → Option ((Int32) × tM)} (C : tCx p l s m args meth c yX12_walk.cls cX12_walk 12 (some .int) D aC b0 σ0) (htab : ∀ x ∈ c.exceptionTable.toList, False) (hin : meth.name = yX12_walk.name) (hrc11 : ∀ (x0 : Nat) (x1 : Int32) (x2 : Int32) (x3 : Int32) (x4 : Int32) (ρ : tM), rc11 x0 x1 x2 x3 x4 ρ = some (v, τ) → tX p l e s m args below meth c 12 7 162 D aC b0 σ0 (.inl (some (.int v))) τ 11 [(0, .ref (x0)), (1, .int (x1)), (2, .int (x2)), (3, .int (x3)), (4, .int (x4))] [] ρ) {x0 : Nat} {x1 : Int32} {x2 : Int32} {x3 : Int32} {x7 : Int32} {x9 : Int32} {σ : tM} (hm : J_X12_walk_163 b0 fu rc11 x0 x1 x2 x3 x7 x9 σ = some (v, τ)) : tX p l e s m args below meth c 12 7 162 D aC b0 σ0 (.inl (some (.int v))) τ 163 [(0, .ref (x0)), (1, .int (x1)), (2, .int (x2)), (3, .int (x3)), (7, .int (x7)), (9, .int (x9))] [] σ := by
  unfold J_X12_walk_163 at hm
  refine zx_iload C dX12_walk_163 5 rfl ?_
  refine zx_if_eq C 177 dX12_walk_165 (by decide) (fun c28 => ?_) (fun c28 => ?_)
  · replace hm := ip_e hm c28
    refine zx_iload_n C dX12_walk_177 2 rfl ?_
    exact zx_lv [0, 1, 3, 4] [(0, .ref (x0)), (1, .int (x1)), (3, .int (x3)), (7, .int (x7))] rfl (j_X12_walk_178 C htab hin hrc11   hm)
  · replace hm := in_e hm c28
    refine zx_aload_n C dX12_walk_168 0 rfl ?_
    refine zx_iload_n C dX12_walk_169 2 rfl ?_
    refine zx_iconst (v := 3) C dX12_walk_170 (by decide) ?_
    obtain ⟨k29, i30, hm⟩ := ckO_e hm
    obtain ⟨v31, ρ32, h33, hm⟩ := cll_e hm
    refine zx_callV (σ := σ) C [.int (x2), .int (3)] tC_11 k29 i30 Y_X12_node W_8_40 W_8_42 Wp_80 (c_X12_node h33) (by decide) (by decide) rfl (Nat.le_of_ble_eq_true rfl) dX12_walk_171 rfl ?_
    refine zx_goto C 178 dX12_walk_174 (by decide) ?_
    exact zx_lv [0, 1, 3, 4] [(0, .ref (x0)), (1, .int (x1)), (3, .int (x3)), (7, .int (x7))] rfl (j_X12_walk_178 C htab hin hrc11   hm)
set_option maxRecDepth 100000 in
set_option maxHeartbeats 1000000 in
theorem j_X12_walk_291 {p : Program} {l : Launch} {e : Env} {s : State} {m : MethodId} {args : Array Value} {below : List Frame} {meth : Method} {c : Code} {D : va_G} {aC : Nat → ClassId} {b0 fu : Nat} {σ0 τ : tM} {v : Int32} {rc11 : Nat → Int32 → Int32 → Int32 → Int32 → tM → Option ((Int32) × tM)} (C : tCx p l s m args meth c yX12_walk.cls cX12_walk 12 (some .int) D aC b0 σ0) (htab : ∀ x ∈ c.exceptionTable.toList, False) (hin : meth.name = yX12_walk.name) (hrc11 : ∀ (x0 : Nat) (x1 : Int32) (x2 : Int32) (x3 : Int32) (x4 : Int32) (ρ : tM), rc11 x0 x1 x2 x3 x4 ρ = some (v, τ) → tX p l e s m args below meth c 12 7 162 D aC b0 σ0 (.inl (some (.int v))) τ 11 [(0, .ref (x0)), (1, .int (x1)), (2, .int (x2)), (3, .int (x3)), (4, .int (x4))] [] ρ) {x0 : Nat} {x1 : Int32} {x2 : Int32} {x3 : Int32} {x4 : Int32} {σ : tM} (hm : J_X12_walk_291 b0 fu rc11 x0 x1 x2 x3 x4 σ = some (v, τ)) : tX p l e s m args below meth c 12 7 162 D aC b0 σ0 (.inl (some (.int v))) τ 291 [(0, .ref (x0)), (1, .int (x1)), (2, .int (x2)), (3, .int (x3)), (4, .int (x4))] [] σ := by
  unfold J_X12_walk_291 at hm
  refine zx_goto C 11 dX12_walk_291 (by decide) ?_
  exact zx_lv [0, 1, 2, 3, 4] [(0, .ref (x0)), (1, .int (x1)), (2, .int (x2)), (3, .int (x3)), (4, .int (x4))] rfl (hrc11 _ _ _ _ _ _ hm)
set_option maxRecDepth 100000 in
set_option maxHeartbeats 1000000 in
theorem j_X12_walk_284 {p : Program} {l : Launch} {e : Env} {s : State} {m : MethodId} {args : Array Value} {below : List Frame} {meth : Method} {c : Code} {D : va_G} {aC : Nat → ClassId} {b0 fu : Nat} {σ0 τ : tM} {v : Int32} {rc11 : Nat → Int32 → Int32 → Int32 → Int32 → tM → Option ((Int32) × tM)} (C : tCx p l s m args meth c yX12_walk.cls cX12_walk 12 (some .int) D aC b0 σ0) (htab : ∀ x ∈ c.exceptionTable.toList, False) (hin : meth.name = yX12_walk.name) (hrc11 : ∀ (x0 : Nat) (x1 : Int32) (x2 : Int32) (x3 : Int32) (x4 : Int32) (ρ : tM), rc11 x0 x1 x2 x3 x4 ρ = some (v, τ) → tX p l e s m args below meth c 12 7 162 D aC b0 σ0 (.inl (some (.int v))) τ 11 [(0, .ref (x0)), (1, .int (x1)), (2, .int (x2)), (3, .int (x3)), (4, .int (x4))] [] ρ) {x0 : Nat} {x1 : Int32} {x3 : Int32} {x7 : Int32} {x11 : Int32} {σ : tM} (hm : J_X12_walk_284 b0 fu rc11 x0 x1 x3 x7 x11 σ = some (v, τ)) : tX p l e s m args below meth c 12 7 162 D aC b0 σ0 (.inl (some (.int v))) τ 284 [(0, .ref (x0)), (1, .int (x1)), (3, .int (x3)), (7, .int (x7)), (11, .int (x11))] [] σ := by
  unfold J_X12_walk_284 at hm
  refine zx_iload C dX12_walk_284 4 rfl ?_
  refine zx_istore_n C [(2, .int (x11)), (0, .ref (x0)), (1, .int (x1)), (3, .int (x3)), (7, .int (x7)), (11, .int (x11))] dX12_walk_286 rfl (by decide) rfl ?_
  refine zx_iload C dX12_walk_287 4 rfl ?_
  refine zx_istore C [(4, .int (x7)), (2, .int (x11)), (0, .ref (x0)), (1, .int (x1)), (3, .int (x3)), (7, .int (x7)), (11, .int (x11))] dX12_walk_289 (by decide) rfl ?_
  exact zx_lv [2, 3, 1, 4, 0] [(0, .ref (x0)), (1, .int (x1)), (2, .int (x11)), (3, .int (x3)), (4, .int (x7))] rfl (j_X12_walk_291 C htab hin hrc11   hm)
set_option maxRecDepth 100000 in
set_option maxHeartbeats 1000000 in
theorem j_X12_walk_274 {p : Program} {l : Launch} {e : Env} {s : State} {m : MethodId} {args : Array Value} {below : List Frame} {meth : Method} {c : Code} {D : va_G} {aC : Nat → ClassId} {b0 fu : Nat} {σ0 τ : tM} {v : Int32} {rc11 : Nat → Int32 → Int32 → Int32 → Int32 → tM → Option ((Int32) × tM)} (C : tCx p l s m args meth c yX12_walk.cls cX12_walk 12 (some .int) D aC b0 σ0) (htab : ∀ x ∈ c.exceptionTable.toList, False) (hin : meth.name = yX12_walk.name) (hrc11 : ∀ (x0 : Nat) (x1 : Int32) (x2 : Int32) (x3 : Int32) (x4 : Int32) (ρ : tM), rc11 x0 x1 x2 x3 x4 ρ = some (v, τ) → tX p l e s m args below meth c 12 7 162 D aC b0 σ0 (.inl (some (.int v))) τ 11 [(0, .ref (x0)), (1, .int (x1)), (2, .int (x2)), (3, .int (x3)), (4, .int (x4))] [] ρ) {x0 : Nat} {x1 : Int32} {x2 : Int32} {x3 : Int32} {σ : tM} (hm : J_X12_walk_274 b0 fu rc11 x0 x1 x2 x3 σ = some (v, τ)) : tX p l e s m args below meth c 12 7 162 D aC b0 σ0 (.inl (some (.int v))) τ 274 [(0, .ref (x0)), (1, .int (x1)), (2, .int (x2)), (3, .int (x3))] [] σ := by
  unfold J_X12_walk_274 at hm
  refine zx_aload_n C dX12_walk_274 0 rfl ?_
  refine zx_iconst (v := 0) C dX12_walk_275 (by decide) ?_
  obtain ⟨k73, i74, hm⟩ := ckO_e hm
  obtain ⟨v75, ρ76, h77, hm⟩ := cll_e hm
  refine zx_callV (σ := σ) C [.int (0)] tC_11 k73 i74 Y_X12_behind W_8_36 W_8_38 Wp_79 (c_X12_behind h77) (by decide) (by decide) rfl (Nat.le_of_ble_eq_true rfl) dX12_walk_276 rfl ?_
  refine zx_istore C [(4, .int (v75)), (0, .ref (x0)), (1, .int (x1)), (2, .int (x2)), (3, .int (x3))] dX12_walk_279 (by decide) rfl ?_
  refine zx_goto C 291 dX12_walk_281 (by decide) ?_
  exact zx_lv [1, 2, 3, 4, 0] [(0, .ref (x0)), (1, .int (x1)), (2, .int (x2)), (3, .int (x3)), (4, .int (v75))] rfl (j_X12_walk_291 C htab hin hrc11   hm)
set_option maxRecDepth 100000 in
set_option maxHeartbeats 1000000 in
theorem j_X12_walk_241 {p : Program} {l : Launch} {e : Env} {s : State} {m : MethodId} {args : Array Value} {below : List Frame} {meth : Method} {c : Code} {D : va_G} {aC : Nat → ClassId} {b0 fu : Nat} {σ0 τ : tM} {v : Int32} {rc11 : Nat → Int32 → Int32 → Int32 → Int32 → tM → Option ((Int32) × tM)} (C : tCx p l s m args meth c yX12_walk.cls cX12_walk 12 (some .int) D aC b0 σ0) (htab : ∀ x ∈ c.exceptionTable.toList, False) (hin : meth.name = yX12_walk.name) (hrc11 : ∀ (x0 : Nat) (x1 : Int32) (x2 : Int32) (x3 : Int32) (x4 : Int32) (ρ : tM), rc11 x0 x1 x2 x3 x4 ρ = some (v, τ) → tX p l e s m args below meth c 12 7 162 D aC b0 σ0 (.inl (some (.int v))) τ 11 [(0, .ref (x0)), (1, .int (x1)), (2, .int (x2)), (3, .int (x3)), (4, .int (x4))] [] ρ) {x0 : Nat} {x1 : Int32} {x2 : Int32} {x3 : Int32} {x7 : Int32} {x11 : Int32} {σ : tM} (hm : J_X12_walk_241 b0 fu rc11 x0 x1 x2 x3 x7 x11 σ = some (v, τ)) : tX p l e s m args below meth c 12 7 162 D aC b0 σ0 (.inl (some (.int v))) τ 241 [(0, .ref (x0)), (1, .int (x1)), (2, .int (x2)), (3, .int (x3)), (7, .int (x7)), (11, .int (x11))] [] σ := by
  unfold J_X12_walk_241 at hm
  obtain ⟨y57, hy57⟩ : ∃ z : Int32, z = (x3) + Int32.ofInt 1 := ⟨_, rfl⟩
  replace hm := ltb_e hm hy57
  refine zx_iinc C [(3, .int (y57)), (0, .ref (x0)), (1, .int (x1)), (2, .int (x2)), (7, .int (x7)), (11, .int (x11))] dX12_walk_241 3 rfl hy57.symm (by decide) rfl ?_
  refine zx_iload_n C dX12_walk_244 0 rfl ?_
  refine zx_bipush (v := 9) C dX12_walk_245 (by decide) ?_
  refine zx_icmp_ne C 253 dX12_walk_247 (by decide) (fun c58 => ?_) (fun c58 => ?_)
  · replace hm := in_e hm c58
    refine zx_aload_n C dX12_walk_253 1 rfl ?_
    refine zx_iload C dX12_walk_254 5 rfl ?_
    refine zx_iload C dX12_walk_256 4 rfl ?_
    obtain ⟨k59, i60, hm⟩ := ckO_e hm
    obtain ⟨v61, ρ62, h63, hm⟩ := cll_e hm
    refine zx_callV (σ := σ) C [.int (x11), .int (x7)] tC_11 k59 i60 Y_X12_expand W_8_75 W_8_77 Wp_88 (c_X12_expand h63) (by decide) (by decide) rfl (Nat.le_of_ble_eq_true rfl) dX12_walk_258 rfl ?_
    refine zx_aload_n C dX12_walk_261 1 rfl ?_
    obtain ⟨k64, i65, hm⟩ := ckO_e hm
    obtain ⟨a66, h67, hm⟩ := osm_e hm
    refine zx_get (j := 49) C tC_11 k64 i65 ⟨by decide, Or.inl W_7_28⟩ dX12_walk_262 (.ref a66) (rf_s h67) ?_
    refine zx_iconst (v := 0) C dX12_walk_265 (by decide) ?_
    obtain ⟨n70, k68, i69, hm⟩ := ckR_e hm
    obtain ⟨h71, hm⟩ := ckI_e hm
    refine zx_bald C k68 i69 h71 dX12_walk_266 ?_
    refine zx_bipush (v := 47) C dX12_walk_267 (by decide) ?_
    refine zx_icmp_ne C 274 dX12_walk_269 (by decide) (fun c72 => ?_) (fun c72 => ?_)
    · replace hm := in_e hm c72
      exact zx_lv [1, 2, 3, 0] [(0, .ref (x0)), (1, .int (x1)), (2, .int (x2)), (3, .int (y57))] rfl (j_X12_walk_274 C htab hin hrc11   hm)
    · replace hm := ip_e hm c72
      refine zx_iconst (v := 0) C dX12_walk_272 (by decide) ?_
      refine zx_istore_n C [(2, .int (0)), (3, .int (y57)), (0, .ref (x0)), (1, .int (x1)), (7, .int (x7)), (11, .int (x11))] dX12_walk_273 rfl (by decide) rfl ?_
      exact zx_lv [2, 3, 0, 1] [(0, .ref (x0)), (1, .int (x1)), (2, .int (0)), (3, .int (y57))] rfl (j_X12_walk_274 C htab hin hrc11   hm)
  · replace hm := ip_e hm c58
    refine zx_bipush (v := (-8)) C dX12_walk_250 (by decide) ?_
    obtain ⟨rfl, rfl⟩ := ret_e hm
    exact zx_iret C rfl rfl rfl dX12_walk_252
set_option maxRecDepth 100000 in
set_option maxHeartbeats 1000000 in
theorem j_X12_walk_237 {p : Program} {l : Launch} {e : Env} {s : State} {m : MethodId} {args : Array Value} {below : List Frame} {meth : Method} {c : Code} {D : va_G} {aC : Nat → ClassId} {b0 fu : Nat} {σ0 τ : tM} {v : Int32} {rc11 : Nat → Int32 → Int32 → Int32 → Int32 → tM → Option ((Int32) × tM)} (C : tCx p l s m args meth c yX12_walk.cls cX12_walk 12 (some .int) D aC b0 σ0) (htab : ∀ x ∈ c.exceptionTable.toList, False) (hin : meth.name = yX12_walk.name) (hrc11 : ∀ (x0 : Nat) (x1 : Int32) (x2 : Int32) (x3 : Int32) (x4 : Int32) (ρ : tM), rc11 x0 x1 x2 x3 x4 ρ = some (v, τ) → tX p l e s m args below meth c 12 7 162 D aC b0 σ0 (.inl (some (.int v))) τ 11 [(0, .ref (x0)), (1, .int (x1)), (2, .int (x2)), (3, .int (x3)), (4, .int (x4))] [] ρ) {x0 : Nat} {x1 : Int32} {x2 : Int32} {x3 : Int32} {x7 : Int32} {x11 : Int32} {σ : tM} (hm : J_X12_walk_237 b0 fu rc11 x0 x1 x2 x3 x7 x11 σ = some (v, τ)) : tX p l e s m args below meth c 12 7 162 D aC b0 σ0 (.inl (some (.int v))) τ 237 [(0, .ref (x0)), (1, .int (x1)), (2, .int (x2)), (3, .int (x3)), (7, .int (x7)), (11, .int (x11))] [] σ := by
  unfold J_X12_walk_237 at hm
  refine zx_iload_n C dX12_walk_237 1 rfl ?_
  refine zx_if_eq C 284 dX12_walk_238 (by decide) (fun c78 => ?_) (fun c78 => ?_)
  · replace hm := ip_e hm c78
    exact zx_lv [0, 1, 3, 4, 5] [(0, .ref (x0)), (1, .int (x1)), (3, .int (x3)), (7, .int (x7)), (11, .int (x11))] rfl (j_X12_walk_284 C htab hin hrc11   hm)
  · replace hm := in_e hm c78
    exact zx_lv [0, 1, 2, 3, 4, 5] [(0, .ref (x0)), (1, .int (x1)), (2, .int (x2)), (3, .int (x3)), (7, .int (x7)), (11, .int (x11))] rfl (j_X12_walk_241 C htab hin hrc11   hm)
set_option maxRecDepth 100000 in
set_option maxHeartbeats 1000000 in
theorem j_X12_walk_151 {p : Program} {l : Launch} {e : Env} {s : State} {m : MethodId} {args : Array Value} {below : List Frame} {meth : Method} {c : Code} {D : va_G} {aC : Nat → ClassId} {b0 fu : Nat} {σ0 τ : tM} {v : Int32} {rc11 : Nat → Int32 → Int32 → Int32 → Int32 → tM → Option ((Int32) × tM)} (C : tCx p l s m args meth c yX12_walk.cls cX12_walk 12 (some .int) D aC b0 σ0) (htab : ∀ x ∈ c.exceptionTable.toList, False) (hin : meth.name = yX12_walk.name) (hrc11 : ∀ (x0 : Nat) (x1 : Int32) (x2 : Int32) (x3 : Int32) (x4 : Int32) (ρ : tM), rc11 x0 x1 x2 x3 x4 ρ = some (v, τ) → tX p l e s m args below meth c 12 7 162 D aC b0 σ0 (.inl (some (.int v))) τ 11 [(0, .ref (x0)), (1, .int (x1)), (2, .int (x2)), (3, .int (x3)), (4, .int (x4))] [] ρ) {x0 : Nat} {x1 : Int32} {x2 : Int32} {x3 : Int32} {x4 : Int32} {x6 : Int32} {x7 : Int32} {x8 : Int32} {s0 : Int32} {σ : tM} (hm : J_X12_walk_151 b0 fu rc11 x0 x1 x2 x3 x4 x6 x7 x8 s0 σ = some (v, τ)) : tX p l e s m args below meth c 12 7 162 D aC b0 σ0 (.inl (some (.int v))) τ 151 [(0, .ref (x0)), (1, .int (x1)), (2, .int (x2)), (3, .int (x3)), (4, .int (x4)), (6, .int (x6)), (7, .int (x7)), (8, .int (x8))] [.int (s0)] σ := by
  unfold J_X12_walk_151 at hm
  refine zx_istore C [(9, .int (s0)), (0, .ref (x0)), (1, .int (x1)), (2, .int (x2)), (3, .int (x3)), (4, .int (x4)), (6, .int (x6)), (7, .int (x7)), (8, .int (x8))] dX12_walk_151 (by decide) rfl ?_
  refine zx_iload C dX12_walk_153 8 rfl ?_
  refine zx_if_ne C 163 dX12_walk_155 (by decide) (fun c27 => ?_) (fun c27 => ?_)
  · replace hm := in_e hm c27
    exact zx_lv [1, 2, 3, 4, 7, 0] [(0, .ref (x0)), (1, .int (x1)), (2, .int (x2)), (3, .int (x3)), (7, .int (x7)), (9, .int (s0))] rfl (j_X12_walk_163 C htab hin hrc11   hm)
  · replace hm := ip_e hm c27
    refine zx_iload C dX12_walk_158 0 rfl ?_
    refine zx_if_eq C 186 dX12_walk_160 (by decide) (fun c34 => ?_) (fun c34 => ?_)
    · replace hm := ip_e hm c34
      refine zx_aload_n C dX12_walk_186 1 rfl ?_
      refine zx_iload_n C dX12_walk_187 3 rfl ?_
      refine zx_aload_n C dX12_walk_188 1 rfl ?_
      obtain ⟨k35, i36, hm⟩ := ckO_e hm
      obtain ⟨a37, h38, hm⟩ := osm_e hm
      refine zx_get (j := 49) C tC_11 k35 i36 ⟨by decide, Or.inl W_7_28⟩ dX12_walk_189 (.ref a37) (rf_s h38) ?_
      refine zx_iload C dX12_walk_192 5 rfl ?_
      refine zx_iload C dX12_walk_194 6 rfl ?_
      obtain ⟨v39, ρ40, h41, hm⟩ := cll_e hm
      refine zx_callV (σ := σ) C [.int (x2), .ref (a37), .int (x4), .int (x6)] tC_11 k35 i36 Y_X12_find W_8_44 W_8_46 Wp_81 (c_X12_find h41) (by decide) (by decide) rfl (Nat.le_of_ble_eq_true rfl) dX12_walk_196 rfl ?_
      refine zx_istore C [(10, .int (v39)), (9, .int (s0)), (0, .ref (x0)), (1, .int (x1)), (2, .int (x2)), (3, .int (x3)), (4, .int (x4)), (6, .int (x6)), (7, .int (x7)), (8, .int (x8))] dX12_walk_199 (by decide) rfl ?_
      refine zx_iload C dX12_walk_201 0 rfl ?_
      refine zx_if_ge C 208 dX12_walk_203 (by decide) (fun c42 => ?_) (fun c42 => ?_)
      · replace hm := ip_e hm c42
        refine zx_aload_n C dX12_walk_208 2 rfl ?_
        refine zx_iload_n C dX12_walk_209 4 rfl ?_
        refine zx_iload C dX12_walk_210 0 rfl ?_
        obtain ⟨k43, i44, hm⟩ := ckO_e hm
        obtain ⟨v45, ρ46, h47, hm⟩ := cll_e hm
        refine zx_callV (σ := ρ40) C [.int (x2), .int (v39)] tC_11 k43 i44 Y_X12_entryNode W_8_52 W_8_54 Wp_83 (c_X12_entryNode h47) (by decide) (by decide) rfl (Nat.le_of_ble_eq_true rfl) dX12_walk_212 rfl ?_
        refine zx_istore C [(11, .int (v45)), (10, .int (v39)), (9, .int (s0)), (0, .ref (x0)), (1, .int (x1)), (2, .int (x2)), (3, .int (x3)), (4, .int (x4)), (6, .int (x6)), (7, .int (x7)), (8, .int (x8))] dX12_walk_215 (by decide) rfl ?_
        refine zx_aload_n C dX12_walk_217 3 rfl ?_
        refine zx_iload C dX12_walk_218 0 rfl ?_
        refine zx_iconst (v := 0) C dX12_walk_220 (by decide) ?_
        obtain ⟨k48, i49, hm⟩ := ckO_e hm
        obtain ⟨v50, ρ51, h52, hm⟩ := cll_e hm
        refine zx_callV (σ := ρ46) C [.int (v45), .int (0)] tC_11 k48 i49 Y_X12_node W_8_40 W_8_42 Wp_80 (c_X12_node h52) (by decide) (by decide) rfl (Nat.le_of_ble_eq_true rfl) dX12_walk_221 rfl ?_
        refine zx_iconst (v := 3) C dX12_walk_224 (by decide) ?_
        refine zx_icmp_ne C 284 dX12_walk_225 (by decide) (fun c53 => ?_) (fun c53 => ?_)
        · replace hm := in_e hm c53
          exact zx_lv [3, 4, 6, 9, 0] [(0, .ref (x0)), (1, .int (x1)), (3, .int (x3)), (7, .int (x7)), (11, .int (v45))] rfl (j_X12_walk_284 C htab hin hrc11   hm)
        · replace hm := ip_e hm c53
          refine zx_iload C dX12_walk_228 9 rfl ?_
          refine zx_aload_n C dX12_walk_230 3 rfl ?_
          obtain ⟨k54, i55, hm⟩ := ckO_e hm
          refine zx_get (j := 51) C tC_11 k54 i55 ⟨by decide, Or.inl W_7_30⟩ dX12_walk_231 (.int (tI (ρ51) (x0) 51)) rfl ?_
          refine zx_icmp_lt C 241 dX12_walk_234 (by decide) (fun c56 => ?_) (fun c56 => ?_)
          · replace hm := ip_e hm c56
            exact zx_lv [3, 4, 5, 6, 9, 0] [(0, .ref (x0)), (1, .int (x1)), (2, .int (x2)), (3, .int (x3)), (7, .int (x7)), (11, .int (v45))] rfl (j_X12_walk_241 C htab hin hrc11   hm)
          · replace hm := in_e hm c56
            exact zx_lv [3, 4, 5, 6, 9, 0] [(0, .ref (x0)), (1, .int (x1)), (2, .int (x2)), (3, .int (x3)), (7, .int (x7)), (11, .int (v45))] rfl (j_X12_walk_237 C htab hin hrc11   hm)
      · replace hm := in_e hm c42
        refine zx_iconst (v := (-1)) C dX12_walk_206 (by decide) ?_
        obtain ⟨rfl, rfl⟩ := ret_e hm
        exact zx_iret C rfl rfl rfl dX12_walk_207
    · replace hm := in_e hm c34
      exact zx_lv [1, 2, 3, 4, 7, 0] [(0, .ref (x0)), (1, .int (x1)), (2, .int (x2)), (3, .int (x3)), (7, .int (x7)), (9, .int (s0))] rfl (j_X12_walk_163 C htab hin hrc11   hm)
set_option maxRecDepth 100000 in
set_option maxHeartbeats 1000000 in
theorem j_X12_walk_150 {p : Program} {l : Launch} {e : Env} {s : State} {m : MethodId} {args : Array Value} {below : List Frame} {meth : Method} {c : Code} {D : va_G} {aC : Nat → ClassId} {b0 fu : Nat} {σ0 τ : tM} {v : Int32} {rc11 : Nat → Int32 → Int32 → Int32 → Int32 → tM → Option ((Int32) × tM)} (C : tCx p l s m args meth c yX12_walk.cls cX12_walk 12 (some .int) D aC b0 σ0) (htab : ∀ x ∈ c.exceptionTable.toList, False) (hin : meth.name = yX12_walk.name) (hrc11 : ∀ (x0 : Nat) (x1 : Int32) (x2 : Int32) (x3 : Int32) (x4 : Int32) (ρ : tM), rc11 x0 x1 x2 x3 x4 ρ = some (v, τ) → tX p l e s m args below meth c 12 7 162 D aC b0 σ0 (.inl (some (.int v))) τ 11 [(0, .ref (x0)), (1, .int (x1)), (2, .int (x2)), (3, .int (x3)), (4, .int (x4))] [] ρ) {x0 : Nat} {x1 : Int32} {x2 : Int32} {x3 : Int32} {x4 : Int32} {x6 : Int32} {x7 : Int32} {x8 : Int32} {σ : tM} (hm : J_X12_walk_150 b0 fu rc11 x0 x1 x2 x3 x4 x6 x7 x8 σ = some (v, τ)) : tX p l e s m args below meth c 12 7 162 D aC b0 σ0 (.inl (some (.int v))) τ 150 [(0, .ref (x0)), (1, .int (x1)), (2, .int (x2)), (3, .int (x3)), (4, .int (x4)), (6, .int (x6)), (7, .int (x7)), (8, .int (x8))] [] σ := by
  unfold J_X12_walk_150 at hm
  refine zx_iconst (v := 0) C dX12_walk_150 (by decide) ?_
  exact zx_lv [0, 1, 2, 3, 4, 5, 6, 7] [(0, .ref (x0)), (1, .int (x1)), (2, .int (x2)), (3, .int (x3)), (4, .int (x4)), (6, .int (x6)), (7, .int (x7)), (8, .int (x8))] rfl (j_X12_walk_151 C htab hin hrc11   hm)
set_option maxRecDepth 100000 in
set_option maxHeartbeats 1000000 in
theorem j_X12_walk_112 {p : Program} {l : Launch} {e : Env} {s : State} {m : MethodId} {args : Array Value} {below : List Frame} {meth : Method} {c : Code} {D : va_G} {aC : Nat → ClassId} {b0 fu : Nat} {σ0 τ : tM} {v : Int32} {rc11 : Nat → Int32 → Int32 → Int32 → Int32 → tM → Option ((Int32) × tM)} (C : tCx p l s m args meth c yX12_walk.cls cX12_walk 12 (some .int) D aC b0 σ0) (htab : ∀ x ∈ c.exceptionTable.toList, False) (hin : meth.name = yX12_walk.name) (hrc11 : ∀ (x0 : Nat) (x1 : Int32) (x2 : Int32) (x3 : Int32) (x4 : Int32) (ρ : tM), rc11 x0 x1 x2 x3 x4 ρ = some (v, τ) → tX p l e s m args below meth c 12 7 162 D aC b0 σ0 (.inl (some (.int v))) τ 11 [(0, .ref (x0)), (1, .int (x1)), (2, .int (x2)), (3, .int (x3)), (4, .int (x4))] [] ρ) {x0 : Nat} {x1 : Int32} {x2 : Int32} {x3 : Int32} {x4 : Int32} {x6 : Int32} {x7 : Int32} {s0 : Int32} {σ : tM} (hm : J_X12_walk_112 b0 fu rc11 x0 x1 x2 x3 x4 x6 x7 s0 σ = some (v, τ)) : tX p l e s m args below meth c 12 7 162 D aC b0 σ0 (.inl (some (.int v))) τ 112 [(0, .ref (x0)), (1, .int (x1)), (2, .int (x2)), (3, .int (x3)), (4, .int (x4)), (6, .int (x6)), (7, .int (x7))] [.int (s0)] σ := by
  unfold J_X12_walk_112 at hm
  refine zx_istore C [(8, .int (s0)), (0, .ref (x0)), (1, .int (x1)), (2, .int (x2)), (3, .int (x3)), (4, .int (x4)), (6, .int (x6)), (7, .int (x7))] dX12_walk_112 (by decide) rfl ?_
  refine zx_iload C dX12_walk_114 6 rfl ?_
  refine zx_iconst (v := 2) C dX12_walk_116 (by decide) ?_
  refine zx_icmp_ne C 150 dX12_walk_117 (by decide) (fun c26 => ?_) (fun c26 => ?_)
  · replace hm := in_e hm c26
    exact zx_lv [1, 2, 3, 4, 5, 6, 7, 0] [(0, .ref (x0)), (1, .int (x1)), (2, .int (x2)), (3, .int (x3)), (4, .int (x4)), (6, .int (x6)), (7, .int (x7)), (8, .int (s0))] rfl (j_X12_walk_150 C htab hin hrc11   hm)
  · replace hm := ip_e hm c26
    refine zx_aload_n C dX12_walk_120 1 rfl ?_
    obtain ⟨k79, i80, hm⟩ := ckO_e hm
    obtain ⟨a81, h82, hm⟩ := osm_e hm
    refine zx_get (j := 49) C tC_11 k79 i80 ⟨by decide, Or.inl W_7_28⟩ dX12_walk_121 (.ref a81) (rf_s h82) ?_
    refine zx_iload C dX12_walk_124 5 rfl ?_
    obtain ⟨n85, k83, i84, hm⟩ := ckR_e hm
    obtain ⟨h86, hm⟩ := ckI_e hm
    refine zx_bald C k83 i84 h86 dX12_walk_126 ?_
    refine zx_bipush (v := 46) C dX12_walk_127 (by decide) ?_
    refine zx_icmp_ne C 150 dX12_walk_129 (by decide) (fun c87 => ?_) (fun c87 => ?_)
    · replace hm := in_e hm c87
      exact zx_lv [1, 2, 3, 4, 5, 6, 7, 0] [(0, .ref (x0)), (1, .int (x1)), (2, .int (x2)), (3, .int (x3)), (4, .int (x4)), (6, .int (x6)), (7, .int (x7)), (8, .int (s0))] rfl (j_X12_walk_150 C htab hin hrc11   hm)
    · replace hm := ip_e hm c87
      refine zx_aload_n C dX12_walk_132 1 rfl ?_
      obtain ⟨a88, h89, hm⟩ := osm_e hm
      refine zx_get (j := 49) C tC_11 k79 i80 ⟨by decide, Or.inl W_7_28⟩ dX12_walk_133 (.ref a88) (rf_s h89) ?_
      refine zx_iload C dX12_walk_136 5 rfl ?_
      refine zx_iconst (v := 1) C dX12_walk_138 (by decide) ?_
      refine zx_iadd C dX12_walk_139 ?_
      obtain ⟨n92, k90, i91, hm⟩ := ckR_e hm
      obtain ⟨h93, hm⟩ := ckI_e hm
      refine zx_bald C k90 i91 h93 dX12_walk_140 ?_
      refine zx_bipush (v := 46) C dX12_walk_141 (by decide) ?_
      refine zx_icmp_ne C 150 dX12_walk_143 (by decide) (fun c94 => ?_) (fun c94 => ?_)
      · replace hm := in_e hm c94
        exact zx_lv [1, 2, 3, 4, 5, 6, 7, 0] [(0, .ref (x0)), (1, .int (x1)), (2, .int (x2)), (3, .int (x3)), (4, .int (x4)), (6, .int (x6)), (7, .int (x7)), (8, .int (s0))] rfl (j_X12_walk_150 C htab hin hrc11   hm)
      · replace hm := ip_e hm c94
        refine zx_iconst (v := 1) C dX12_walk_146 (by decide) ?_
        refine zx_goto C 151 dX12_walk_147 (by decide) ?_
        exact zx_lv [1, 2, 3, 4, 5, 6, 7, 0] [(0, .ref (x0)), (1, .int (x1)), (2, .int (x2)), (3, .int (x3)), (4, .int (x4)), (6, .int (x6)), (7, .int (x7)), (8, .int (s0))] rfl (j_X12_walk_151 C htab hin hrc11   hm)
set_option maxRecDepth 100000 in
set_option maxHeartbeats 1000000 in
theorem j_X12_walk_111 {p : Program} {l : Launch} {e : Env} {s : State} {m : MethodId} {args : Array Value} {below : List Frame} {meth : Method} {c : Code} {D : va_G} {aC : Nat → ClassId} {b0 fu : Nat} {σ0 τ : tM} {v : Int32} {rc11 : Nat → Int32 → Int32 → Int32 → Int32 → tM → Option ((Int32) × tM)} (C : tCx p l s m args meth c yX12_walk.cls cX12_walk 12 (some .int) D aC b0 σ0) (htab : ∀ x ∈ c.exceptionTable.toList, False) (hin : meth.name = yX12_walk.name) (hrc11 : ∀ (x0 : Nat) (x1 : Int32) (x2 : Int32) (x3 : Int32) (x4 : Int32) (ρ : tM), rc11 x0 x1 x2 x3 x4 ρ = some (v, τ) → tX p l e s m args below meth c 12 7 162 D aC b0 σ0 (.inl (some (.int v))) τ 11 [(0, .ref (x0)), (1, .int (x1)), (2, .int (x2)), (3, .int (x3)), (4, .int (x4))] [] ρ) {x0 : Nat} {x1 : Int32} {x2 : Int32} {x3 : Int32} {x4 : Int32} {x6 : Int32} {x7 : Int32} {σ : tM} (hm : J_X12_walk_111 b0 fu rc11 x0 x1 x2 x3 x4 x6 x7 σ = some (v, τ)) : tX p l e s m args below meth c 12 7 162 D aC b0 σ0 (.inl (some (.int v))) τ 111 [(0, .ref (x0)), (1, .int (x1)), (2, .int (x2)), (3, .int (x3)), (4, .int (x4)), (6, .int (x6)), (7, .int (x7))] [] σ := by
  unfold J_X12_walk_111 at hm
  refine zx_iconst (v := 0) C dX12_walk_111 (by decide) ?_
  exact zx_lv [0, 1, 2, 3, 4, 5, 6] [(0, .ref (x0)), (1, .int (x1)), (2, .int (x2)), (3, .int (x3)), (4, .int (x4)), (6, .int (x6)), (7, .int (x7))] rfl (j_X12_walk_112 C htab hin hrc11   hm)
set_option maxRecDepth 100000 in
set_option maxHeartbeats 1000000 in
theorem j_X12_walk_107 {p : Program} {l : Launch} {e : Env} {s : State} {m : MethodId} {args : Array Value} {below : List Frame} {meth : Method} {c : Code} {D : va_G} {aC : Nat → ClassId} {b0 fu : Nat} {σ0 τ : tM} {v : Int32} {rc11 : Nat → Int32 → Int32 → Int32 → Int32 → tM → Option ((Int32) × tM)} (C : tCx p l s m args meth c yX12_walk.cls cX12_walk 12 (some .int) D aC b0 σ0) (htab : ∀ x ∈ c.exceptionTable.toList, False) (hin : meth.name = yX12_walk.name) (hrc11 : ∀ (x0 : Nat) (x1 : Int32) (x2 : Int32) (x3 : Int32) (x4 : Int32) (ρ : tM), rc11 x0 x1 x2 x3 x4 ρ = some (v, τ) → tX p l e s m args below meth c 12 7 162 D aC b0 σ0 (.inl (some (.int v))) τ 11 [(0, .ref (x0)), (1, .int (x1)), (2, .int (x2)), (3, .int (x3)), (4, .int (x4))] [] ρ) {x0 : Nat} {x1 : Int32} {x2 : Int32} {x3 : Int32} {x4 : Int32} {x6 : Int32} {x7 : Int32} {σ : tM} (hm : J_X12_walk_107 b0 fu rc11 x0 x1 x2 x3 x4 x6 x7 σ = some (v, τ)) : tX p l e s m args below meth c 12 7 162 D aC b0 σ0 (.inl (some (.int v))) τ 107 [(0, .ref (x0)), (1, .int (x1)), (2, .int (x2)), (3, .int (x3)), (4, .int (x4)), (6, .int (x6)), (7, .int (x7))] [] σ := by
  unfold J_X12_walk_107 at hm
  refine zx_iconst (v := 1) C dX12_walk_107 (by decide) ?_
  refine zx_goto C 112 dX12_walk_108 (by decide) ?_
  exact zx_lv [0, 1, 2, 3, 4, 5, 6] [(0, .ref (x0)), (1, .int (x1)), (2, .int (x2)), (3, .int (x3)), (4, .int (x4)), (6, .int (x6)), (7, .int (x7))] rfl (j_X12_walk_112 C htab hin hrc11   hm)
set_option maxRecDepth 100000 in
set_option maxHeartbeats 1000000 in
theorem j_X12_walk_51 {p : Program} {l : Launch} {e : Env} {s : State} {m : MethodId} {args : Array Value} {below : List Frame} {meth : Method} {c : Code} {D : va_G} {aC : Nat → ClassId} {b0 fu : Nat} {σ0 τ : tM} {v : Int32} {rc11 : Nat → Int32 → Int32 → Int32 → Int32 → tM → Option ((Int32) × tM)} (C : tCx p l s m args meth c yX12_walk.cls cX12_walk 12 (some .int) D aC b0 σ0) (htab : ∀ x ∈ c.exceptionTable.toList, False) (hin : meth.name = yX12_walk.name) (hrc11 : ∀ (x0 : Nat) (x1 : Int32) (x2 : Int32) (x3 : Int32) (x4 : Int32) (ρ : tM), rc11 x0 x1 x2 x3 x4 ρ = some (v, τ) → tX p l e s m args below meth c 12 7 162 D aC b0 σ0 (.inl (some (.int v))) τ 11 [(0, .ref (x0)), (1, .int (x1)), (2, .int (x2)), (3, .int (x3)), (4, .int (x4))] [] ρ) {x0 : Nat} {x1 : Int32} {x2 : Int32} {x3 : Int32} {x4 : Int32} {x5 : Int32} {σ : tM} (hm : J_X12_walk_51 b0 fu rc11 x0 x1 x2 x3 x4 x5 σ = some (v, τ)) : tX p l e s m args below meth c 12 7 162 D aC b0 σ0 (.inl (some (.int v))) τ 51 [(0, .ref (x0)), (1, .int (x1)), (2, .int (x2)), (3, .int (x3)), (4, .int (x4)), (5, .int (x5))] [] σ := by
  unfold J_X12_walk_51 at hm
  refine zx_iload C dX12_walk_51 5 rfl ?_
  refine zx_iload C dX12_walk_53 4 rfl ?_
  refine zx_isub C dX12_walk_55 ?_
  refine zx_topi (fun y12 hy12 => ?_)
  replace hm := ltb_e hm hy12
  refine zx_istore C [(6, .int (y12)), (0, .ref (x0)), (1, .int (x1)), (2, .int (x2)), (3, .int (x3)), (4, .int (x4)), (5, .int (x5))] dX12_walk_56 (by decide) rfl ?_
  refine zx_aload_n C dX12_walk_58 1 rfl ?_
  refine zx_iload C dX12_walk_59 6 rfl ?_
  obtain ⟨k13, i14, hm⟩ := ckO_e hm
  obtain ⟨v15, ρ16, h17, hm⟩ := cll_e hm
  refine zx_callV (σ := σ) C [.int (x5)] tC_11 k13 i14 Y_X12_behind W_8_36 W_8_38 Wp_79 (c_X12_behind h17) (by decide) (by decide) rfl (Nat.le_of_ble_eq_true rfl) dX12_walk_61 rfl ?_
  refine zx_istore C [(7, .int (v15)), (6, .int (y12)), (0, .ref (x0)), (1, .int (x1)), (2, .int (x2)), (3, .int (x3)), (4, .int (x4)), (5, .int (x5))] dX12_walk_64 (by decide) rfl ?_
  refine zx_aload_n C dX12_walk_66 2 rfl ?_
  refine zx_iload_n C dX12_walk_67 4 rfl ?_
  refine zx_iconst (v := 0) C dX12_walk_68 (by decide) ?_
  obtain ⟨k18, i19, hm⟩ := ckO_e hm
  obtain ⟨v20, ρ21, h22, hm⟩ := cll_e hm
  refine zx_callV (σ := ρ16) C [.int (x2), .int (0)] tC_11 k18 i19 Y_X12_node W_8_40 W_8_42 Wp_80 (c_X12_node h22) (by decide) (by decide) rfl (Nat.le_of_ble_eq_true rfl) dX12_walk_69 rfl ?_
  refine zx_iconst (v := 2) C dX12_walk_72 (by decide) ?_
  refine zx_icmp_eq C 79 dX12_walk_73 (by decide) (fun c23 => ?_) (fun c23 => ?_)
  · replace hm := ip_e hm c23
    refine zx_iload C dX12_walk_79 1 rfl ?_
    refine zx_bipush (v := 28) C dX12_walk_81 (by decide) ?_
    refine zx_icmp_le C 89 dX12_walk_83 (by decide) (fun c24 => ?_) (fun c24 => ?_)
    · replace hm := ip_e hm c24
      refine zx_iload C dX12_walk_89 1 rfl ?_
      refine zx_iconst (v := 1) C dX12_walk_91 (by decide) ?_
      refine zx_icmp_ne C 111 dX12_walk_92 (by decide) (fun c25 => ?_) (fun c25 => ?_)
      · replace hm := in_e hm c25
        exact zx_lv [2, 3, 4, 5, 6, 1, 0] [(0, .ref (x0)), (1, .int (x1)), (2, .int (x2)), (3, .int (x3)), (4, .int (x4)), (6, .int (y12)), (7, .int (v15))] rfl (j_X12_walk_111 C htab hin hrc11   hm)
      · replace hm := ip_e hm c25
        refine zx_aload_n C dX12_walk_95 2 rfl ?_
        obtain ⟨k95, i96, hm⟩ := ckO_e hm
        obtain ⟨a97, h98, hm⟩ := osm_e hm
        refine zx_get (j := 49) C tC_11 k95 i96 ⟨by decide, Or.inl W_7_28⟩ dX12_walk_96 (.ref a97) (rf_s h98) ?_
        refine zx_iload C dX12_walk_99 6 rfl ?_
        obtain ⟨n101, k99, i100, hm⟩ := ckR_e hm
        obtain ⟨h102, hm⟩ := ckI_e hm
        refine zx_bald C k99 i100 h102 dX12_walk_101 ?_
        refine zx_bipush (v := 46) C dX12_walk_102 (by decide) ?_
        refine zx_icmp_ne C 111 dX12_walk_104 (by decide) (fun c103 => ?_) (fun c103 => ?_)
        · replace hm := in_e hm c103
          exact zx_lv [2, 3, 4, 5, 6, 1, 0] [(0, .ref (x0)), (1, .int (x1)), (2, .int (x2)), (3, .int (x3)), (4, .int (x4)), (6, .int (y12)), (7, .int (v15))] rfl (j_X12_walk_111 C htab hin hrc11   hm)
        · replace hm := ip_e hm c103
          exact zx_lv [2, 3, 4, 5, 6, 1, 0] [(0, .ref (x0)), (1, .int (x1)), (2, .int (x2)), (3, .int (x3)), (4, .int (x4)), (6, .int (y12)), (7, .int (v15))] rfl (j_X12_walk_107 C htab hin hrc11   hm)
    · replace hm := in_e hm c24
      refine zx_bipush (v := (-7)) C dX12_walk_86 (by decide) ?_
      obtain ⟨rfl, rfl⟩ := ret_e hm
      exact zx_iret C rfl rfl rfl dX12_walk_88
  · replace hm := in_e hm c23
    refine zx_bipush (v := (-3)) C dX12_walk_76 (by decide) ?_
    obtain ⟨rfl, rfl⟩ := ret_e hm
    exact zx_iret C rfl rfl rfl dX12_walk_78
set_option maxRecDepth 100000 in
set_option maxHeartbeats 1000000 in
theorem l_X12_walk_24 {p : Program} {l : Launch} {e : Env} {s : State} {m : MethodId} {args : Array Value} {below : List Frame} {meth : Method} {c : Code} {D : va_G} {aC : Nat → ClassId} {b0 fu : Nat} {σ0 τ : tM} {v : Int32} {rc11 : Nat → Int32 → Int32 → Int32 → Int32 → tM → Option ((Int32) × tM)} (C : tCx p l s m args meth c yX12_walk.cls cX12_walk 12 (some .int) D aC b0 σ0) (htab : ∀ x ∈ c.exceptionTable.toList, False) (hin : meth.name = yX12_walk.name) (hrc11 : ∀ (x0 : Nat) (x1 : Int32) (x2 : Int32) (x3 : Int32) (x4 : Int32) (ρ : tM), rc11 x0 x1 x2 x3 x4 ρ = some (v, τ) → tX p l e s m args below meth c 12 7 162 D aC b0 σ0 (.inl (some (.int v))) τ 11 [(0, .ref (x0)), (1, .int (x1)), (2, .int (x2)), (3, .int (x3)), (4, .int (x4))] [] ρ) : ∀ (n : Nat) (x0 : Nat) (x1 : Int32) (x2 : Int32) (x3 : Int32) (x4 : Int32) (x5 : Int32) (σ : tM), L_X12_walk_24 b0 fu rc11 n x0 x1 x2 x3 x4 x5 σ = some (v, τ) → tX p l e s m args below meth c 12 7 162 D aC b0 σ0 (.inl (some (.int v))) τ 24 [(0, .ref (x0)), (1, .int (x1)), (2, .int (x2)), (3, .int (x3)), (4, .int (x4)), (5, .int (x5))] [] σ := by
  intro n
  induction n with
  | zero => intro x0 x1 x2 x3 x4 x5 σ hm; unfold L_X12_walk_24 at hm; cases hm
  | succ n ih =>
    intro x0 x1 x2 x3 x4 x5 σ hm
    unfold L_X12_walk_24 at hm
    obtain ⟨rc24, hrc⟩ : ∃ z, z = L_X12_walk_24 b0 fu rc11 n := ⟨_, rfl⟩
    replace hm := ltb_e hm hrc
    rw [← hrc] at ih
    have hrc24 := ih
    clear ih hrc
    refine zx_iload C dX12_walk_24 5 rfl ?_
    refine zx_aload_n C dX12_walk_26 0 rfl ?_
    obtain ⟨k9, i10, hm⟩ := ckO_e hm
    refine zx_get (j := 51) C tC_11 k9 i10 ⟨by decide, Or.inl W_7_30⟩ dX12_walk_27 (.int (tI (σ) (x0) 51)) rfl ?_
    refine zx_icmp_ge C 51 dX12_walk_30 (by decide) (fun c11 => ?_) (fun c11 => ?_)
    · replace hm := ip_e hm c11
      exact zx_lv [0, 1, 2, 3, 4, 5] [(0, .ref (x0)), (1, .int (x1)), (2, .int (x2)), (3, .int (x3)), (4, .int (x4)), (5, .int (x5))] rfl (j_X12_walk_51 C htab hin hrc11   hm)
    · replace hm := in_e hm c11
      refine zx_aload_n C dX12_walk_33 0 rfl ?_
      obtain ⟨a104, h105, hm⟩ := osm_e hm
      refine zx_get (j := 49) C tC_11 k9 i10 ⟨by decide, Or.inl W_7_28⟩ dX12_walk_34 (.ref a104) (rf_s h105) ?_
      refine zx_iload C dX12_walk_37 5 rfl ?_
      obtain ⟨n108, k106, i107, hm⟩ := ckR_e hm
      obtain ⟨h109, hm⟩ := ckI_e hm
      refine zx_bald C k106 i107 h109 dX12_walk_39 ?_
      refine zx_bipush (v := 47) C dX12_walk_40 (by decide) ?_
      refine zx_icmp_eq C 51 dX12_walk_42 (by decide) (fun c110 => ?_) (fun c110 => ?_)
      · replace hm := ip_e hm c110
        exact zx_lv [0, 1, 2, 3, 4, 5] [(0, .ref (x0)), (1, .int (x1)), (2, .int (x2)), (3, .int (x3)), (4, .int (x4)), (5, .int (x5))] rfl (j_X12_walk_51 C htab hin hrc11   hm)
      · replace hm := in_e hm c110
        obtain ⟨y111, hy111⟩ : ∃ z : Int32, z = (x5) + Int32.ofInt 1 := ⟨_, rfl⟩
        replace hm := ltb_e hm hy111
        refine zx_iinc C [(5, .int (y111)), (0, .ref (x0)), (1, .int (x1)), (2, .int (x2)), (3, .int (x3)), (4, .int (x4))] dX12_walk_45 5 rfl hy111.symm (by decide) rfl ?_
        refine zx_goto C 24 dX12_walk_48 (by decide) ?_
        exact zx_lv [1, 2, 3, 4, 5, 0] [(0, .ref (x0)), (1, .int (x1)), (2, .int (x2)), (3, .int (x3)), (4, .int (x4)), (5, .int (y111))] rfl (hrc24 _ _ _ _ _ _ _ hm)
set_option maxRecDepth 100000 in
set_option maxHeartbeats 1000000 in
theorem l_X12_walk_11 {p : Program} {l : Launch} {e : Env} {s : State} {m : MethodId} {args : Array Value} {below : List Frame} {meth : Method} {c : Code} {D : va_G} {aC : Nat → ClassId} {b0 fu : Nat} {σ0 τ : tM} {v : Int32}  (C : tCx p l s m args meth c yX12_walk.cls cX12_walk 12 (some .int) D aC b0 σ0) (htab : ∀ x ∈ c.exceptionTable.toList, False) (hin : meth.name = yX12_walk.name)  : ∀ (n : Nat) (x0 : Nat) (x1 : Int32) (x2 : Int32) (x3 : Int32) (x4 : Int32) (σ : tM), L_X12_walk_11 b0 fu  n x0 x1 x2 x3 x4 σ = some (v, τ) → tX p l e s m args below meth c 12 7 162 D aC b0 σ0 (.inl (some (.int v))) τ 11 [(0, .ref (x0)), (1, .int (x1)), (2, .int (x2)), (3, .int (x3)), (4, .int (x4))] [] σ := by
  intro n
  induction n with
  | zero => intro x0 x1 x2 x3 x4 σ hm; unfold L_X12_walk_11 at hm; cases hm
  | succ n ih =>
    intro x0 x1 x2 x3 x4 σ hm
    unfold L_X12_walk_11 at hm
    obtain ⟨rc11, hrc⟩ : ∃ z, z = L_X12_walk_11 b0 fu  n := ⟨_, rfl⟩
    replace hm := ltb_e hm hrc
    rw [← hrc] at ih
    have hrc11 := ih
    clear ih hrc
    refine zx_iload C dX12_walk_11 4 rfl ?_
    refine zx_aload_n C dX12_walk_13 0 rfl ?_
    obtain ⟨k6, i7, hm⟩ := ckO_e hm
    refine zx_get (j := 51) C tC_11 k6 i7 ⟨by decide, Or.inl W_7_30⟩ dX12_walk_14 (.int (tI (σ) (x0) 51)) rfl ?_
    refine zx_icmp_ge C 294 dX12_walk_17 (by decide) (fun c8 => ?_) (fun c8 => ?_)
    · replace hm := ip_e hm c8
      refine zx_iload_n C dX12_walk_294 2 rfl ?_
      obtain ⟨rfl, rfl⟩ := ret_e hm
      exact zx_iret C rfl rfl rfl dX12_walk_295
    · replace hm := in_e hm c8
      refine zx_iload C dX12_walk_20 4 rfl ?_
      refine zx_istore C [(5, .int (x4)), (0, .ref (x0)), (1, .int (x1)), (2, .int (x2)), (3, .int (x3)), (4, .int (x4))] dX12_walk_22 (by decide) rfl ?_
      exact zx_lv [1, 2, 3, 4, 5, 0] [(0, .ref (x0)), (1, .int (x1)), (2, .int (x2)), (3, .int (x3)), (4, .int (x4)), (5, .int (x4))] rfl (l_X12_walk_24 C htab hin hrc11 _ _ _ _ _ _ _ _ hm)
set_option maxRecDepth 100000 in
set_option maxHeartbeats 1000000 in
theorem c_X12_walk {l : Launch} {D : va_G} {aC : Nat → ClassId} {b0 fu : Nat} {a0 : Nat} {p0 : Int32} {σ τ : tM} {v : Int32} (hm : m_X12_walk b0 fu a0 p0 σ = some (v, τ)) : tMt l D aC b0 yX12_walk (Cond.code yX12_walk cX12_walk 12 (some .int)) 7 162 [.ref (a0), .int (p0)] σ (.inl (some (.int v))) τ := by
  unfold m_X12_walk at hm
  obtain ⟨hg, hm⟩ := grw_e hm
  refine tMt_of (n := 0) rfl (Nat.le_of_ble_eq_true rfl) hg ?_
  intro p e s m below meth c C htab hin
  refine zx_lv [0, 1] [(0, .ref (a0)), (1, .int (p0))] rfl ?_
  refine zx_iconst (v := 0) C dX12_walk_0 (by decide) ?_
  refine zx_istore_n C [(2, .int (0)), (0, .ref (a0)), (1, .int (p0))] dX12_walk_1 rfl (by decide) rfl ?_
  refine zx_iconst (v := 0) C dX12_walk_2 (by decide) ?_
  refine zx_istore_n C [(3, .int (0)), (2, .int (0)), (0, .ref (a0)), (1, .int (p0))] dX12_walk_3 rfl (by decide) rfl ?_
  refine zx_aload_n C dX12_walk_4 2 rfl ?_
  refine zx_iconst (v := 0) C dX12_walk_5 (by decide) ?_
  obtain ⟨k1, i2, hm⟩ := ckO_e hm
  obtain ⟨v3, ρ4, h5, hm⟩ := cll_e hm
  refine zx_callV (σ := σ) C [.int (0)] tC_11 k1 i2 Y_X12_behind W_8_36 W_8_38 Wp_79 (c_X12_behind h5) (by decide) (by decide) rfl (Nat.le_of_ble_eq_true rfl) dX12_walk_6 rfl ?_
  refine zx_istore C [(4, .int (v3)), (3, .int (0)), (2, .int (0)), (0, .ref (a0)), (1, .int (p0))] dX12_walk_9 (by decide) rfl ?_
  exact zx_lv [3, 4, 2, 1, 0] [(0, .ref (a0)), (1, .int (p0)), (2, .int (0)), (3, .int (0)), (4, .int (v3))] rfl (l_X12_walk_11 C htab hin  _ _ _ _ _ _ _ hm)
abbrev cX12_walkTo : ByteArray := prog_13_method_59_code
def yX12_walkTo : MethodName := ⟨"SyncTreeModel", "walkTo", "(IZ)I"⟩
theorem Y_X12_walkTo : tY yX12_walkTo cX12_walkTo 3 (some .int) 2 := ⟨W_8_154, W_1_14, ⟨by decide +kernel, by decide +kernel⟩, by decide +kernel⟩
theorem dX12_walkTo_0 : decode cX12_walkTo 0 = .ok (.aload_n 0, 1) := by decide +kernel
theorem dX12_walkTo_1 : decode cX12_walkTo 1 = .ok (.iload_n 1, 1) := by decide +kernel
theorem dX12_walkTo_2 : decode cX12_walkTo 2 = .ok (.aload_n 0, 1) := by decide +kernel
theorem dX12_walkTo_3 : decode cX12_walkTo 3 = .ok (.getfield 346, 3) := by decide +kernel
theorem dX12_walkTo_6 : decode cX12_walkTo 6 = .ok (.iload_n 1, 1) := by decide +kernel
theorem dX12_walkTo_7 : decode cX12_walkTo 7 = .ok (.iaload, 1) := by decide +kernel
theorem dX12_walkTo_8 : decode cX12_walkTo 8 = .ok (.invokevirtual 349, 3) := by decide +kernel
theorem dX12_walkTo_11 : decode cX12_walkTo 11 = .ok (.aload_n 0, 1) := by decide +kernel
theorem dX12_walkTo_12 : decode cX12_walkTo 12 = .ok (.iload_n 2, 1) := by decide +kernel
theorem dX12_walkTo_13 : decode cX12_walkTo 13 = .ok (.invokevirtual 352, 3) := by decide +kernel
theorem dX12_walkTo_16 : decode cX12_walkTo 16 = .ok (.ireturn, 1) := by decide +kernel
set_option maxRecDepth 100000 in
set_option maxHeartbeats 1000000 in
theorem c_X12_walkTo {l : Launch} {D : va_G} {aC : Nat → ClassId} {b0 fu : Nat} {a0 : Nat} {p0 : Int32} {p1 : Int32} {σ τ : tM} {v : Int32} (hm : m_X12_walkTo b0 fu a0 p0 p1 σ = some (v, τ)) : tMt l D aC b0 yX12_walkTo (Cond.code yX12_walkTo cX12_walkTo 3 (some .int)) 8 193 [.ref (a0), .int (p0), .int (p1)] σ (.inl (some (.int v))) τ := by
  unfold m_X12_walkTo at hm
  obtain ⟨hg, hm⟩ := grw_e hm
  refine tMt_of (n := 0) rfl (Nat.le_of_ble_eq_true rfl) hg ?_
  intro p e s m below meth c C htab hin
  refine zx_lv [0, 1, 2] [(0, .ref (a0)), (1, .int (p0)), (2, .int (p1))] rfl ?_
  refine zx_aload_n C dX12_walkTo_0 0 rfl ?_
  refine zx_iload_n C dX12_walkTo_1 1 rfl ?_
  refine zx_aload_n C dX12_walkTo_2 0 rfl ?_
  obtain ⟨k1, i2, hm⟩ := ckO_e hm
  obtain ⟨a3, h4, hm⟩ := osm_e hm
  refine zx_get (j := 48) C tC_11 k1 i2 ⟨by decide, Or.inl W_7_27⟩ dX12_walkTo_3 (.ref a3) (rf_s h4) ?_
  refine zx_iload_n C dX12_walkTo_6 1 rfl ?_
  obtain ⟨n7, k5, i6, hm⟩ := ckR_e hm
  obtain ⟨h8, hm⟩ := ckI_e hm
  refine zx_iald C k5 i6 h8 dX12_walkTo_7 ?_
  obtain ⟨v9, ρ10, h11, hm⟩ := cll_e hm
  refine zx_callV (σ := σ) C [.int (p0), .int (tI (σ) (a3) ((p0).toNatClampNeg))] tC_11 k1 i2 Y_X12_begin W_8_28 W_8_30 Wp_77 (c_X12_begin h11) (by decide) (by decide) rfl (Nat.le_of_ble_eq_true rfl) dX12_walkTo_8 rfl ?_
  refine zx_aload_n C dX12_walkTo_11 0 rfl ?_
  refine zx_iload_n C dX12_walkTo_12 2 rfl ?_
  obtain ⟨k12, i13, hm⟩ := ckO_e hm
  obtain ⟨v14, ρ15, h16, hm⟩ := cll_e hm
  refine zx_callV (σ := ρ10) C [.int (p1)] tC_11 k12 i13 Y_X12_walk W_8_32 W_8_34 Wp_78 (c_X12_walk h16) (by decide) (by decide) rfl (Nat.le_of_ble_eq_true rfl) dX12_walkTo_13 rfl ?_
  obtain ⟨rfl, rfl⟩ := ret_e hm
  exact zx_iret C rfl rfl rfl dX12_walkTo_16
abbrev cX12_walkAhead : ByteArray := prog_13_method_60_code
def yX12_walkAhead : MethodName := ⟨"SyncTreeModel", "walkAhead", "(I)I"⟩
theorem Y_X12_walkAhead : tY yX12_walkAhead cX12_walkAhead 7 (some .int) 1 := ⟨W_8_27, W_1_14, ⟨by decide +kernel, by decide +kernel⟩, by decide +kernel⟩
theorem dX12_walkAhead_0 : decode cX12_walkAhead 0 = .ok (.aload_n 0, 1) := by decide +kernel
theorem dX12_walkAhead_1 : decode cX12_walkAhead 1 = .ok (.getfield 323, 3) := by decide +kernel
theorem dX12_walkAhead_4 : decode cX12_walkAhead 4 = .ok (.iload_n 1, 1) := by decide +kernel
theorem dX12_walkAhead_5 : decode cX12_walkAhead 5 = .ok (.aaload, 1) := by decide +kernel
theorem dX12_walkAhead_6 : decode cX12_walkAhead 6 = .ok (.astore_n 2, 1) := by decide +kernel
theorem dX12_walkAhead_7 : decode cX12_walkAhead 7 = .ok (.aload_n 0, 1) := by decide +kernel
theorem dX12_walkAhead_8 : decode cX12_walkAhead 8 = .ok (.getfield 346, 3) := by decide +kernel
theorem dX12_walkAhead_11 : decode cX12_walkAhead 11 = .ok (.iload_n 1, 1) := by decide +kernel
theorem dX12_walkAhead_12 : decode cX12_walkAhead 12 = .ok (.iaload, 1) := by decide +kernel
theorem dX12_walkAhead_13 : decode cX12_walkAhead 13 = .ok (.istore_n 3, 1) := by decide +kernel
theorem dX12_walkAhead_14 : decode cX12_walkAhead 14 = .ok (.iload_n 3, 1) := by decide +kernel
theorem dX12_walkAhead_15 : decode cX12_walkAhead 15 = .ok (.ifCond .le 19, 3) := by decide +kernel
theorem dX12_walkAhead_18 : decode cX12_walkAhead 18 = .ok (.aload_n 2, 1) := by decide +kernel
theorem dX12_walkAhead_19 : decode cX12_walkAhead 19 = .ok (.iload_n 3, 1) := by decide +kernel
theorem dX12_walkAhead_20 : decode cX12_walkAhead 20 = .ok (.iconst 1, 1) := by decide +kernel
theorem dX12_walkAhead_21 : decode cX12_walkAhead 21 = .ok (.isub, 1) := by decide +kernel
theorem dX12_walkAhead_22 : decode cX12_walkAhead 22 = .ok (.baload, 1) := by decide +kernel
theorem dX12_walkAhead_23 : decode cX12_walkAhead 23 = .ok (.bipush 47, 2) := by decide +kernel
theorem dX12_walkAhead_25 : decode cX12_walkAhead 25 = .ok (.if_icmp .ne 9, 3) := by decide +kernel
theorem dX12_walkAhead_28 : decode cX12_walkAhead 28 = .ok (.iinc 3 (-1), 3) := by decide +kernel
theorem dX12_walkAhead_31 : decode cX12_walkAhead 31 = .ok (.goto (-17), 3) := by decide +kernel
theorem dX12_walkAhead_34 : decode cX12_walkAhead 34 = .ok (.iload_n 3, 1) := by decide +kernel
theorem dX12_walkAhead_35 : decode cX12_walkAhead 35 = .ok (.istore 4, 2) := by decide +kernel
theorem dX12_walkAhead_37 : decode cX12_walkAhead 37 = .ok (.iload 4, 2) := by decide +kernel
theorem dX12_walkAhead_39 : decode cX12_walkAhead 39 = .ok (.ifCond .le 20, 3) := by decide +kernel
theorem dX12_walkAhead_42 : decode cX12_walkAhead 42 = .ok (.aload_n 2, 1) := by decide +kernel
theorem dX12_walkAhead_43 : decode cX12_walkAhead 43 = .ok (.iload 4, 2) := by decide +kernel
theorem dX12_walkAhead_45 : decode cX12_walkAhead 45 = .ok (.iconst 1, 1) := by decide +kernel
theorem dX12_walkAhead_46 : decode cX12_walkAhead 46 = .ok (.isub, 1) := by decide +kernel
theorem dX12_walkAhead_47 : decode cX12_walkAhead 47 = .ok (.baload, 1) := by decide +kernel
theorem dX12_walkAhead_48 : decode cX12_walkAhead 48 = .ok (.bipush 47, 2) := by decide +kernel
theorem dX12_walkAhead_50 : decode cX12_walkAhead 50 = .ok (.if_icmp .eq 9, 3) := by decide +kernel
theorem dX12_walkAhead_53 : decode cX12_walkAhead 53 = .ok (.iinc 4 (-1), 3) := by decide +kernel
theorem dX12_walkAhead_56 : decode cX12_walkAhead 56 = .ok (.goto (-19), 3) := by decide +kernel
theorem dX12_walkAhead_59 : decode cX12_walkAhead 59 = .ok (.aload_n 0, 1) := by decide +kernel
theorem dX12_walkAhead_60 : decode cX12_walkAhead 60 = .ok (.iload_n 3, 1) := by decide +kernel
theorem dX12_walkAhead_61 : decode cX12_walkAhead 61 = .ok (.iload 4, 2) := by decide +kernel
theorem dX12_walkAhead_63 : decode cX12_walkAhead 63 = .ok (.isub, 1) := by decide +kernel
theorem dX12_walkAhead_64 : decode cX12_walkAhead 64 = .ok (.putfield 355, 3) := by decide +kernel
theorem dX12_walkAhead_67 : decode cX12_walkAhead 67 = .ok (.aload_n 2, 1) := by decide +kernel
theorem dX12_walkAhead_68 : decode cX12_walkAhead 68 = .ok (.iload 4, 2) := by decide +kernel
theorem dX12_walkAhead_70 : decode cX12_walkAhead 70 = .ok (.aload_n 0, 1) := by decide +kernel
theorem dX12_walkAhead_71 : decode cX12_walkAhead 71 = .ok (.getfield 358, 3) := by decide +kernel
theorem dX12_walkAhead_74 : decode cX12_walkAhead 74 = .ok (.iconst 0, 1) := by decide +kernel
theorem dX12_walkAhead_75 : decode cX12_walkAhead 75 = .ok (.aload_n 0, 1) := by decide +kernel
theorem dX12_walkAhead_76 : decode cX12_walkAhead 76 = .ok (.getfield 355, 3) := by decide +kernel
theorem dX12_walkAhead_79 : decode cX12_walkAhead 79 = .ok (.invokestatic 7, 3) := by decide +kernel
theorem dX12_walkAhead_82 : decode cX12_walkAhead 82 = .ok (.aload_n 0, 1) := by decide +kernel
theorem dX12_walkAhead_83 : decode cX12_walkAhead 83 = .ok (.iload_n 1, 1) := by decide +kernel
theorem dX12_walkAhead_84 : decode cX12_walkAhead 84 = .ok (.iload 4, 2) := by decide +kernel
theorem dX12_walkAhead_86 : decode cX12_walkAhead 86 = .ok (.invokevirtual 349, 3) := by decide +kernel
theorem dX12_walkAhead_89 : decode cX12_walkAhead 89 = .ok (.aload_n 0, 1) := by decide +kernel
theorem dX12_walkAhead_90 : decode cX12_walkAhead 90 = .ok (.iconst 1, 1) := by decide +kernel
theorem dX12_walkAhead_91 : decode cX12_walkAhead 91 = .ok (.invokevirtual 352, 3) := by decide +kernel
theorem dX12_walkAhead_94 : decode cX12_walkAhead 94 = .ok (.istore 5, 2) := by decide +kernel
theorem dX12_walkAhead_96 : decode cX12_walkAhead 96 = .ok (.iload 5, 2) := by decide +kernel
theorem dX12_walkAhead_98 : decode cX12_walkAhead 98 = .ok (.ifCond .ge 6, 3) := by decide +kernel
theorem dX12_walkAhead_101 : decode cX12_walkAhead 101 = .ok (.iload 5, 2) := by decide +kernel
theorem dX12_walkAhead_103 : decode cX12_walkAhead 103 = .ok (.ireturn, 1) := by decide +kernel
theorem dX12_walkAhead_104 : decode cX12_walkAhead 104 = .ok (.aload_n 0, 1) := by decide +kernel
theorem dX12_walkAhead_105 : decode cX12_walkAhead 105 = .ok (.getfield 355, 3) := by decide +kernel
theorem dX12_walkAhead_108 : decode cX12_walkAhead 108 = .ok (.iconst 1, 1) := by decide +kernel
theorem dX12_walkAhead_109 : decode cX12_walkAhead 109 = .ok (.if_icmp .ne 14, 3) := by decide +kernel
theorem dX12_walkAhead_112 : decode cX12_walkAhead 112 = .ok (.aload_n 0, 1) := by decide +kernel
theorem dX12_walkAhead_113 : decode cX12_walkAhead 113 = .ok (.getfield 358, 3) := by decide +kernel
theorem dX12_walkAhead_116 : decode cX12_walkAhead 116 = .ok (.iconst 0, 1) := by decide +kernel
theorem dX12_walkAhead_117 : decode cX12_walkAhead 117 = .ok (.baload, 1) := by decide +kernel
theorem dX12_walkAhead_118 : decode cX12_walkAhead 118 = .ok (.bipush 46, 2) := by decide +kernel
theorem dX12_walkAhead_120 : decode cX12_walkAhead 120 = .ok (.if_icmp .eq 33, 3) := by decide +kernel
theorem dX12_walkAhead_123 : decode cX12_walkAhead 123 = .ok (.aload_n 0, 1) := by decide +kernel
theorem dX12_walkAhead_124 : decode cX12_walkAhead 124 = .ok (.getfield 355, 3) := by decide +kernel
theorem dX12_walkAhead_127 : decode cX12_walkAhead 127 = .ok (.iconst 2, 1) := by decide +kernel
theorem dX12_walkAhead_128 : decode cX12_walkAhead 128 = .ok (.if_icmp .ne 29, 3) := by decide +kernel
theorem dX12_walkAhead_131 : decode cX12_walkAhead 131 = .ok (.aload_n 0, 1) := by decide +kernel
theorem dX12_walkAhead_132 : decode cX12_walkAhead 132 = .ok (.getfield 358, 3) := by decide +kernel
theorem dX12_walkAhead_135 : decode cX12_walkAhead 135 = .ok (.iconst 0, 1) := by decide +kernel
theorem dX12_walkAhead_136 : decode cX12_walkAhead 136 = .ok (.baload, 1) := by decide +kernel
theorem dX12_walkAhead_137 : decode cX12_walkAhead 137 = .ok (.bipush 46, 2) := by decide +kernel
theorem dX12_walkAhead_139 : decode cX12_walkAhead 139 = .ok (.if_icmp .ne 18, 3) := by decide +kernel
theorem dX12_walkAhead_142 : decode cX12_walkAhead 142 = .ok (.aload_n 0, 1) := by decide +kernel
theorem dX12_walkAhead_143 : decode cX12_walkAhead 143 = .ok (.getfield 358, 3) := by decide +kernel
theorem dX12_walkAhead_146 : decode cX12_walkAhead 146 = .ok (.iconst 1, 1) := by decide +kernel
theorem dX12_walkAhead_147 : decode cX12_walkAhead 147 = .ok (.baload, 1) := by decide +kernel
theorem dX12_walkAhead_148 : decode cX12_walkAhead 148 = .ok (.bipush 46, 2) := by decide +kernel
theorem dX12_walkAhead_150 : decode cX12_walkAhead 150 = .ok (.if_icmp .ne 7, 3) := by decide +kernel
theorem dX12_walkAhead_153 : decode cX12_walkAhead 153 = .ok (.iconst 1, 1) := by decide +kernel
theorem dX12_walkAhead_154 : decode cX12_walkAhead 154 = .ok (.goto 4, 3) := by decide +kernel
theorem dX12_walkAhead_157 : decode cX12_walkAhead 157 = .ok (.iconst 0, 1) := by decide +kernel
theorem dX12_walkAhead_158 : decode cX12_walkAhead 158 = .ok (.istore 6, 2) := by decide +kernel
theorem dX12_walkAhead_160 : decode cX12_walkAhead 160 = .ok (.aload_n 0, 1) := by decide +kernel
theorem dX12_walkAhead_161 : decode cX12_walkAhead 161 = .ok (.getfield 355, 3) := by decide +kernel
theorem dX12_walkAhead_164 : decode cX12_walkAhead 164 = .ok (.ifCond .eq 8, 3) := by decide +kernel
theorem dX12_walkAhead_167 : decode cX12_walkAhead 167 = .ok (.iload 6, 2) := by decide +kernel
theorem dX12_walkAhead_169 : decode cX12_walkAhead 169 = .ok (.ifCond .eq 6, 3) := by decide +kernel
theorem dX12_walkAhead_172 : decode cX12_walkAhead 172 = .ok (.bipush (-9), 2) := by decide +kernel
theorem dX12_walkAhead_174 : decode cX12_walkAhead 174 = .ok (.ireturn, 1) := by decide +kernel
theorem dX12_walkAhead_175 : decode cX12_walkAhead 175 = .ok (.aload_n 0, 1) := by decide +kernel
theorem dX12_walkAhead_176 : decode cX12_walkAhead 176 = .ok (.iload 5, 2) := by decide +kernel
theorem dX12_walkAhead_178 : decode cX12_walkAhead 178 = .ok (.iconst 0, 1) := by decide +kernel
theorem dX12_walkAhead_179 : decode cX12_walkAhead 179 = .ok (.invokevirtual 247, 3) := by decide +kernel
theorem dX12_walkAhead_182 : decode cX12_walkAhead 182 = .ok (.iconst 2, 1) := by decide +kernel
theorem dX12_walkAhead_183 : decode cX12_walkAhead 183 = .ok (.if_icmp .ne 8, 3) := by decide +kernel
theorem dX12_walkAhead_186 : decode cX12_walkAhead 186 = .ok (.iload 5, 2) := by decide +kernel
theorem dX12_walkAhead_188 : decode cX12_walkAhead 188 = .ok (.goto 5, 3) := by decide +kernel
theorem dX12_walkAhead_191 : decode cX12_walkAhead 191 = .ok (.bipush (-3), 2) := by decide +kernel
theorem dX12_walkAhead_193 : decode cX12_walkAhead 193 = .ok (.ireturn, 1) := by decide +kernel
set_option maxRecDepth 100000 in
set_option maxHeartbeats 1000000 in
theorem j_X12_walkAhead_172 {p : Program} {l : Launch} {e : Env} {s : State} {m : MethodId} {args : Array Value} {below : List Frame} {meth : Method} {c : Code} {D : va_G} {aC : Nat → ClassId} {b0 fu : Nat} {σ0 τ : tM} {v : Int32}  (C : tCx p l s m args meth c yX12_walkAhead.cls cX12_walkAhead 7 (some .int) D aC b0 σ0) (htab : ∀ x ∈ c.exceptionTable.toList, False) (hin : meth.name = yX12_walkAhead.name)   {σ : tM} (hm : J_X12_walkAhead_172 b0 fu   σ = some (v, τ)) : tX p l e s m args below meth c 7 8 193 D aC b0 σ0 (.inl (some (.int v))) τ 172 [] [] σ := by
  unfold J_X12_walkAhead_172 at hm
  refine zx_bipush (v := (-9)) C dX12_walkAhead_172 (by decide) ?_
  obtain ⟨rfl, rfl⟩ := ret_e hm
  exact zx_iret C rfl rfl rfl dX12_walkAhead_174
set_option maxRecDepth 100000 in
set_option maxHeartbeats 1000000 in
theorem j_X12_walkAhead_193 {p : Program} {l : Launch} {e : Env} {s : State} {m : MethodId} {args : Array Value} {below : List Frame} {meth : Method} {c : Code} {D : va_G} {aC : Nat → ClassId} {b0 fu : Nat} {σ0 τ : tM} {v : Int32}  (C : tCx p l s m args meth c yX12_walkAhead.cls cX12_walkAhead 7 (some .int) D aC b0 σ0) (htab : ∀ x ∈ c.exceptionTable.toList, False) (hin : meth.name = yX12_walkAhead.name)  {s0 : Int32} {σ : tM} (hm : J_X12_walkAhead_193 b0 fu  s0 σ = some (v, τ)) : tX p l e s m args below meth c 7 8 193 D aC b0 σ0 (.inl (some (.int v))) τ 193 [] [.int (s0)] σ := by
  unfold J_X12_walkAhead_193 at hm
  obtain ⟨rfl, rfl⟩ := ret_e hm
  exact zx_iret C rfl rfl rfl dX12_walkAhead_193
set_option maxRecDepth 100000 in
set_option maxHeartbeats 1000000 in
theorem j_X12_walkAhead_158 {p : Program} {l : Launch} {e : Env} {s : State} {m : MethodId} {args : Array Value} {below : List Frame} {meth : Method} {c : Code} {D : va_G} {aC : Nat → ClassId} {b0 fu : Nat} {σ0 τ : tM} {v : Int32}  (C : tCx p l s m args meth c yX12_walkAhead.cls cX12_walkAhead 7 (some .int) D aC b0 σ0) (htab : ∀ x ∈ c.exceptionTable.toList, False) (hin : meth.name = yX12_walkAhead.name)  {x0 : Nat} {x5 : Int32} {s0 : Int32} {σ : tM} (hm : J_X12_walkAhead_158 b0 fu  x0 x5 s0 σ = some (v, τ)) : tX p l e s m args below meth c 7 8 193 D aC b0 σ0 (.inl (some (.int v))) τ 158 [(0, .ref (x0)), (5, .int (x5))] [.int (s0)] σ := by
  unfold J_X12_walkAhead_158 at hm
  refine zx_istore C [(6, .int (s0)), (0, .ref (x0)), (5, .int (x5))] dX12_walkAhead_158 (by decide) rfl ?_
  refine zx_aload_n C dX12_walkAhead_160 1 rfl ?_
  obtain ⟨k53, i54, hm⟩ := ckO_e hm
  refine zx_get (j := 53) C tC_11 k53 i54 ⟨by decide, Or.inl W_7_32⟩ dX12_walkAhead_161 (.int (tI (σ) (x0) 53)) rfl ?_
  refine zx_if_eq C 172 dX12_walkAhead_164 (by decide) (fun c55 => ?_) (fun c55 => ?_)
  · replace hm := ip_e hm c55
    exact zx_lv [] [] rfl (j_X12_walkAhead_172 C htab hin    hm)
  · replace hm := in_e hm c55
    refine zx_iload C dX12_walkAhead_167 0 rfl ?_
    refine zx_if_eq C 175 dX12_walkAhead_169 (by decide) (fun c56 => ?_) (fun c56 => ?_)
    · replace hm := ip_e hm c56
      refine zx_aload_n C dX12_walkAhead_175 1 rfl ?_
      refine zx_iload C dX12_walkAhead_176 2 rfl ?_
      refine zx_iconst (v := 0) C dX12_walkAhead_178 (by decide) ?_
      obtain ⟨v57, ρ58, h59, hm⟩ := cll_e hm
      refine zx_callV (σ := σ) C [.int (x5), .int (0)] tC_11 k53 i54 Y_X12_node W_8_40 W_8_42 Wp_80 (c_X12_node h59) (by decide) (by decide) rfl (Nat.le_of_ble_eq_true rfl) dX12_walkAhead_179 rfl ?_
      refine zx_iconst (v := 2) C dX12_walkAhead_182 (by decide) ?_
      refine zx_icmp_ne C 191 dX12_walkAhead_183 (by decide) (fun c60 => ?_) (fun c60 => ?_)
      · replace hm := in_e hm c60
        refine zx_bipush (v := (-3)) C dX12_walkAhead_191 (by decide) ?_
        exact zx_lv [] [] rfl (j_X12_walkAhead_193 C htab hin    hm)
      · replace hm := ip_e hm c60
        refine zx_iload C dX12_walkAhead_186 2 rfl ?_
        refine zx_goto C 193 dX12_walkAhead_188 (by decide) ?_
        exact zx_lv [] [] rfl (j_X12_walkAhead_193 C htab hin    hm)
    · replace hm := in_e hm c56
      exact zx_lv [] [] rfl (j_X12_walkAhead_172 C htab hin    hm)
set_option maxRecDepth 100000 in
set_option maxHeartbeats 1000000 in
theorem j_X12_walkAhead_157 {p : Program} {l : Launch} {e : Env} {s : State} {m : MethodId} {args : Array Value} {below : List Frame} {meth : Method} {c : Code} {D : va_G} {aC : Nat → ClassId} {b0 fu : Nat} {σ0 τ : tM} {v : Int32}  (C : tCx p l s m args meth c yX12_walkAhead.cls cX12_walkAhead 7 (some .int) D aC b0 σ0) (htab : ∀ x ∈ c.exceptionTable.toList, False) (hin : meth.name = yX12_walkAhead.name)  {x0 : Nat} {x5 : Int32} {σ : tM} (hm : J_X12_walkAhead_157 b0 fu  x0 x5 σ = some (v, τ)) : tX p l e s m args below meth c 7 8 193 D aC b0 σ0 (.inl (some (.int v))) τ 157 [(0, .ref (x0)), (5, .int (x5))] [] σ := by
  unfold J_X12_walkAhead_157 at hm
  refine zx_iconst (v := 0) C dX12_walkAhead_157 (by decide) ?_
  exact zx_lv [0, 1] [(0, .ref (x0)), (5, .int (x5))] rfl (j_X12_walkAhead_158 C htab hin    hm)
set_option maxRecDepth 100000 in
set_option maxHeartbeats 1000000 in
theorem j_X12_walkAhead_153 {p : Program} {l : Launch} {e : Env} {s : State} {m : MethodId} {args : Array Value} {below : List Frame} {meth : Method} {c : Code} {D : va_G} {aC : Nat → ClassId} {b0 fu : Nat} {σ0 τ : tM} {v : Int32}  (C : tCx p l s m args meth c yX12_walkAhead.cls cX12_walkAhead 7 (some .int) D aC b0 σ0) (htab : ∀ x ∈ c.exceptionTable.toList, False) (hin : meth.name = yX12_walkAhead.name)  {x0 : Nat} {x5 : Int32} {σ : tM} (hm : J_X12_walkAhead_153 b0 fu  x0 x5 σ = some (v, τ)) : tX p l e s m args below meth c 7 8 193 D aC b0 σ0 (.inl (some (.int v))) τ 153 [(0, .ref (x0)), (5, .int (x5))] [] σ := by
  unfold J_X12_walkAhead_153 at hm
  refine zx_iconst (v := 1) C dX12_walkAhead_153 (by decide) ?_
  refine zx_goto C 158 dX12_walkAhead_154 (by decide) ?_
  exact zx_lv [0, 1] [(0, .ref (x0)), (5, .int (x5))] rfl (j_X12_walkAhead_158 C htab hin    hm)
set_option maxRecDepth 100000 in
set_option maxHeartbeats 1000000 in
theorem j_X12_walkAhead_123 {p : Program} {l : Launch} {e : Env} {s : State} {m : MethodId} {args : Array Value} {below : List Frame} {meth : Method} {c : Code} {D : va_G} {aC : Nat → ClassId} {b0 fu : Nat} {σ0 τ : tM} {v : Int32}  (C : tCx p l s m args meth c yX12_walkAhead.cls cX12_walkAhead 7 (some .int) D aC b0 σ0) (htab : ∀ x ∈ c.exceptionTable.toList, False) (hin : meth.name = yX12_walkAhead.name)  {x0 : Nat} {x5 : Int32} {σ : tM} (hm : J_X12_walkAhead_123 b0 fu  x0 x5 σ = some (v, τ)) : tX p l e s m args below meth c 7 8 193 D aC b0 σ0 (.inl (some (.int v))) τ 123 [(0, .ref (x0)), (5, .int (x5))] [] σ := by
  unfold J_X12_walkAhead_123 at hm
  refine zx_aload_n C dX12_walkAhead_123 0 rfl ?_
  obtain ⟨k50, i51, hm⟩ := ckO_e hm
  refine zx_get (j := 53) C tC_11 k50 i51 ⟨by decide, Or.inl W_7_32⟩ dX12_walkAhead_124 (.int (tI (σ) (x0) 53)) rfl ?_
  refine zx_iconst (v := 2) C dX12_walkAhead_127 (by decide) ?_
  refine zx_icmp_ne C 157 dX12_walkAhead_128 (by decide) (fun c52 => ?_) (fun c52 => ?_)
  · replace hm := in_e hm c52
    exact zx_lv [0, 1] [(0, .ref (x0)), (5, .int (x5))] rfl (j_X12_walkAhead_157 C htab hin    hm)
  · replace hm := ip_e hm c52
    refine zx_aload_n C dX12_walkAhead_131 0 rfl ?_
    obtain ⟨a61, h62, hm⟩ := osm_e hm
    refine zx_get (j := 52) C tC_11 k50 i51 ⟨by decide, Or.inl W_7_31⟩ dX12_walkAhead_132 (.ref a61) (rf_s h62) ?_
    refine zx_iconst (v := 0) C dX12_walkAhead_135 (by decide) ?_
    obtain ⟨n65, k63, i64, hm⟩ := ckR_e hm
    obtain ⟨h66, hm⟩ := ckI_e hm
    refine zx_bald C k63 i64 h66 dX12_walkAhead_136 ?_
    refine zx_bipush (v := 46) C dX12_walkAhead_137 (by decide) ?_
    refine zx_icmp_ne C 157 dX12_walkAhead_139 (by decide) (fun c67 => ?_) (fun c67 => ?_)
    · replace hm := in_e hm c67
      exact zx_lv [0, 1] [(0, .ref (x0)), (5, .int (x5))] rfl (j_X12_walkAhead_157 C htab hin    hm)
    · replace hm := ip_e hm c67
      refine zx_aload_n C dX12_walkAhead_142 0 rfl ?_
      obtain ⟨a68, h69, hm⟩ := osm_e hm
      refine zx_get (j := 52) C tC_11 k50 i51 ⟨by decide, Or.inl W_7_31⟩ dX12_walkAhead_143 (.ref a68) (rf_s h69) ?_
      refine zx_iconst (v := 1) C dX12_walkAhead_146 (by decide) ?_
      obtain ⟨n72, k70, i71, hm⟩ := ckR_e hm
      obtain ⟨h73, hm⟩ := ckI_e hm
      refine zx_bald C k70 i71 h73 dX12_walkAhead_147 ?_
      refine zx_bipush (v := 46) C dX12_walkAhead_148 (by decide) ?_
      refine zx_icmp_ne C 157 dX12_walkAhead_150 (by decide) (fun c74 => ?_) (fun c74 => ?_)
      · replace hm := in_e hm c74
        exact zx_lv [0, 1] [(0, .ref (x0)), (5, .int (x5))] rfl (j_X12_walkAhead_157 C htab hin    hm)
      · replace hm := ip_e hm c74
        exact zx_lv [0, 1] [(0, .ref (x0)), (5, .int (x5))] rfl (j_X12_walkAhead_153 C htab hin    hm)
set_option maxRecDepth 100000 in
set_option maxHeartbeats 1000000 in
theorem j_X12_walkAhead_59 {p : Program} {l : Launch} {e : Env} {s : State} {m : MethodId} {args : Array Value} {below : List Frame} {meth : Method} {c : Code} {D : va_G} {aC : Nat → ClassId} {b0 fu : Nat} {σ0 τ : tM} {v : Int32}  (C : tCx p l s m args meth c yX12_walkAhead.cls cX12_walkAhead 7 (some .int) D aC b0 σ0) (htab : ∀ x ∈ c.exceptionTable.toList, False) (hin : meth.name = yX12_walkAhead.name)  {x0 : Nat} {x1 : Int32} {x2 : Nat} {x3 : Int32} {x4 : Int32} {σ : tM} (hm : J_X12_walkAhead_59 b0 fu  x0 x1 x2 x3 x4 σ = some (v, τ)) : tX p l e s m args below meth c 7 8 193 D aC b0 σ0 (.inl (some (.int v))) τ 59 [(0, .ref (x0)), (1, .int (x1)), (2, .ref (x2)), (3, .int (x3)), (4, .int (x4))] [] σ := by
  unfold J_X12_walkAhead_59 at hm
  refine zx_aload_n C dX12_walkAhead_59 0 rfl ?_
  refine zx_iload_n C dX12_walkAhead_60 3 rfl ?_
  refine zx_iload C dX12_walkAhead_61 4 rfl ?_
  refine zx_isub C dX12_walkAhead_63 ?_
  obtain ⟨k20, i21, hm⟩ := ckO_e hm
  refine zx_put (j := 53) (ρ := sI (σ) (x0) 53 ((x3) - (x4))) C tC_11 k20 i21 ⟨by decide, Or.inl W_7_32⟩ rfl rfl rfl (sI_ok (fun _ => rfl)) dX12_walkAhead_64 ?_
  refine zx_aload_n C dX12_walkAhead_67 2 rfl ?_
  refine zx_iload C dX12_walkAhead_68 4 rfl ?_
  refine zx_aload_n C dX12_walkAhead_70 0 rfl ?_
  obtain ⟨a22, h23, hm⟩ := osm_e hm
  refine zx_get (j := 52) C tC_11 k20 i21 ⟨by decide, Or.inl W_7_31⟩ dX12_walkAhead_71 (.ref a22) (rf_s h23) ?_
  refine zx_iconst (v := 0) C dX12_walkAhead_74 (by decide) ?_
  refine zx_aload_n C dX12_walkAhead_75 0 rfl ?_
  refine zx_get (j := 53) C tC_11 k20 i21 ⟨by decide, Or.inl W_7_32⟩ dX12_walkAhead_76 (.int (tI (sI (σ) (x0) 53 ((x3) - (x4))) (x0) 53)) rfl ?_
  obtain ⟨n26, k24, i25, hm⟩ := ckR_e hm
  obtain ⟨n29, k27, i28, hm⟩ := ckR_e hm
  obtain ⟨h30, hm⟩ := ckC_e hm
  obtain ⟨h82, hm⟩ := ckF_e hm
  refine zx_copyB (σ := sI (σ) (x0) 53 ((x3) - (x4))) C W_7_169 W_2_135 W_2_134 W_1_11 k24 i25 k27 i28 h30 h82 (by decide) (by decide) (Nat.le_of_ble_eq_true rfl) dX12_walkAhead_79 ?_
  refine zx_mem (fun ρ31 hρ31 => ?_)
  replace hm := ltb_e hm hρ31
  have k32 : tk ρ31 (x0) = .inl 11 := by rw [hρ31]; exact k20
  have i33 : tIn b0 ρ31 (x0) := by rw [hρ31]; exact i21
  have k34 : tk ρ31 (x2) = .inr (1, n26) := by rw [hρ31]; exact k24
  have i35 : tIn b0 ρ31 (x2) := by rw [hρ31]; exact i25
  have k36 : tk ρ31 (a22) = .inr (1, n29) := by rw [hρ31]; exact k27
  have i37 : tIn b0 ρ31 (a22) := by rw [hρ31]; exact i28
  refine zx_aload_n C dX12_walkAhead_82 0 rfl ?_
  refine zx_iload_n C dX12_walkAhead_83 1 rfl ?_
  refine zx_iload C dX12_walkAhead_84 4 rfl ?_
  obtain ⟨v38, ρ39, h40, hm⟩ := cll_e hm
  refine zx_callV (σ := ρ31) C [.int (x1), .int (x4)] tC_11 k32 i33 Y_X12_begin W_8_28 W_8_30 Wp_77 (c_X12_begin h40) (by decide) (by decide) rfl (Nat.le_of_ble_eq_true rfl) dX12_walkAhead_86 rfl ?_
  refine zx_aload_n C dX12_walkAhead_89 0 rfl ?_
  refine zx_iconst (v := 1) C dX12_walkAhead_90 (by decide) ?_
  obtain ⟨k41, i42, hm⟩ := ckO_e hm
  obtain ⟨v43, ρ44, h45, hm⟩ := cll_e hm
  refine zx_callV (σ := ρ39) C [.int (1)] tC_11 k41 i42 Y_X12_walk W_8_32 W_8_34 Wp_78 (c_X12_walk h45) (by decide) (by decide) rfl (Nat.le_of_ble_eq_true rfl) dX12_walkAhead_91 rfl ?_
  refine zx_istore C [(5, .int (v43)), (0, .ref (x0)), (1, .int (x1)), (2, .ref (x2)), (3, .int (x3)), (4, .int (x4))] dX12_walkAhead_94 (by decide) rfl ?_
  refine zx_iload C dX12_walkAhead_96 0 rfl ?_
  refine zx_if_ge C 104 dX12_walkAhead_98 (by decide) (fun c46 => ?_) (fun c46 => ?_)
  · replace hm := ip_e hm c46
    refine zx_aload_n C dX12_walkAhead_104 1 rfl ?_
    obtain ⟨k47, i48, hm⟩ := ckO_e hm
    refine zx_get (j := 53) C tC_11 k47 i48 ⟨by decide, Or.inl W_7_32⟩ dX12_walkAhead_105 (.int (tI (ρ44) (x0) 53)) rfl ?_
    refine zx_iconst (v := 1) C dX12_walkAhead_108 (by decide) ?_
    refine zx_icmp_ne C 123 dX12_walkAhead_109 (by decide) (fun c49 => ?_) (fun c49 => ?_)
    · replace hm := in_e hm c49
      exact zx_lv [1, 0] [(0, .ref (x0)), (5, .int (v43))] rfl (j_X12_walkAhead_123 C htab hin    hm)
    · replace hm := ip_e hm c49
      refine zx_aload_n C dX12_walkAhead_112 1 rfl ?_
      obtain ⟨a75, h76, hm⟩ := osm_e hm
      refine zx_get (j := 52) C tC_11 k47 i48 ⟨by decide, Or.inl W_7_31⟩ dX12_walkAhead_113 (.ref a75) (rf_s h76) ?_
      refine zx_iconst (v := 0) C dX12_walkAhead_116 (by decide) ?_
      obtain ⟨n79, k77, i78, hm⟩ := ckR_e hm
      obtain ⟨h80, hm⟩ := ckI_e hm
      refine zx_bald C k77 i78 h80 dX12_walkAhead_117 ?_
      refine zx_bipush (v := 46) C dX12_walkAhead_118 (by decide) ?_
      refine zx_icmp_eq C 153 dX12_walkAhead_120 (by decide) (fun c81 => ?_) (fun c81 => ?_)
      · replace hm := ip_e hm c81
        exact zx_lv [1, 0] [(0, .ref (x0)), (5, .int (v43))] rfl (j_X12_walkAhead_153 C htab hin    hm)
      · replace hm := in_e hm c81
        exact zx_lv [1, 0] [(0, .ref (x0)), (5, .int (v43))] rfl (j_X12_walkAhead_123 C htab hin    hm)
  · replace hm := in_e hm c46
    refine zx_iload C dX12_walkAhead_101 0 rfl ?_
    obtain ⟨rfl, rfl⟩ := ret_e hm
    exact zx_iret C rfl rfl rfl dX12_walkAhead_103
set_option maxRecDepth 100000 in
set_option maxHeartbeats 1000000 in
theorem l_X12_walkAhead_37 {p : Program} {l : Launch} {e : Env} {s : State} {m : MethodId} {args : Array Value} {below : List Frame} {meth : Method} {c : Code} {D : va_G} {aC : Nat → ClassId} {b0 fu : Nat} {σ0 τ : tM} {v : Int32}  (C : tCx p l s m args meth c yX12_walkAhead.cls cX12_walkAhead 7 (some .int) D aC b0 σ0) (htab : ∀ x ∈ c.exceptionTable.toList, False) (hin : meth.name = yX12_walkAhead.name)  : ∀ (n : Nat) (x0 : Nat) (x1 : Int32) (x2 : Nat) (x3 : Int32) (x4 : Int32) (σ : tM), L_X12_walkAhead_37 b0 fu  n x0 x1 x2 x3 x4 σ = some (v, τ) → tX p l e s m args below meth c 7 8 193 D aC b0 σ0 (.inl (some (.int v))) τ 37 [(0, .ref (x0)), (1, .int (x1)), (2, .ref (x2)), (3, .int (x3)), (4, .int (x4))] [] σ := by
  intro n
  induction n with
  | zero => intro x0 x1 x2 x3 x4 σ hm; unfold L_X12_walkAhead_37 at hm; cases hm
  | succ n ih =>
    intro x0 x1 x2 x3 x4 σ hm
    unfold L_X12_walkAhead_37 at hm
    obtain ⟨rc37, hrc⟩ : ∃ z, z = L_X12_walkAhead_37 b0 fu  n := ⟨_, rfl⟩
    replace hm := ltb_e hm hrc
    rw [← hrc] at ih
    have hrc37 := ih
    clear ih hrc
    refine zx_iload C dX12_walkAhead_37 4 rfl ?_
    refine zx_if_le C 59 dX12_walkAhead_39 (by decide) (fun c19 => ?_) (fun c19 => ?_)
    · replace hm := ip_e hm c19
      exact zx_lv [0, 1, 2, 3, 4] [(0, .ref (x0)), (1, .int (x1)), (2, .ref (x2)), (3, .int (x3)), (4, .int (x4))] rfl (j_X12_walkAhead_59 C htab hin    hm)
    · replace hm := in_e hm c19
      refine zx_aload_n C dX12_walkAhead_42 2 rfl ?_
      refine zx_iload C dX12_walkAhead_43 4 rfl ?_
      refine zx_iconst (v := 1) C dX12_walkAhead_45 (by decide) ?_
      refine zx_isub C dX12_walkAhead_46 ?_
      obtain ⟨n85, k83, i84, hm⟩ := ckR_e hm
      obtain ⟨h86, hm⟩ := ckI_e hm
      refine zx_bald C k83 i84 h86 dX12_walkAhead_47 ?_
      refine zx_bipush (v := 47) C dX12_walkAhead_48 (by decide) ?_
      refine zx_icmp_eq C 59 dX12_walkAhead_50 (by decide) (fun c87 => ?_) (fun c87 => ?_)
      · replace hm := ip_e hm c87
        exact zx_lv [0, 1, 2, 3, 4] [(0, .ref (x0)), (1, .int (x1)), (2, .ref (x2)), (3, .int (x3)), (4, .int (x4))] rfl (j_X12_walkAhead_59 C htab hin    hm)
      · replace hm := in_e hm c87
        obtain ⟨y88, hy88⟩ : ∃ z : Int32, z = (x4) + Int32.ofInt (-1) := ⟨_, rfl⟩
        replace hm := ltb_e hm hy88
        refine zx_iinc C [(4, .int (y88)), (0, .ref (x0)), (1, .int (x1)), (2, .ref (x2)), (3, .int (x3))] dX12_walkAhead_53 4 rfl hy88.symm (by decide) rfl ?_
        refine zx_goto C 37 dX12_walkAhead_56 (by decide) ?_
        exact zx_lv [1, 2, 3, 4, 0] [(0, .ref (x0)), (1, .int (x1)), (2, .ref (x2)), (3, .int (x3)), (4, .int (y88))] rfl (hrc37 _ _ _ _ _ _ hm)
set_option maxRecDepth 100000 in
set_option maxHeartbeats 1000000 in
theorem j_X12_walkAhead_34 {p : Program} {l : Launch} {e : Env} {s : State} {m : MethodId} {args : Array Value} {below : List Frame} {meth : Method} {c : Code} {D : va_G} {aC : Nat → ClassId} {b0 fu : Nat} {σ0 τ : tM} {v : Int32}  (C : tCx p l s m args meth c yX12_walkAhead.cls cX12_walkAhead 7 (some .int) D aC b0 σ0) (htab : ∀ x ∈ c.exceptionTable.toList, False) (hin : meth.name = yX12_walkAhead.name)  {x0 : Nat} {x1 : Int32} {x2 : Nat} {x3 : Int32} {σ : tM} (hm : J_X12_walkAhead_34 b0 fu  x0 x1 x2 x3 σ = some (v, τ)) : tX p l e s m args below meth c 7 8 193 D aC b0 σ0 (.inl (some (.int v))) τ 34 [(0, .ref (x0)), (1, .int (x1)), (2, .ref (x2)), (3, .int (x3))] [] σ := by
  unfold J_X12_walkAhead_34 at hm
  refine zx_iload_n C dX12_walkAhead_34 3 rfl ?_
  refine zx_istore C [(4, .int (x3)), (0, .ref (x0)), (1, .int (x1)), (2, .ref (x2)), (3, .int (x3))] dX12_walkAhead_35 (by decide) rfl ?_
  exact zx_lv [1, 2, 3, 4, 0] [(0, .ref (x0)), (1, .int (x1)), (2, .ref (x2)), (3, .int (x3)), (4, .int (x3))] rfl (l_X12_walkAhead_37 C htab hin  _ _ _ _ _ _ _ hm)
set_option maxRecDepth 100000 in
set_option maxHeartbeats 1000000 in
theorem l_X12_walkAhead_14 {p : Program} {l : Launch} {e : Env} {s : State} {m : MethodId} {args : Array Value} {below : List Frame} {meth : Method} {c : Code} {D : va_G} {aC : Nat → ClassId} {b0 fu : Nat} {σ0 τ : tM} {v : Int32}  (C : tCx p l s m args meth c yX12_walkAhead.cls cX12_walkAhead 7 (some .int) D aC b0 σ0) (htab : ∀ x ∈ c.exceptionTable.toList, False) (hin : meth.name = yX12_walkAhead.name)  : ∀ (n : Nat) (x0 : Nat) (x1 : Int32) (x2 : Nat) (x3 : Int32) (σ : tM), L_X12_walkAhead_14 b0 fu  n x0 x1 x2 x3 σ = some (v, τ) → tX p l e s m args below meth c 7 8 193 D aC b0 σ0 (.inl (some (.int v))) τ 14 [(0, .ref (x0)), (1, .int (x1)), (2, .ref (x2)), (3, .int (x3))] [] σ := by
  intro n
  induction n with
  | zero => intro x0 x1 x2 x3 σ hm; unfold L_X12_walkAhead_14 at hm; cases hm
  | succ n ih =>
    intro x0 x1 x2 x3 σ hm
    unfold L_X12_walkAhead_14 at hm
    obtain ⟨rc14, hrc⟩ : ∃ z, z = L_X12_walkAhead_14 b0 fu  n := ⟨_, rfl⟩
    replace hm := ltb_e hm hrc
    rw [← hrc] at ih
    have hrc14 := ih
    clear ih hrc
    refine zx_iload_n C dX12_walkAhead_14 3 rfl ?_
    refine zx_if_le C 34 dX12_walkAhead_15 (by decide) (fun c18 => ?_) (fun c18 => ?_)
    · replace hm := ip_e hm c18
      exact zx_lv [0, 1, 2, 3] [(0, .ref (x0)), (1, .int (x1)), (2, .ref (x2)), (3, .int (x3))] rfl (j_X12_walkAhead_34 C htab hin    hm)
    · replace hm := in_e hm c18
      refine zx_aload_n C dX12_walkAhead_18 2 rfl ?_
      refine zx_iload_n C dX12_walkAhead_19 3 rfl ?_
      refine zx_iconst (v := 1) C dX12_walkAhead_20 (by decide) ?_
      refine zx_isub C dX12_walkAhead_21 ?_
      obtain ⟨n91, k89, i90, hm⟩ := ckR_e hm
      obtain ⟨h92, hm⟩ := ckI_e hm
      refine zx_bald C k89 i90 h92 dX12_walkAhead_22 ?_
      refine zx_bipush (v := 47) C dX12_walkAhead_23 (by decide) ?_
      refine zx_icmp_ne C 34 dX12_walkAhead_25 (by decide) (fun c93 => ?_) (fun c93 => ?_)
      · replace hm := in_e hm c93
        exact zx_lv [0, 1, 2, 3] [(0, .ref (x0)), (1, .int (x1)), (2, .ref (x2)), (3, .int (x3))] rfl (j_X12_walkAhead_34 C htab hin    hm)
      · replace hm := ip_e hm c93
        obtain ⟨y94, hy94⟩ : ∃ z : Int32, z = (x3) + Int32.ofInt (-1) := ⟨_, rfl⟩
        replace hm := ltb_e hm hy94
        refine zx_iinc C [(3, .int (y94)), (0, .ref (x0)), (1, .int (x1)), (2, .ref (x2))] dX12_walkAhead_28 3 rfl hy94.symm (by decide) rfl ?_
        refine zx_goto C 14 dX12_walkAhead_31 (by decide) ?_
        exact zx_lv [1, 2, 3, 0] [(0, .ref (x0)), (1, .int (x1)), (2, .ref (x2)), (3, .int (y94))] rfl (hrc14 _ _ _ _ _ hm)
set_option maxRecDepth 100000 in
set_option maxHeartbeats 1000000 in
theorem c_X12_walkAhead {l : Launch} {D : va_G} {aC : Nat → ClassId} {b0 fu : Nat} {a0 : Nat} {p0 : Int32} {σ τ : tM} {v : Int32} (hm : m_X12_walkAhead b0 fu a0 p0 σ = some (v, τ)) : tMt l D aC b0 yX12_walkAhead (Cond.code yX12_walkAhead cX12_walkAhead 7 (some .int)) 8 193 [.ref (a0), .int (p0)] σ (.inl (some (.int v))) τ := by
  unfold m_X12_walkAhead at hm
  obtain ⟨hg, hm⟩ := grw_e hm
  refine tMt_of (n := 0) rfl (Nat.le_of_ble_eq_true rfl) hg ?_
  intro p e s m below meth c C htab hin
  refine zx_lv [0, 1] [(0, .ref (a0)), (1, .int (p0))] rfl ?_
  refine zx_aload_n C dX12_walkAhead_0 0 rfl ?_
  obtain ⟨k1, i2, hm⟩ := ckO_e hm
  obtain ⟨a3, h4, hm⟩ := osm_e hm
  refine zx_get (j := 47) C tC_11 k1 i2 ⟨by decide, Or.inl W_7_26⟩ dX12_walkAhead_1 (.ref a3) (rf_s h4) ?_
  refine zx_iload_n C dX12_walkAhead_4 1 rfl ?_
  obtain ⟨n7, k5, i6, hm⟩ := ckR_e hm
  obtain ⟨h8, hm⟩ := ckI_e hm
  obtain ⟨a9, h10, hm⟩ := osm_e hm
  refine zx_aald5 C k5 i6 h8 dX12_walkAhead_5 (.ref a9) (rf_s h10) ?_
  refine zx_astore_n C [(2, .ref (a9)), (0, .ref (a0)), (1, .int (p0))] dX12_walkAhead_6 rfl (by decide) rfl ?_
  refine zx_aload_n C dX12_walkAhead_7 1 rfl ?_
  obtain ⟨a11, h12, hm⟩ := osm_e hm
  refine zx_get (j := 48) C tC_11 k1 i2 ⟨by decide, Or.inl W_7_27⟩ dX12_walkAhead_8 (.ref a11) (rf_s h12) ?_
  refine zx_iload_n C dX12_walkAhead_11 2 rfl ?_
  obtain ⟨n15, k13, i14, hm⟩ := ckR_e hm
  obtain ⟨h16, hm⟩ := ckI_e hm
  refine zx_iald C k13 i14 h16 dX12_walkAhead_12 ?_
  refine zx_topi (fun y17 hy17 => ?_)
  replace hm := ltb_e hm hy17
  refine zx_istore_n C [(3, .int (y17)), (2, .ref (a9)), (0, .ref (a0)), (1, .int (p0))] dX12_walkAhead_13 rfl (by decide) rfl ?_
  exact zx_lv [2, 3, 1, 0] [(0, .ref (a0)), (1, .int (p0)), (2, .ref (a9)), (3, .int (y17))] rfl (l_X12_walkAhead_14 C htab hin  _ _ _ _ _ _ hm)
