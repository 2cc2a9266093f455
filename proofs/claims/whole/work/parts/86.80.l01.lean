set_option maxRecDepth 100000 in
set_option maxHeartbeats 1000000 in
theorem j_L_law_2051 {p : Program} {l : Launch} {e : Env} {s : State} {m : MethodId} {args : Array Value} {below : List Frame} {meth : Method} {c : Code} {D : va_G} {aC : Nat → ClassId} {b0 fu : Nat} {σ0 τ : tM} {v : Int32} {b L : Nat} {xs : Nat → Int32} {rc23 : Nat → Nat → Nat → Int32 → tM → Option ((Int32) × tM)} (C : tCx p l s m args meth c yL_law.cls cL_law 8 (some .boolean) D aC b0 σ0) (htab : True) (hin : True) (hX : va_X b L xs s s.heap) (hbb : b < b0) (hrc23 : ∀ (x1 : Nat) (x2 : Nat) (x3 : Nat) (x4 : Int32) (ρ : tM), rc23 x1 x2 x3 x4 ρ = some (v, τ) → tX p l e s m args below meth c 8 14 271 D aC b0 σ0 (.inl (some (.int v))) τ 23 [(0, .ref (b)), (1, .ref (x1)), (2, .ref (x2)), (3, .ref (x3)), (4, .int (x4))] [] ρ) {x1 : Nat} {x2 : Nat} {x3 : Nat} {x4 : Int32} {σ : tM} (hm : J_L_law_2051 b0 fu L xs rc23 x1 x2 x3 x4 σ = some (v, τ)) : tX p l e s m args below meth c 8 14 271 D aC b0 σ0 (.inl (some (.int v))) τ 2051 [(0, .ref (b)), (1, .ref (x1)), (2, .ref (x2)), (3, .ref (x3)), (4, .int (x4))] [] σ := by
  unfold J_L_law_2051 at hm
  obtain ⟨y34, hy34⟩ : ∃ z : Int32, z = (x4) + Int32.ofInt 6 := ⟨_, rfl⟩
  replace hm := ltb_e hm hy34
  refine zx_iinc C [(4, .int (y34)), (0, .ref (b)), (1, .ref (x1)), (2, .ref (x2)), (3, .ref (x3))] dL_law_2051 4 rfl hy34.symm (by decide) rfl ?_
  refine zx_goto C 23 dL_law_2054 (by decide) ?_
  exact zx_lv [1, 2, 3, 4, 0] [(0, .ref (b)), (1, .ref (x1)), (2, .ref (x2)), (3, .ref (x3)), (4, .int (y34))] rfl (hrc23 _ _ _ _ _ hm)
set_option maxRecDepth 100000 in
set_option maxHeartbeats 1000000 in
theorem j_L_law_196 {p : Program} {l : Launch} {e : Env} {s : State} {m : MethodId} {args : Array Value} {below : List Frame} {meth : Method} {c : Code} {D : va_G} {aC : Nat → ClassId} {b0 fu : Nat} {σ0 τ : tM} {v : Int32} {b L : Nat} {xs : Nat → Int32} {rc23 : Nat → Nat → Nat → Int32 → tM → Option ((Int32) × tM)} (C : tCx p l s m args meth c yL_law.cls cL_law 8 (some .boolean) D aC b0 σ0) (htab : True) (hin : True) (hX : va_X b L xs s s.heap) (hbb : b < b0) (hrc23 : ∀ (x1 : Nat) (x2 : Nat) (x3 : Nat) (x4 : Int32) (ρ : tM), rc23 x1 x2 x3 x4 ρ = some (v, τ) → tX p l e s m args below meth c 8 14 271 D aC b0 σ0 (.inl (some (.int v))) τ 23 [(0, .ref (b)), (1, .ref (x1)), (2, .ref (x2)), (3, .ref (x3)), (4, .int (x4))] [] ρ) {x1 : Nat} {x2 : Nat} {x3 : Nat} {x4 : Int32} {σ : tM} (hm : J_L_law_196 b0 fu L xs rc23 x1 x2 x3 x4 σ = some (v, τ)) : tX p l e s m args below meth c 8 14 271 D aC b0 σ0 (.inl (some (.int v))) τ 196 [(0, .ref (b)), (1, .ref (x1)), (2, .ref (x2)), (3, .ref (x3)), (4, .int (x4))] [] σ := by
  unfold J_L_law_196 at hm
  refine zx_aload_n C dL_law_196 1 rfl ?_
  refine zx_aload_n C dL_law_197 0 rfl ?_
  refine zx_iload C dL_law_198 4 rfl ?_
  refine zx_iconst (v := 1) C dL_law_200 (by decide) ?_
  refine zx_iadd C dL_law_201 ?_
  obtain ⟨h19, hm⟩ := ckI_e hm
  refine zx_sld C hX hbb h19 dL_law_202 ?_
  refine zx_aload_n C dL_law_203 0 rfl ?_
  refine zx_iload C dL_law_204 4 rfl ?_
  refine zx_iconst (v := 2) C dL_law_206 (by decide) ?_
  refine zx_iadd C dL_law_207 ?_
  obtain ⟨h20, hm⟩ := ckI_e hm
  refine zx_sld C hX hbb h20 dL_law_208 ?_
  obtain ⟨k21, i22, hm⟩ := ckO_e hm
  obtain ⟨v23, ρ24, h25, hm⟩ := cll_e hm
  refine zx_callV (σ := σ) C [.int (xs (((x4) + (1)).toNatClampNeg)), .int (xs (((x4) + (2)).toNatClampNeg))] tC_10 k21 i22 Y_X10_format W_3_4 W_3_5 W_3_6 (c_X10_format h25) (by decide) (by decide) rfl (Nat.le_of_ble_eq_true rfl) dL_law_209 rfl ?_
  refine zx_aload_n C dL_law_212 2 rfl ?_
  refine zx_aload_n C dL_law_213 0 rfl ?_
  refine zx_iload C dL_law_214 4 rfl ?_
  refine zx_iconst (v := 1) C dL_law_216 (by decide) ?_
  refine zx_iadd C dL_law_217 ?_
  obtain ⟨h26, hm⟩ := ckI_e hm
  refine zx_sld C hX hbb h26 dL_law_218 ?_
  refine zx_aload_n C dL_law_219 0 rfl ?_
  refine zx_iload C dL_law_220 4 rfl ?_
  refine zx_iconst (v := 2) C dL_law_222 (by decide) ?_
  refine zx_iadd C dL_law_223 ?_
  obtain ⟨h27, hm⟩ := ckI_e hm
  refine zx_sld C hX hbb h27 dL_law_224 ?_
  obtain ⟨k28, i29, hm⟩ := ckO_e hm
  obtain ⟨v30, ρ31, h32, hm⟩ := cll_e hm
  refine zx_callV (σ := ρ24) C [.int (xs (((x4) + (1)).toNatClampNeg)), .int (xs (((x4) + (2)).toNatClampNeg))] tC_11 k28 i29 Y_X12_format W_7_160 W_6_206 W_6_207 (c_X12_format h32) (by decide) (by decide) rfl (Nat.le_of_ble_eq_true rfl) dL_law_225 rfl ?_
  refine zx_icmp_eq C 2051 dL_law_228 (by decide) (fun c33 => ?_) (fun c33 => ?_)
  · replace hm := ip_e hm c33
    exact zx_lv [0, 1, 2, 3, 4] [(0, .ref (b)), (1, .ref (x1)), (2, .ref (x2)), (3, .ref (x3)), (4, .int (x4))] rfl (j_L_law_2051 C htab hin hX hbb hrc23   hm)
  · replace hm := in_e hm c33
    refine zx_iconst (v := 0) C dL_law_231 (by decide) ?_
    obtain ⟨rfl, rfl⟩ := ret_e hm
    exact zx_zret C rfl (by decide) rfl rfl dL_law_232
set_option maxRecDepth 100000 in
set_option maxHeartbeats 1000000 in
theorem j_L_law_233 {p : Program} {l : Launch} {e : Env} {s : State} {m : MethodId} {args : Array Value} {below : List Frame} {meth : Method} {c : Code} {D : va_G} {aC : Nat → ClassId} {b0 fu : Nat} {σ0 τ : tM} {v : Int32} {b L : Nat} {xs : Nat → Int32} {rc23 : Nat → Nat → Nat → Int32 → tM → Option ((Int32) × tM)} (C : tCx p l s m args meth c yL_law.cls cL_law 8 (some .boolean) D aC b0 σ0) (htab : True) (hin : True) (hX : va_X b L xs s s.heap) (hbb : b < b0) (hrc23 : ∀ (x1 : Nat) (x2 : Nat) (x3 : Nat) (x4 : Int32) (ρ : tM), rc23 x1 x2 x3 x4 ρ = some (v, τ) → tX p l e s m args below meth c 8 14 271 D aC b0 σ0 (.inl (some (.int v))) τ 23 [(0, .ref (b)), (1, .ref (x1)), (2, .ref (x2)), (3, .ref (x3)), (4, .int (x4))] [] ρ) {x1 : Nat} {x2 : Nat} {x3 : Nat} {x4 : Int32} {σ : tM} (hm : J_L_law_233 b0 fu L xs rc23 x1 x2 x3 x4 σ = some (v, τ)) : tX p l e s m args below meth c 8 14 271 D aC b0 σ0 (.inl (some (.int v))) τ 233 [(0, .ref (b)), (1, .ref (x1)), (2, .ref (x2)), (3, .ref (x3)), (4, .int (x4))] [] σ := by
  unfold J_L_law_233 at hm
  refine zx_aload_n C dL_law_233 1 rfl ?_
  refine zx_aload_n C dL_law_234 0 rfl ?_
  refine zx_iload C dL_law_235 4 rfl ?_
  refine zx_iconst (v := 1) C dL_law_237 (by decide) ?_
  refine zx_iadd C dL_law_238 ?_
  obtain ⟨h35, hm⟩ := ckI_e hm
  refine zx_sld C hX hbb h35 dL_law_239 ?_
  refine zx_aload_n C dL_law_240 0 rfl ?_
  refine zx_iload C dL_law_241 4 rfl ?_
  refine zx_iconst (v := 2) C dL_law_243 (by decide) ?_
  refine zx_iadd C dL_law_244 ?_
  obtain ⟨h36, hm⟩ := ckI_e hm
  refine zx_sld C hX hbb h36 dL_law_245 ?_
  refine zx_aload_n C dL_law_246 0 rfl ?_
  refine zx_iload C dL_law_247 4 rfl ?_
  refine zx_iconst (v := 3) C dL_law_249 (by decide) ?_
  refine zx_iadd C dL_law_250 ?_
  obtain ⟨h37, hm⟩ := ckI_e hm
  refine zx_sld C hX hbb h37 dL_law_251 ?_
  refine zx_aload_n C dL_law_252 0 rfl ?_
  refine zx_iload C dL_law_253 4 rfl ?_
  refine zx_iconst (v := 4) C dL_law_255 (by decide) ?_
  refine zx_iadd C dL_law_256 ?_
  obtain ⟨h38, hm⟩ := ckI_e hm
  refine zx_sld C hX hbb h38 dL_law_257 ?_
  refine zx_aload_n C dL_law_258 0 rfl ?_
  refine zx_iload C dL_law_259 4 rfl ?_
  refine zx_iconst (v := 5) C dL_law_261 (by decide) ?_
  refine zx_iadd C dL_law_262 ?_
  obtain ⟨h39, hm⟩ := ckI_e hm
  refine zx_sld C hX hbb h39 dL_law_263 ?_
  obtain ⟨k40, i41, hm⟩ := ckO_e hm
  obtain ⟨v42, ρ43, h44, hm⟩ := cll_e hm
  refine zx_callV (σ := σ) C [.int (xs (((x4) + (1)).toNatClampNeg)), .int (xs (((x4) + (2)).toNatClampNeg)), .int (xs (((x4) + (3)).toNatClampNeg)), .int (xs (((x4) + (4)).toNatClampNeg)), .int (xs (((x4) + (5)).toNatClampNeg))] tC_10 k40 i41 Y_X10_feed W_3_8 W_3_9 W_3_10 (c_X10_feed h44) (by decide) (by decide) rfl (Nat.le_of_ble_eq_true rfl) dL_law_264 rfl ?_
  refine zx_aload_n C dL_law_267 2 rfl ?_
  refine zx_aload_n C dL_law_268 0 rfl ?_
  refine zx_iload C dL_law_269 4 rfl ?_
  refine zx_iconst (v := 1) C dL_law_271 (by decide) ?_
  refine zx_iadd C dL_law_272 ?_
  obtain ⟨h45, hm⟩ := ckI_e hm
  refine zx_sld C hX hbb h45 dL_law_273 ?_
  refine zx_aload_n C dL_law_274 0 rfl ?_
  refine zx_iload C dL_law_275 4 rfl ?_
  refine zx_iconst (v := 2) C dL_law_277 (by decide) ?_
  refine zx_iadd C dL_law_278 ?_
  obtain ⟨h46, hm⟩ := ckI_e hm
  refine zx_sld C hX hbb h46 dL_law_279 ?_
  refine zx_aload_n C dL_law_280 0 rfl ?_
  refine zx_iload C dL_law_281 4 rfl ?_
  refine zx_iconst (v := 3) C dL_law_283 (by decide) ?_
  refine zx_iadd C dL_law_284 ?_
  obtain ⟨h47, hm⟩ := ckI_e hm
  refine zx_sld C hX hbb h47 dL_law_285 ?_
  refine zx_aload_n C dL_law_286 0 rfl ?_
  refine zx_iload C dL_law_287 4 rfl ?_
  refine zx_iconst (v := 4) C dL_law_289 (by decide) ?_
  refine zx_iadd C dL_law_290 ?_
  obtain ⟨h48, hm⟩ := ckI_e hm
  refine zx_sld C hX hbb h48 dL_law_291 ?_
  refine zx_aload_n C dL_law_292 0 rfl ?_
  refine zx_iload C dL_law_293 4 rfl ?_
  refine zx_iconst (v := 5) C dL_law_295 (by decide) ?_
  refine zx_iadd C dL_law_296 ?_
  obtain ⟨h49, hm⟩ := ckI_e hm
  refine zx_sld C hX hbb h49 dL_law_297 ?_
  obtain ⟨k50, i51, hm⟩ := ckO_e hm
  obtain ⟨v52, ρ53, h54, hm⟩ := cll_e hm
  refine zx_callV (σ := ρ43) C [.int (xs (((x4) + (1)).toNatClampNeg)), .int (xs (((x4) + (2)).toNatClampNeg)), .int (xs (((x4) + (3)).toNatClampNeg)), .int (xs (((x4) + (4)).toNatClampNeg)), .int (xs (((x4) + (5)).toNatClampNeg))] tC_11 k50 i51 Y_X12_feed W_7_161 W_7_162 W_7_163 (c_X12_feed h54) (by decide) (by decide) rfl (Nat.le_of_ble_eq_true rfl) dL_law_298 rfl ?_
  refine zx_icmp_eq C 2051 dL_law_301 (by decide) (fun c55 => ?_) (fun c55 => ?_)
  · replace hm := ip_e hm c55
    exact zx_lv [0, 1, 2, 3, 4] [(0, .ref (b)), (1, .ref (x1)), (2, .ref (x2)), (3, .ref (x3)), (4, .int (x4))] rfl (j_L_law_2051 C htab hin hX hbb hrc23   hm)
  · replace hm := in_e hm c55
    refine zx_iconst (v := 0) C dL_law_304 (by decide) ?_
    obtain ⟨rfl, rfl⟩ := ret_e hm
    exact zx_zret C rfl (by decide) rfl rfl dL_law_305
set_option maxRecDepth 100000 in
set_option maxHeartbeats 1000000 in
theorem j_L_law_306 {p : Program} {l : Launch} {e : Env} {s : State} {m : MethodId} {args : Array Value} {below : List Frame} {meth : Method} {c : Code} {D : va_G} {aC : Nat → ClassId} {b0 fu : Nat} {σ0 τ : tM} {v : Int32} {b L : Nat} {xs : Nat → Int32} {rc23 : Nat → Nat → Nat → Int32 → tM → Option ((Int32) × tM)} (C : tCx p l s m args meth c yL_law.cls cL_law 8 (some .boolean) D aC b0 σ0) (htab : True) (hin : True) (hX : va_X b L xs s s.heap) (hbb : b < b0) (hrc23 : ∀ (x1 : Nat) (x2 : Nat) (x3 : Nat) (x4 : Int32) (ρ : tM), rc23 x1 x2 x3 x4 ρ = some (v, τ) → tX p l e s m args below meth c 8 14 271 D aC b0 σ0 (.inl (some (.int v))) τ 23 [(0, .ref (b)), (1, .ref (x1)), (2, .ref (x2)), (3, .ref (x3)), (4, .int (x4))] [] ρ) {x1 : Nat} {x2 : Nat} {x3 : Nat} {x4 : Int32} {σ : tM} (hm : J_L_law_306 b0 fu L xs rc23 x1 x2 x3 x4 σ = some (v, τ)) : tX p l e s m args below meth c 8 14 271 D aC b0 σ0 (.inl (some (.int v))) τ 306 [(0, .ref (b)), (1, .ref (x1)), (2, .ref (x2)), (3, .ref (x3)), (4, .int (x4))] [] σ := by
  unfold J_L_law_306 at hm
  refine zx_aload_n C dL_law_306 1 rfl ?_
  refine zx_aload_n C dL_law_307 0 rfl ?_
  refine zx_iload C dL_law_308 4 rfl ?_
  refine zx_iconst (v := 1) C dL_law_310 (by decide) ?_
  refine zx_iadd C dL_law_311 ?_
  obtain ⟨h56, hm⟩ := ckI_e hm
  refine zx_sld C hX hbb h56 dL_law_312 ?_
  refine zx_aload_n C dL_law_313 0 rfl ?_
  refine zx_iload C dL_law_314 4 rfl ?_
  refine zx_iconst (v := 2) C dL_law_316 (by decide) ?_
  refine zx_iadd C dL_law_317 ?_
  obtain ⟨h57, hm⟩ := ckI_e hm
  refine zx_sld C hX hbb h57 dL_law_318 ?_
  obtain ⟨k58, i59, hm⟩ := ckO_e hm
  obtain ⟨v60, ρ61, h62, hm⟩ := cll_e hm
  refine zx_callV (σ := σ) C [.int (xs (((x4) + (1)).toNatClampNeg)), .int (xs (((x4) + (2)).toNatClampNeg))] tC_10 k58 i59 Y_X10_path W_3_20 W_3_21 W_3_22 (c_X10_path h62) (by decide) (by decide) rfl (Nat.le_of_ble_eq_true rfl) dL_law_319 rfl ?_
  refine zx_aload_n C dL_law_322 2 rfl ?_
  refine zx_aload_n C dL_law_323 0 rfl ?_
  refine zx_iload C dL_law_324 4 rfl ?_
  refine zx_iconst (v := 1) C dL_law_326 (by decide) ?_
  refine zx_iadd C dL_law_327 ?_
  obtain ⟨h63, hm⟩ := ckI_e hm
  refine zx_sld C hX hbb h63 dL_law_328 ?_
  refine zx_aload_n C dL_law_329 0 rfl ?_
  refine zx_iload C dL_law_330 4 rfl ?_
  refine zx_iconst (v := 2) C dL_law_332 (by decide) ?_
  refine zx_iadd C dL_law_333 ?_
  obtain ⟨h64, hm⟩ := ckI_e hm
  refine zx_sld C hX hbb h64 dL_law_334 ?_
  obtain ⟨k65, i66, hm⟩ := ckO_e hm
  obtain ⟨v67, ρ68, h69, hm⟩ := cll_e hm
  refine zx_callV (σ := ρ61) C [.int (xs (((x4) + (1)).toNatClampNeg)), .int (xs (((x4) + (2)).toNatClampNeg))] tC_11 k65 i66 Y_X12_path W_7_165 W_7_166 W_7_167 (c_X12_path h69) (by decide) (by decide) rfl (Nat.le_of_ble_eq_true rfl) dL_law_335 rfl ?_
  refine zx_icmp_eq C 2051 dL_law_338 (by decide) (fun c70 => ?_) (fun c70 => ?_)
  · replace hm := ip_e hm c70
    exact zx_lv [0, 1, 2, 3, 4] [(0, .ref (b)), (1, .ref (x1)), (2, .ref (x2)), (3, .ref (x3)), (4, .int (x4))] rfl (j_L_law_2051 C htab hin hX hbb hrc23   hm)
  · replace hm := in_e hm c70
    refine zx_iconst (v := 0) C dL_law_341 (by decide) ?_
    obtain ⟨rfl, rfl⟩ := ret_e hm
    exact zx_zret C rfl (by decide) rfl rfl dL_law_342
set_option maxRecDepth 100000 in
set_option maxHeartbeats 1000000 in
theorem j_L_law_384 {p : Program} {l : Launch} {e : Env} {s : State} {m : MethodId} {args : Array Value} {below : List Frame} {meth : Method} {c : Code} {D : va_G} {aC : Nat → ClassId} {b0 fu : Nat} {σ0 τ : tM} {v : Int32} {b L : Nat} {xs : Nat → Int32} {rc23 : Nat → Nat → Nat → Int32 → tM → Option ((Int32) × tM)} (C : tCx p l s m args meth c yL_law.cls cL_law 8 (some .boolean) D aC b0 σ0) (htab : True) (hin : True) (hX : va_X b L xs s s.heap) (hbb : b < b0) (hrc23 : ∀ (x1 : Nat) (x2 : Nat) (x3 : Nat) (x4 : Int32) (ρ : tM), rc23 x1 x2 x3 x4 ρ = some (v, τ) → tX p l e s m args below meth c 8 14 271 D aC b0 σ0 (.inl (some (.int v))) τ 23 [(0, .ref (b)), (1, .ref (x1)), (2, .ref (x2)), (3, .ref (x3)), (4, .int (x4))] [] ρ) {x1 : Nat} {x2 : Nat} {x3 : Nat} {x4 : Int32} {σ : tM} (hm : J_L_law_384 b0 fu L xs rc23 x1 x2 x3 x4 σ = some (v, τ)) : tX p l e s m args below meth c 8 14 271 D aC b0 σ0 (.inl (some (.int v))) τ 384 [(0, .ref (b)), (1, .ref (x1)), (2, .ref (x2)), (3, .ref (x3)), (4, .int (x4))] [] σ := by
  unfold J_L_law_384 at hm
  refine zx_goto C 2051 dL_law_384 (by decide) ?_
  exact zx_lv [0, 1, 2, 3, 4] [(0, .ref (b)), (1, .ref (x1)), (2, .ref (x2)), (3, .ref (x3)), (4, .int (x4))] rfl (j_L_law_2051 C htab hin hX hbb hrc23   hm)
set_option maxRecDepth 100000 in
set_option maxHeartbeats 1000000 in
theorem j_L_law_343 {p : Program} {l : Launch} {e : Env} {s : State} {m : MethodId} {args : Array Value} {below : List Frame} {meth : Method} {c : Code} {D : va_G} {aC : Nat → ClassId} {b0 fu : Nat} {σ0 τ : tM} {v : Int32} {b L : Nat} {xs : Nat → Int32} {rc23 : Nat → Nat → Nat → Int32 → tM → Option ((Int32) × tM)} (C : tCx p l s m args meth c yL_law.cls cL_law 8 (some .boolean) D aC b0 σ0) (htab : True) (hin : True) (hX : va_X b L xs s s.heap) (hbb : b < b0) (hrc23 : ∀ (x1 : Nat) (x2 : Nat) (x3 : Nat) (x4 : Int32) (ρ : tM), rc23 x1 x2 x3 x4 ρ = some (v, τ) → tX p l e s m args below meth c 8 14 271 D aC b0 σ0 (.inl (some (.int v))) τ 23 [(0, .ref (b)), (1, .ref (x1)), (2, .ref (x2)), (3, .ref (x3)), (4, .int (x4))] [] ρ) {x1 : Nat} {x2 : Nat} {x3 : Nat} {x4 : Int32} {σ : tM} (hm : J_L_law_343 b0 fu L xs rc23 x1 x2 x3 x4 σ = some (v, τ)) : tX p l e s m args below meth c 8 14 271 D aC b0 σ0 (.inl (some (.int v))) τ 343 [(0, .ref (b)), (1, .ref (x1)), (2, .ref (x2)), (3, .ref (x3)), (4, .int (x4))] [] σ := by
  unfold J_L_law_343 at hm
  refine zx_aload_n C dL_law_343 1 rfl ?_
  refine zx_aload_n C dL_law_344 3 rfl ?_
  obtain ⟨v71, ρ72, h73, hm⟩ := cll_e hm
  refine zx_callSH (σ := σ) C [.ref (x1), .ref (x3)] Y_L_create W_3_100 W_3_101 (c_L_create h73) (by decide) (by decide) rfl (Nat.le_of_ble_eq_true rfl) dL_law_345 rfl ?_
  refine zx_istore C [(5, .int (v71)), (0, .ref (b)), (1, .ref (x1)), (2, .ref (x2)), (3, .ref (x3)), (4, .int (x4))] dL_law_348 (by decide) rfl ?_
  refine zx_aload_n C dL_law_350 3 rfl ?_
  obtain ⟨k74, i75, hm⟩ := ckO_e hm
  obtain ⟨v76, ρ77, h78, hm⟩ := cll_e hm
  refine zx_callVH (σ := ρ72) C [] tC_11 k74 i75 Y_X12_create W_7_170 W_7_171 W_7_172 (c_X12_create h78) (by decide) (by decide) rfl (Nat.le_of_ble_eq_true rfl) dL_law_351 rfl ?_
  refine zx_istore C [(6, .int (v76)), (5, .int (v71)), (0, .ref (b)), (1, .ref (x1)), (2, .ref (x2)), (3, .ref (x3)), (4, .int (x4))] dL_law_354 (by decide) rfl ?_
  refine zx_aload_n C dL_law_356 4 rfl ?_
  obtain ⟨k79, i80, hm⟩ := ckO_e hm
  obtain ⟨v81, ρ82, h83, hm⟩ := cll_e hm
  refine zx_callV (σ := ρ77) C [] tC_11 k79 i80 Y_X12_thrown W_6_190 W_6_191 W_6_192 (c_X12_thrown h83) (by decide) (by decide) rfl (Nat.le_of_ble_eq_true rfl) dL_law_357 rfl ?_
  refine zx_iload C dL_law_360 1 rfl ?_
  refine zx_icmp_eq C 367 dL_law_362 (by decide) (fun c84 => ?_) (fun c84 => ?_)
  · replace hm := ip_e hm c84
    refine zx_iload C dL_law_367 1 rfl ?_
    refine zx_if_ne C 384 dL_law_369 (by decide) (fun c85 => ?_) (fun c85 => ?_)
    · replace hm := in_e hm c85
      exact zx_lv [2, 3, 4, 5, 6] [(0, .ref (b)), (1, .ref (x1)), (2, .ref (x2)), (3, .ref (x3)), (4, .int (x4))] rfl (j_L_law_384 C htab hin hX hbb hrc23   hm)
    · replace hm := ip_e hm c85
      refine zx_aload_n C dL_law_372 5 rfl ?_
      refine zx_iconst (v := 0) C dL_law_373 (by decide) ?_
      obtain ⟨n88, k86, i87, hm⟩ := ckR_e hm
      obtain ⟨h89, hm⟩ := ckI_e hm
      refine zx_lald C k86 i87 h89 dL_law_374 ?_
      refine zx_iload C dL_law_375 0 rfl ?_
      refine zx_i2l C dL_law_377 ?_
      refine zx_lcmp C dL_law_378 ?_
      refine zx_if_eq C 384 dL_law_379 (by decide) (fun c90 => ?_) (fun c90 => ?_)
      · replace hm := ip_e hm c90
        exact zx_lv [2, 3, 4, 5, 6] [(0, .ref (b)), (1, .ref (x1)), (2, .ref (x2)), (3, .ref (x3)), (4, .int (x4))] rfl (j_L_law_384 C htab hin hX hbb hrc23   hm)
      · replace hm := in_e hm c90
        refine zx_iconst (v := 0) C dL_law_382 (by decide) ?_
        obtain ⟨rfl, rfl⟩ := ret_e hm
        exact zx_zret C rfl (by decide) rfl rfl dL_law_383
  · replace hm := in_e hm c84
    refine zx_iconst (v := 0) C dL_law_365 (by decide) ?_
    obtain ⟨rfl, rfl⟩ := ret_e hm
    exact zx_zret C rfl (by decide) rfl rfl dL_law_366
set_option maxRecDepth 100000 in
set_option maxHeartbeats 1000000 in
theorem j_L_law_428 {p : Program} {l : Launch} {e : Env} {s : State} {m : MethodId} {args : Array Value} {below : List Frame} {meth : Method} {c : Code} {D : va_G} {aC : Nat → ClassId} {b0 fu : Nat} {σ0 τ : tM} {v : Int32} {b L : Nat} {xs : Nat → Int32} {rc23 : Nat → Nat → Nat → Int32 → tM → Option ((Int32) × tM)} (C : tCx p l s m args meth c yL_law.cls cL_law 8 (some .boolean) D aC b0 σ0) (htab : True) (hin : True) (hX : va_X b L xs s s.heap) (hbb : b < b0) (hrc23 : ∀ (x1 : Nat) (x2 : Nat) (x3 : Nat) (x4 : Int32) (ρ : tM), rc23 x1 x2 x3 x4 ρ = some (v, τ) → tX p l e s m args below meth c 8 14 271 D aC b0 σ0 (.inl (some (.int v))) τ 23 [(0, .ref (b)), (1, .ref (x1)), (2, .ref (x2)), (3, .ref (x3)), (4, .int (x4))] [] ρ) {x1 : Nat} {x2 : Nat} {x3 : Nat} {x4 : Int32} {σ : tM} (hm : J_L_law_428 b0 fu L xs rc23 x1 x2 x3 x4 σ = some (v, τ)) : tX p l e s m args below meth c 8 14 271 D aC b0 σ0 (.inl (some (.int v))) τ 428 [(0, .ref (b)), (1, .ref (x1)), (2, .ref (x2)), (3, .ref (x3)), (4, .int (x4))] [] σ := by
  unfold J_L_law_428 at hm
  refine zx_goto C 2051 dL_law_428 (by decide) ?_
  exact zx_lv [0, 1, 2, 3, 4] [(0, .ref (b)), (1, .ref (x1)), (2, .ref (x2)), (3, .ref (x3)), (4, .int (x4))] rfl (j_L_law_2051 C htab hin hX hbb hrc23   hm)
set_option maxRecDepth 100000 in
set_option maxHeartbeats 1000000 in
theorem j_L_law_387 {p : Program} {l : Launch} {e : Env} {s : State} {m : MethodId} {args : Array Value} {below : List Frame} {meth : Method} {c : Code} {D : va_G} {aC : Nat → ClassId} {b0 fu : Nat} {σ0 τ : tM} {v : Int32} {b L : Nat} {xs : Nat → Int32} {rc23 : Nat → Nat → Nat → Int32 → tM → Option ((Int32) × tM)} (C : tCx p l s m args meth c yL_law.cls cL_law 8 (some .boolean) D aC b0 σ0) (htab : True) (hin : True) (hX : va_X b L xs s s.heap) (hbb : b < b0) (hrc23 : ∀ (x1 : Nat) (x2 : Nat) (x3 : Nat) (x4 : Int32) (ρ : tM), rc23 x1 x2 x3 x4 ρ = some (v, τ) → tX p l e s m args below meth c 8 14 271 D aC b0 σ0 (.inl (some (.int v))) τ 23 [(0, .ref (b)), (1, .ref (x1)), (2, .ref (x2)), (3, .ref (x3)), (4, .int (x4))] [] ρ) {x1 : Nat} {x2 : Nat} {x3 : Nat} {x4 : Int32} {σ : tM} (hm : J_L_law_387 b0 fu L xs rc23 x1 x2 x3 x4 σ = some (v, τ)) : tX p l e s m args below meth c 8 14 271 D aC b0 σ0 (.inl (some (.int v))) τ 387 [(0, .ref (b)), (1, .ref (x1)), (2, .ref (x2)), (3, .ref (x3)), (4, .int (x4))] [] σ := by
  unfold J_L_law_387 at hm
  refine zx_aload_n C dL_law_387 1 rfl ?_
  refine zx_aload_n C dL_law_388 3 rfl ?_
  obtain ⟨v91, ρ92, h93, hm⟩ := cll_e hm
  refine zx_callSH (σ := σ) C [.ref (x1), .ref (x3)] Y_L_mkdir W_4_229 W_4_230 (c_L_mkdir h93) (by decide) (by decide) rfl (Nat.le_of_ble_eq_true rfl) dL_law_389 rfl ?_
  refine zx_istore C [(5, .int (v91)), (0, .ref (b)), (1, .ref (x1)), (2, .ref (x2)), (3, .ref (x3)), (4, .int (x4))] dL_law_392 (by decide) rfl ?_
  refine zx_aload_n C dL_law_394 3 rfl ?_
  obtain ⟨k94, i95, hm⟩ := ckO_e hm
  obtain ⟨v96, ρ97, h98, hm⟩ := cll_e hm
  refine zx_callVH (σ := ρ92) C [] tC_11 k94 i95 Y_X12_mkdir W_8_139 W_8_140 W_8_141 (c_X12_mkdir h98) (by decide) (by decide) rfl (Nat.le_of_ble_eq_true rfl) dL_law_395 rfl ?_
  refine zx_istore C [(6, .int (v96)), (5, .int (v91)), (0, .ref (b)), (1, .ref (x1)), (2, .ref (x2)), (3, .ref (x3)), (4, .int (x4))] dL_law_398 (by decide) rfl ?_
  refine zx_aload_n C dL_law_400 4 rfl ?_
  obtain ⟨k99, i100, hm⟩ := ckO_e hm
  obtain ⟨v101, ρ102, h103, hm⟩ := cll_e hm
  refine zx_callV (σ := ρ97) C [] tC_11 k99 i100 Y_X12_thrown W_6_190 W_6_191 W_6_192 (c_X12_thrown h103) (by decide) (by decide) rfl (Nat.le_of_ble_eq_true rfl) dL_law_401 rfl ?_
  refine zx_iload C dL_law_404 1 rfl ?_
  refine zx_icmp_eq C 411 dL_law_406 (by decide) (fun c104 => ?_) (fun c104 => ?_)
  · replace hm := ip_e hm c104
    refine zx_iload C dL_law_411 1 rfl ?_
    refine zx_if_ne C 428 dL_law_413 (by decide) (fun c105 => ?_) (fun c105 => ?_)
    · replace hm := in_e hm c105
      exact zx_lv [2, 3, 4, 5, 6] [(0, .ref (b)), (1, .ref (x1)), (2, .ref (x2)), (3, .ref (x3)), (4, .int (x4))] rfl (j_L_law_428 C htab hin hX hbb hrc23   hm)
    · replace hm := ip_e hm c105
      refine zx_aload_n C dL_law_416 5 rfl ?_
      refine zx_iconst (v := 0) C dL_law_417 (by decide) ?_
      obtain ⟨n108, k106, i107, hm⟩ := ckR_e hm
      obtain ⟨h109, hm⟩ := ckI_e hm
      refine zx_lald C k106 i107 h109 dL_law_418 ?_
      refine zx_iload C dL_law_419 0 rfl ?_
      refine zx_i2l C dL_law_421 ?_
      refine zx_lcmp C dL_law_422 ?_
      refine zx_if_eq C 428 dL_law_423 (by decide) (fun c110 => ?_) (fun c110 => ?_)
      · replace hm := ip_e hm c110
        exact zx_lv [2, 3, 4, 5, 6] [(0, .ref (b)), (1, .ref (x1)), (2, .ref (x2)), (3, .ref (x3)), (4, .int (x4))] rfl (j_L_law_428 C htab hin hX hbb hrc23   hm)
      · replace hm := in_e hm c110
        refine zx_iconst (v := 0) C dL_law_426 (by decide) ?_
        obtain ⟨rfl, rfl⟩ := ret_e hm
        exact zx_zret C rfl (by decide) rfl rfl dL_law_427
  · replace hm := in_e hm c104
    refine zx_iconst (v := 0) C dL_law_409 (by decide) ?_
    obtain ⟨rfl, rfl⟩ := ret_e hm
    exact zx_zret C rfl (by decide) rfl rfl dL_law_410
set_option maxRecDepth 100000 in
set_option maxHeartbeats 1000000 in
theorem j_L_law_472 {p : Program} {l : Launch} {e : Env} {s : State} {m : MethodId} {args : Array Value} {below : List Frame} {meth : Method} {c : Code} {D : va_G} {aC : Nat → ClassId} {b0 fu : Nat} {σ0 τ : tM} {v : Int32} {b L : Nat} {xs : Nat → Int32} {rc23 : Nat → Nat → Nat → Int32 → tM → Option ((Int32) × tM)} (C : tCx p l s m args meth c yL_law.cls cL_law 8 (some .boolean) D aC b0 σ0) (htab : True) (hin : True) (hX : va_X b L xs s s.heap) (hbb : b < b0) (hrc23 : ∀ (x1 : Nat) (x2 : Nat) (x3 : Nat) (x4 : Int32) (ρ : tM), rc23 x1 x2 x3 x4 ρ = some (v, τ) → tX p l e s m args below meth c 8 14 271 D aC b0 σ0 (.inl (some (.int v))) τ 23 [(0, .ref (b)), (1, .ref (x1)), (2, .ref (x2)), (3, .ref (x3)), (4, .int (x4))] [] ρ) {x1 : Nat} {x2 : Nat} {x3 : Nat} {x4 : Int32} {σ : tM} (hm : J_L_law_472 b0 fu L xs rc23 x1 x2 x3 x4 σ = some (v, τ)) : tX p l e s m args below meth c 8 14 271 D aC b0 σ0 (.inl (some (.int v))) τ 472 [(0, .ref (b)), (1, .ref (x1)), (2, .ref (x2)), (3, .ref (x3)), (4, .int (x4))] [] σ := by
  unfold J_L_law_472 at hm
  refine zx_goto C 2051 dL_law_472 (by decide) ?_
  exact zx_lv [0, 1, 2, 3, 4] [(0, .ref (b)), (1, .ref (x1)), (2, .ref (x2)), (3, .ref (x3)), (4, .int (x4))] rfl (j_L_law_2051 C htab hin hX hbb hrc23   hm)
set_option maxRecDepth 100000 in
set_option maxHeartbeats 1000000 in
theorem j_L_law_431 {p : Program} {l : Launch} {e : Env} {s : State} {m : MethodId} {args : Array Value} {below : List Frame} {meth : Method} {c : Code} {D : va_G} {aC : Nat → ClassId} {b0 fu : Nat} {σ0 τ : tM} {v : Int32} {b L : Nat} {xs : Nat → Int32} {rc23 : Nat → Nat → Nat → Int32 → tM → Option ((Int32) × tM)} (C : tCx p l s m args meth c yL_law.cls cL_law 8 (some .boolean) D aC b0 σ0) (htab : True) (hin : True) (hX : va_X b L xs s s.heap) (hbb : b < b0) (hrc23 : ∀ (x1 : Nat) (x2 : Nat) (x3 : Nat) (x4 : Int32) (ρ : tM), rc23 x1 x2 x3 x4 ρ = some (v, τ) → tX p l e s m args below meth c 8 14 271 D aC b0 σ0 (.inl (some (.int v))) τ 23 [(0, .ref (b)), (1, .ref (x1)), (2, .ref (x2)), (3, .ref (x3)), (4, .int (x4))] [] ρ) {x1 : Nat} {x2 : Nat} {x3 : Nat} {x4 : Int32} {σ : tM} (hm : J_L_law_431 b0 fu L xs rc23 x1 x2 x3 x4 σ = some (v, τ)) : tX p l e s m args below meth c 8 14 271 D aC b0 σ0 (.inl (some (.int v))) τ 431 [(0, .ref (b)), (1, .ref (x1)), (2, .ref (x2)), (3, .ref (x3)), (4, .int (x4))] [] σ := by
  unfold J_L_law_431 at hm
  refine zx_aload_n C dL_law_431 1 rfl ?_
  refine zx_aload_n C dL_law_432 3 rfl ?_
  obtain ⟨v111, ρ112, h113, hm⟩ := cll_e hm
  refine zx_callSH (σ := σ) C [.ref (x1), .ref (x3)] Y_L_symlink W_4_236 W_4_237 (c_L_symlink h113) (by decide) (by decide) rfl (Nat.le_of_ble_eq_true rfl) dL_law_433 rfl ?_
  refine zx_istore C [(5, .int (v111)), (0, .ref (b)), (1, .ref (x1)), (2, .ref (x2)), (3, .ref (x3)), (4, .int (x4))] dL_law_436 (by decide) rfl ?_
  refine zx_aload_n C dL_law_438 3 rfl ?_
  obtain ⟨k114, i115, hm⟩ := ckO_e hm
  obtain ⟨v116, ρ117, h118, hm⟩ := cll_e hm
  refine zx_callVH (σ := ρ112) C [] tC_11 k114 i115 Y_X12_symlink W_8_143 W_8_144 W_8_145 (c_X12_symlink h118) (by decide) (by decide) rfl (Nat.le_of_ble_eq_true rfl) dL_law_439 rfl ?_
  refine zx_istore C [(6, .int (v116)), (5, .int (v111)), (0, .ref (b)), (1, .ref (x1)), (2, .ref (x2)), (3, .ref (x3)), (4, .int (x4))] dL_law_442 (by decide) rfl ?_
  refine zx_aload_n C dL_law_444 4 rfl ?_
  obtain ⟨k119, i120, hm⟩ := ckO_e hm
  obtain ⟨v121, ρ122, h123, hm⟩ := cll_e hm
  refine zx_callV (σ := ρ117) C [] tC_11 k119 i120 Y_X12_thrown W_6_190 W_6_191 W_6_192 (c_X12_thrown h123) (by decide) (by decide) rfl (Nat.le_of_ble_eq_true rfl) dL_law_445 rfl ?_
  refine zx_iload C dL_law_448 1 rfl ?_
  refine zx_icmp_eq C 455 dL_law_450 (by decide) (fun c124 => ?_) (fun c124 => ?_)
  · replace hm := ip_e hm c124
    refine zx_iload C dL_law_455 1 rfl ?_
    refine zx_if_ne C 472 dL_law_457 (by decide) (fun c125 => ?_) (fun c125 => ?_)
    · replace hm := in_e hm c125
      exact zx_lv [2, 3, 4, 5, 6] [(0, .ref (b)), (1, .ref (x1)), (2, .ref (x2)), (3, .ref (x3)), (4, .int (x4))] rfl (j_L_law_472 C htab hin hX hbb hrc23   hm)
    · replace hm := ip_e hm c125
      refine zx_aload_n C dL_law_460 5 rfl ?_
      refine zx_iconst (v := 0) C dL_law_461 (by decide) ?_
      obtain ⟨n128, k126, i127, hm⟩ := ckR_e hm
      obtain ⟨h129, hm⟩ := ckI_e hm
      refine zx_lald C k126 i127 h129 dL_law_462 ?_
      refine zx_iload C dL_law_463 0 rfl ?_
      refine zx_i2l C dL_law_465 ?_
      refine zx_lcmp C dL_law_466 ?_
      refine zx_if_eq C 472 dL_law_467 (by decide) (fun c130 => ?_) (fun c130 => ?_)
      · replace hm := ip_e hm c130
        exact zx_lv [2, 3, 4, 5, 6] [(0, .ref (b)), (1, .ref (x1)), (2, .ref (x2)), (3, .ref (x3)), (4, .int (x4))] rfl (j_L_law_472 C htab hin hX hbb hrc23   hm)
      · replace hm := in_e hm c130
        refine zx_iconst (v := 0) C dL_law_470 (by decide) ?_
        obtain ⟨rfl, rfl⟩ := ret_e hm
        exact zx_zret C rfl (by decide) rfl rfl dL_law_471
  · replace hm := in_e hm c124
    refine zx_iconst (v := 0) C dL_law_453 (by decide) ?_
    obtain ⟨rfl, rfl⟩ := ret_e hm
    exact zx_zret C rfl (by decide) rfl rfl dL_law_454
set_option maxRecDepth 100000 in
set_option maxHeartbeats 1000000 in
theorem j_L_law_516 {p : Program} {l : Launch} {e : Env} {s : State} {m : MethodId} {args : Array Value} {below : List Frame} {meth : Method} {c : Code} {D : va_G} {aC : Nat → ClassId} {b0 fu : Nat} {σ0 τ : tM} {v : Int32} {b L : Nat} {xs : Nat → Int32} {rc23 : Nat → Nat → Nat → Int32 → tM → Option ((Int32) × tM)} (C : tCx p l s m args meth c yL_law.cls cL_law 8 (some .boolean) D aC b0 σ0) (htab : True) (hin : True) (hX : va_X b L xs s s.heap) (hbb : b < b0) (hrc23 : ∀ (x1 : Nat) (x2 : Nat) (x3 : Nat) (x4 : Int32) (ρ : tM), rc23 x1 x2 x3 x4 ρ = some (v, τ) → tX p l e s m args below meth c 8 14 271 D aC b0 σ0 (.inl (some (.int v))) τ 23 [(0, .ref (b)), (1, .ref (x1)), (2, .ref (x2)), (3, .ref (x3)), (4, .int (x4))] [] ρ) {x1 : Nat} {x2 : Nat} {x3 : Nat} {x4 : Int32} {σ : tM} (hm : J_L_law_516 b0 fu L xs rc23 x1 x2 x3 x4 σ = some (v, τ)) : tX p l e s m args below meth c 8 14 271 D aC b0 σ0 (.inl (some (.int v))) τ 516 [(0, .ref (b)), (1, .ref (x1)), (2, .ref (x2)), (3, .ref (x3)), (4, .int (x4))] [] σ := by
  unfold J_L_law_516 at hm
  refine zx_goto C 2051 dL_law_516 (by decide) ?_
  exact zx_lv [0, 1, 2, 3, 4] [(0, .ref (b)), (1, .ref (x1)), (2, .ref (x2)), (3, .ref (x3)), (4, .int (x4))] rfl (j_L_law_2051 C htab hin hX hbb hrc23   hm)
set_option maxRecDepth 100000 in
set_option maxHeartbeats 1000000 in
theorem j_L_law_475 {p : Program} {l : Launch} {e : Env} {s : State} {m : MethodId} {args : Array Value} {below : List Frame} {meth : Method} {c : Code} {D : va_G} {aC : Nat → ClassId} {b0 fu : Nat} {σ0 τ : tM} {v : Int32} {b L : Nat} {xs : Nat → Int32} {rc23 : Nat → Nat → Nat → Int32 → tM → Option ((Int32) × tM)} (C : tCx p l s m args meth c yL_law.cls cL_law 8 (some .boolean) D aC b0 σ0) (htab : True) (hin : True) (hX : va_X b L xs s s.heap) (hbb : b < b0) (hrc23 : ∀ (x1 : Nat) (x2 : Nat) (x3 : Nat) (x4 : Int32) (ρ : tM), rc23 x1 x2 x3 x4 ρ = some (v, τ) → tX p l e s m args below meth c 8 14 271 D aC b0 σ0 (.inl (some (.int v))) τ 23 [(0, .ref (b)), (1, .ref (x1)), (2, .ref (x2)), (3, .ref (x3)), (4, .int (x4))] [] ρ) {x1 : Nat} {x2 : Nat} {x3 : Nat} {x4 : Int32} {σ : tM} (hm : J_L_law_475 b0 fu L xs rc23 x1 x2 x3 x4 σ = some (v, τ)) : tX p l e s m args below meth c 8 14 271 D aC b0 σ0 (.inl (some (.int v))) τ 475 [(0, .ref (b)), (1, .ref (x1)), (2, .ref (x2)), (3, .ref (x3)), (4, .int (x4))] [] σ := by
  unfold J_L_law_475 at hm
  refine zx_aload_n C dL_law_475 1 rfl ?_
  refine zx_aload_n C dL_law_476 3 rfl ?_
  obtain ⟨v131, ρ132, h133, hm⟩ := cll_e hm
  refine zx_callSH (σ := σ) C [.ref (x1), .ref (x3)] Y_L_link W_5_3 W_5_4 (c_L_link h133) (by decide) (by decide) rfl (Nat.le_of_ble_eq_true rfl) dL_law_477 rfl ?_
  refine zx_istore C [(5, .int (v131)), (0, .ref (b)), (1, .ref (x1)), (2, .ref (x2)), (3, .ref (x3)), (4, .int (x4))] dL_law_480 (by decide) rfl ?_
  refine zx_aload_n C dL_law_482 3 rfl ?_
  obtain ⟨k134, i135, hm⟩ := ckO_e hm
  obtain ⟨v136, ρ137, h138, hm⟩ := cll_e hm
  refine zx_callVH (σ := ρ132) C [] tC_11 k134 i135 Y_X12_link W_8_147 W_8_148 W_8_149 (c_X12_link h138) (by decide) (by decide) rfl (Nat.le_of_ble_eq_true rfl) dL_law_483 rfl ?_
  refine zx_istore C [(6, .int (v136)), (5, .int (v131)), (0, .ref (b)), (1, .ref (x1)), (2, .ref (x2)), (3, .ref (x3)), (4, .int (x4))] dL_law_486 (by decide) rfl ?_
  refine zx_aload_n C dL_law_488 4 rfl ?_
  obtain ⟨k139, i140, hm⟩ := ckO_e hm
  obtain ⟨v141, ρ142, h143, hm⟩ := cll_e hm
  refine zx_callV (σ := ρ137) C [] tC_11 k139 i140 Y_X12_thrown W_6_190 W_6_191 W_6_192 (c_X12_thrown h143) (by decide) (by decide) rfl (Nat.le_of_ble_eq_true rfl) dL_law_489 rfl ?_
  refine zx_iload C dL_law_492 1 rfl ?_
  refine zx_icmp_eq C 499 dL_law_494 (by decide) (fun c144 => ?_) (fun c144 => ?_)
  · replace hm := ip_e hm c144
    refine zx_iload C dL_law_499 1 rfl ?_
    refine zx_if_ne C 516 dL_law_501 (by decide) (fun c145 => ?_) (fun c145 => ?_)
    · replace hm := in_e hm c145
      exact zx_lv [2, 3, 4, 5, 6] [(0, .ref (b)), (1, .ref (x1)), (2, .ref (x2)), (3, .ref (x3)), (4, .int (x4))] rfl (j_L_law_516 C htab hin hX hbb hrc23   hm)
    · replace hm := ip_e hm c145
      refine zx_aload_n C dL_law_504 5 rfl ?_
      refine zx_iconst (v := 0) C dL_law_505 (by decide) ?_
      obtain ⟨n148, k146, i147, hm⟩ := ckR_e hm
      obtain ⟨h149, hm⟩ := ckI_e hm
      refine zx_lald C k146 i147 h149 dL_law_506 ?_
      refine zx_iload C dL_law_507 0 rfl ?_
      refine zx_i2l C dL_law_509 ?_
      refine zx_lcmp C dL_law_510 ?_
      refine zx_if_eq C 516 dL_law_511 (by decide) (fun c150 => ?_) (fun c150 => ?_)
      · replace hm := ip_e hm c150
        exact zx_lv [2, 3, 4, 5, 6] [(0, .ref (b)), (1, .ref (x1)), (2, .ref (x2)), (3, .ref (x3)), (4, .int (x4))] rfl (j_L_law_516 C htab hin hX hbb hrc23   hm)
      · replace hm := in_e hm c150
        refine zx_iconst (v := 0) C dL_law_514 (by decide) ?_
        obtain ⟨rfl, rfl⟩ := ret_e hm
        exact zx_zret C rfl (by decide) rfl rfl dL_law_515
  · replace hm := in_e hm c144
    refine zx_iconst (v := 0) C dL_law_497 (by decide) ?_
    obtain ⟨rfl, rfl⟩ := ret_e hm
    exact zx_zret C rfl (by decide) rfl rfl dL_law_498
set_option maxRecDepth 100000 in
set_option maxHeartbeats 1000000 in
theorem j_L_law_560 {p : Program} {l : Launch} {e : Env} {s : State} {m : MethodId} {args : Array Value} {below : List Frame} {meth : Method} {c : Code} {D : va_G} {aC : Nat → ClassId} {b0 fu : Nat} {σ0 τ : tM} {v : Int32} {b L : Nat} {xs : Nat → Int32} {rc23 : Nat → Nat → Nat → Int32 → tM → Option ((Int32) × tM)} (C : tCx p l s m args meth c yL_law.cls cL_law 8 (some .boolean) D aC b0 σ0) (htab : True) (hin : True) (hX : va_X b L xs s s.heap) (hbb : b < b0) (hrc23 : ∀ (x1 : Nat) (x2 : Nat) (x3 : Nat) (x4 : Int32) (ρ : tM), rc23 x1 x2 x3 x4 ρ = some (v, τ) → tX p l e s m args below meth c 8 14 271 D aC b0 σ0 (.inl (some (.int v))) τ 23 [(0, .ref (b)), (1, .ref (x1)), (2, .ref (x2)), (3, .ref (x3)), (4, .int (x4))] [] ρ) {x1 : Nat} {x2 : Nat} {x3 : Nat} {x4 : Int32} {σ : tM} (hm : J_L_law_560 b0 fu L xs rc23 x1 x2 x3 x4 σ = some (v, τ)) : tX p l e s m args below meth c 8 14 271 D aC b0 σ0 (.inl (some (.int v))) τ 560 [(0, .ref (b)), (1, .ref (x1)), (2, .ref (x2)), (3, .ref (x3)), (4, .int (x4))] [] σ := by
  unfold J_L_law_560 at hm
  refine zx_goto C 2051 dL_law_560 (by decide) ?_
  exact zx_lv [0, 1, 2, 3, 4] [(0, .ref (b)), (1, .ref (x1)), (2, .ref (x2)), (3, .ref (x3)), (4, .int (x4))] rfl (j_L_law_2051 C htab hin hX hbb hrc23   hm)
set_option maxRecDepth 100000 in
set_option maxHeartbeats 1000000 in
theorem j_L_law_519 {p : Program} {l : Launch} {e : Env} {s : State} {m : MethodId} {args : Array Value} {below : List Frame} {meth : Method} {c : Code} {D : va_G} {aC : Nat → ClassId} {b0 fu : Nat} {σ0 τ : tM} {v : Int32} {b L : Nat} {xs : Nat → Int32} {rc23 : Nat → Nat → Nat → Int32 → tM → Option ((Int32) × tM)} (C : tCx p l s m args meth c yL_law.cls cL_law 8 (some .boolean) D aC b0 σ0) (htab : True) (hin : True) (hX : va_X b L xs s s.heap) (hbb : b < b0) (hrc23 : ∀ (x1 : Nat) (x2 : Nat) (x3 : Nat) (x4 : Int32) (ρ : tM), rc23 x1 x2 x3 x4 ρ = some (v, τ) → tX p l e s m args below meth c 8 14 271 D aC b0 σ0 (.inl (some (.int v))) τ 23 [(0, .ref (b)), (1, .ref (x1)), (2, .ref (x2)), (3, .ref (x3)), (4, .int (x4))] [] ρ) {x1 : Nat} {x2 : Nat} {x3 : Nat} {x4 : Int32} {σ : tM} (hm : J_L_law_519 b0 fu L xs rc23 x1 x2 x3 x4 σ = some (v, τ)) : tX p l e s m args below meth c 8 14 271 D aC b0 σ0 (.inl (some (.int v))) τ 519 [(0, .ref (b)), (1, .ref (x1)), (2, .ref (x2)), (3, .ref (x3)), (4, .int (x4))] [] σ := by
  unfold J_L_law_519 at hm
  refine zx_aload_n C dL_law_519 1 rfl ?_
  refine zx_aload_n C dL_law_520 3 rfl ?_
  obtain ⟨v151, ρ152, h153, hm⟩ := cll_e hm
  refine zx_callSH (σ := σ) C [.ref (x1), .ref (x3)] Y_L_unlink W_5_21 W_5_22 (c_L_unlink h153) (by decide) (by decide) rfl (Nat.le_of_ble_eq_true rfl) dL_law_521 rfl ?_
  refine zx_istore C [(5, .int (v151)), (0, .ref (b)), (1, .ref (x1)), (2, .ref (x2)), (3, .ref (x3)), (4, .int (x4))] dL_law_524 (by decide) rfl ?_
  refine zx_aload_n C dL_law_526 3 rfl ?_
  obtain ⟨k154, i155, hm⟩ := ckO_e hm
  obtain ⟨v156, ρ157, h158, hm⟩ := cll_e hm
  refine zx_callVH (σ := ρ152) C [] tC_11 k154 i155 Y_X12_unlink W_8_155 W_8_156 W_8_157 (c_X12_unlink h158) (by decide) (by decide) rfl (Nat.le_of_ble_eq_true rfl) dL_law_527 rfl ?_
  refine zx_istore C [(6, .int (v156)), (5, .int (v151)), (0, .ref (b)), (1, .ref (x1)), (2, .ref (x2)), (3, .ref (x3)), (4, .int (x4))] dL_law_530 (by decide) rfl ?_
  refine zx_aload_n C dL_law_532 4 rfl ?_
  obtain ⟨k159, i160, hm⟩ := ckO_e hm
  obtain ⟨v161, ρ162, h163, hm⟩ := cll_e hm
  refine zx_callV (σ := ρ157) C [] tC_11 k159 i160 Y_X12_thrown W_6_190 W_6_191 W_6_192 (c_X12_thrown h163) (by decide) (by decide) rfl (Nat.le_of_ble_eq_true rfl) dL_law_533 rfl ?_
  refine zx_iload C dL_law_536 1 rfl ?_
  refine zx_icmp_eq C 543 dL_law_538 (by decide) (fun c164 => ?_) (fun c164 => ?_)
  · replace hm := ip_e hm c164
    refine zx_iload C dL_law_543 1 rfl ?_
    refine zx_if_ne C 560 dL_law_545 (by decide) (fun c165 => ?_) (fun c165 => ?_)
    · replace hm := in_e hm c165
      exact zx_lv [2, 3, 4, 5, 6] [(0, .ref (b)), (1, .ref (x1)), (2, .ref (x2)), (3, .ref (x3)), (4, .int (x4))] rfl (j_L_law_560 C htab hin hX hbb hrc23   hm)
    · replace hm := ip_e hm c165
      refine zx_aload_n C dL_law_548 5 rfl ?_
      refine zx_iconst (v := 0) C dL_law_549 (by decide) ?_
      obtain ⟨n168, k166, i167, hm⟩ := ckR_e hm
      obtain ⟨h169, hm⟩ := ckI_e hm
      refine zx_lald C k166 i167 h169 dL_law_550 ?_
      refine zx_iload C dL_law_551 0 rfl ?_
      refine zx_i2l C dL_law_553 ?_
      refine zx_lcmp C dL_law_554 ?_
      refine zx_if_eq C 560 dL_law_555 (by decide) (fun c170 => ?_) (fun c170 => ?_)
      · replace hm := ip_e hm c170
        exact zx_lv [2, 3, 4, 5, 6] [(0, .ref (b)), (1, .ref (x1)), (2, .ref (x2)), (3, .ref (x3)), (4, .int (x4))] rfl (j_L_law_560 C htab hin hX hbb hrc23   hm)
      · replace hm := in_e hm c170
        refine zx_iconst (v := 0) C dL_law_558 (by decide) ?_
        obtain ⟨rfl, rfl⟩ := ret_e hm
        exact zx_zret C rfl (by decide) rfl rfl dL_law_559
  · replace hm := in_e hm c164
    refine zx_iconst (v := 0) C dL_law_541 (by decide) ?_
    obtain ⟨rfl, rfl⟩ := ret_e hm
    exact zx_zret C rfl (by decide) rfl rfl dL_law_542
set_option maxRecDepth 100000 in
set_option maxHeartbeats 1000000 in
theorem j_L_law_604 {p : Program} {l : Launch} {e : Env} {s : State} {m : MethodId} {args : Array Value} {below : List Frame} {meth : Method} {c : Code} {D : va_G} {aC : Nat → ClassId} {b0 fu : Nat} {σ0 τ : tM} {v : Int32} {b L : Nat} {xs : Nat → Int32} {rc23 : Nat → Nat → Nat → Int32 → tM → Option ((Int32) × tM)} (C : tCx p l s m args meth c yL_law.cls cL_law 8 (some .boolean) D aC b0 σ0) (htab : True) (hin : True) (hX : va_X b L xs s s.heap) (hbb : b < b0) (hrc23 : ∀ (x1 : Nat) (x2 : Nat) (x3 : Nat) (x4 : Int32) (ρ : tM), rc23 x1 x2 x3 x4 ρ = some (v, τ) → tX p l e s m args below meth c 8 14 271 D aC b0 σ0 (.inl (some (.int v))) τ 23 [(0, .ref (b)), (1, .ref (x1)), (2, .ref (x2)), (3, .ref (x3)), (4, .int (x4))] [] ρ) {x1 : Nat} {x2 : Nat} {x3 : Nat} {x4 : Int32} {σ : tM} (hm : J_L_law_604 b0 fu L xs rc23 x1 x2 x3 x4 σ = some (v, τ)) : tX p l e s m args below meth c 8 14 271 D aC b0 σ0 (.inl (some (.int v))) τ 604 [(0, .ref (b)), (1, .ref (x1)), (2, .ref (x2)), (3, .ref (x3)), (4, .int (x4))] [] σ := by
  unfold J_L_law_604 at hm
  refine zx_goto C 2051 dL_law_604 (by decide) ?_
  exact zx_lv [0, 1, 2, 3, 4] [(0, .ref (b)), (1, .ref (x1)), (2, .ref (x2)), (3, .ref (x3)), (4, .int (x4))] rfl (j_L_law_2051 C htab hin hX hbb hrc23   hm)
set_option maxRecDepth 100000 in
set_option maxHeartbeats 1000000 in
theorem j_L_law_563 {p : Program} {l : Launch} {e : Env} {s : State} {m : MethodId} {args : Array Value} {below : List Frame} {meth : Method} {c : Code} {D : va_G} {aC : Nat → ClassId} {b0 fu : Nat} {σ0 τ : tM} {v : Int32} {b L : Nat} {xs : Nat → Int32} {rc23 : Nat → Nat → Nat → Int32 → tM → Option ((Int32) × tM)} (C : tCx p l s m args meth c yL_law.cls cL_law 8 (some .boolean) D aC b0 σ0) (htab : True) (hin : True) (hX : va_X b L xs s s.heap) (hbb : b < b0) (hrc23 : ∀ (x1 : Nat) (x2 : Nat) (x3 : Nat) (x4 : Int32) (ρ : tM), rc23 x1 x2 x3 x4 ρ = some (v, τ) → tX p l e s m args below meth c 8 14 271 D aC b0 σ0 (.inl (some (.int v))) τ 23 [(0, .ref (b)), (1, .ref (x1)), (2, .ref (x2)), (3, .ref (x3)), (4, .int (x4))] [] ρ) {x1 : Nat} {x2 : Nat} {x3 : Nat} {x4 : Int32} {σ : tM} (hm : J_L_law_563 b0 fu L xs rc23 x1 x2 x3 x4 σ = some (v, τ)) : tX p l e s m args below meth c 8 14 271 D aC b0 σ0 (.inl (some (.int v))) τ 563 [(0, .ref (b)), (1, .ref (x1)), (2, .ref (x2)), (3, .ref (x3)), (4, .int (x4))] [] σ := by
  unfold J_L_law_563 at hm
  refine zx_aload_n C dL_law_563 1 rfl ?_
  refine zx_aload_n C dL_law_564 3 rfl ?_
  obtain ⟨v171, ρ172, h173, hm⟩ := cll_e hm
  refine zx_callSH (σ := σ) C [.ref (x1), .ref (x3)] Y_L_rmdir W_5_88 W_5_89 (c_L_rmdir h173) (by decide) (by decide) rfl (Nat.le_of_ble_eq_true rfl) dL_law_565 rfl ?_
  refine zx_istore C [(5, .int (v171)), (0, .ref (b)), (1, .ref (x1)), (2, .ref (x2)), (3, .ref (x3)), (4, .int (x4))] dL_law_568 (by decide) rfl ?_
  refine zx_aload_n C dL_law_570 3 rfl ?_
  obtain ⟨k174, i175, hm⟩ := ckO_e hm
  obtain ⟨v176, ρ177, h178, hm⟩ := cll_e hm
  refine zx_callVH (σ := ρ172) C [] tC_11 k174 i175 Y_X12_rmdir W_8_197 W_8_198 W_8_199 (c_X12_rmdir h178) (by decide) (by decide) rfl (Nat.le_of_ble_eq_true rfl) dL_law_571 rfl ?_
  refine zx_istore C [(6, .int (v176)), (5, .int (v171)), (0, .ref (b)), (1, .ref (x1)), (2, .ref (x2)), (3, .ref (x3)), (4, .int (x4))] dL_law_574 (by decide) rfl ?_
  refine zx_aload_n C dL_law_576 4 rfl ?_
  obtain ⟨k179, i180, hm⟩ := ckO_e hm
  obtain ⟨v181, ρ182, h183, hm⟩ := cll_e hm
  refine zx_callV (σ := ρ177) C [] tC_11 k179 i180 Y_X12_thrown W_6_190 W_6_191 W_6_192 (c_X12_thrown h183) (by decide) (by decide) rfl (Nat.le_of_ble_eq_true rfl) dL_law_577 rfl ?_
  refine zx_iload C dL_law_580 1 rfl ?_
  refine zx_icmp_eq C 587 dL_law_582 (by decide) (fun c184 => ?_) (fun c184 => ?_)
  · replace hm := ip_e hm c184
    refine zx_iload C dL_law_587 1 rfl ?_
    refine zx_if_ne C 604 dL_law_589 (by decide) (fun c185 => ?_) (fun c185 => ?_)
    · replace hm := in_e hm c185
      exact zx_lv [2, 3, 4, 5, 6] [(0, .ref (b)), (1, .ref (x1)), (2, .ref (x2)), (3, .ref (x3)), (4, .int (x4))] rfl (j_L_law_604 C htab hin hX hbb hrc23   hm)
    · replace hm := ip_e hm c185
      refine zx_aload_n C dL_law_592 5 rfl ?_
      refine zx_iconst (v := 0) C dL_law_593 (by decide) ?_
      obtain ⟨n188, k186, i187, hm⟩ := ckR_e hm
      obtain ⟨h189, hm⟩ := ckI_e hm
      refine zx_lald C k186 i187 h189 dL_law_594 ?_
      refine zx_iload C dL_law_595 0 rfl ?_
      refine zx_i2l C dL_law_597 ?_
      refine zx_lcmp C dL_law_598 ?_
      refine zx_if_eq C 604 dL_law_599 (by decide) (fun c190 => ?_) (fun c190 => ?_)
      · replace hm := ip_e hm c190
        exact zx_lv [2, 3, 4, 5, 6] [(0, .ref (b)), (1, .ref (x1)), (2, .ref (x2)), (3, .ref (x3)), (4, .int (x4))] rfl (j_L_law_604 C htab hin hX hbb hrc23   hm)
      · replace hm := in_e hm c190
        refine zx_iconst (v := 0) C dL_law_602 (by decide) ?_
        obtain ⟨rfl, rfl⟩ := ret_e hm
        exact zx_zret C rfl (by decide) rfl rfl dL_law_603
  · replace hm := in_e hm c184
    refine zx_iconst (v := 0) C dL_law_585 (by decide) ?_
    obtain ⟨rfl, rfl⟩ := ret_e hm
    exact zx_zret C rfl (by decide) rfl rfl dL_law_586
set_option maxRecDepth 100000 in
set_option maxHeartbeats 1000000 in
theorem j_L_law_648 {p : Program} {l : Launch} {e : Env} {s : State} {m : MethodId} {args : Array Value} {below : List Frame} {meth : Method} {c : Code} {D : va_G} {aC : Nat → ClassId} {b0 fu : Nat} {σ0 τ : tM} {v : Int32} {b L : Nat} {xs : Nat → Int32} {rc23 : Nat → Nat → Nat → Int32 → tM → Option ((Int32) × tM)} (C : tCx p l s m args meth c yL_law.cls cL_law 8 (some .boolean) D aC b0 σ0) (htab : True) (hin : True) (hX : va_X b L xs s s.heap) (hbb : b < b0) (hrc23 : ∀ (x1 : Nat) (x2 : Nat) (x3 : Nat) (x4 : Int32) (ρ : tM), rc23 x1 x2 x3 x4 ρ = some (v, τ) → tX p l e s m args below meth c 8 14 271 D aC b0 σ0 (.inl (some (.int v))) τ 23 [(0, .ref (b)), (1, .ref (x1)), (2, .ref (x2)), (3, .ref (x3)), (4, .int (x4))] [] ρ) {x1 : Nat} {x2 : Nat} {x3 : Nat} {x4 : Int32} {σ : tM} (hm : J_L_law_648 b0 fu L xs rc23 x1 x2 x3 x4 σ = some (v, τ)) : tX p l e s m args below meth c 8 14 271 D aC b0 σ0 (.inl (some (.int v))) τ 648 [(0, .ref (b)), (1, .ref (x1)), (2, .ref (x2)), (3, .ref (x3)), (4, .int (x4))] [] σ := by
  unfold J_L_law_648 at hm
  refine zx_goto C 2051 dL_law_648 (by decide) ?_
  exact zx_lv [0, 1, 2, 3, 4] [(0, .ref (b)), (1, .ref (x1)), (2, .ref (x2)), (3, .ref (x3)), (4, .int (x4))] rfl (j_L_law_2051 C htab hin hX hbb hrc23   hm)
set_option maxRecDepth 100000 in
set_option maxHeartbeats 1000000 in
theorem j_L_law_607 {p : Program} {l : Launch} {e : Env} {s : State} {m : MethodId} {args : Array Value} {below : List Frame} {meth : Method} {c : Code} {D : va_G} {aC : Nat → ClassId} {b0 fu : Nat} {σ0 τ : tM} {v : Int32} {b L : Nat} {xs : Nat → Int32} {rc23 : Nat → Nat → Nat → Int32 → tM → Option ((Int32) × tM)} (C : tCx p l s m args meth c yL_law.cls cL_law 8 (some .boolean) D aC b0 σ0) (htab : True) (hin : True) (hX : va_X b L xs s s.heap) (hbb : b < b0) (hrc23 : ∀ (x1 : Nat) (x2 : Nat) (x3 : Nat) (x4 : Int32) (ρ : tM), rc23 x1 x2 x3 x4 ρ = some (v, τ) → tX p l e s m args below meth c 8 14 271 D aC b0 σ0 (.inl (some (.int v))) τ 23 [(0, .ref (b)), (1, .ref (x1)), (2, .ref (x2)), (3, .ref (x3)), (4, .int (x4))] [] ρ) {x1 : Nat} {x2 : Nat} {x3 : Nat} {x4 : Int32} {σ : tM} (hm : J_L_law_607 b0 fu L xs rc23 x1 x2 x3 x4 σ = some (v, τ)) : tX p l e s m args below meth c 8 14 271 D aC b0 σ0 (.inl (some (.int v))) τ 607 [(0, .ref (b)), (1, .ref (x1)), (2, .ref (x2)), (3, .ref (x3)), (4, .int (x4))] [] σ := by
  unfold J_L_law_607 at hm
  refine zx_aload_n C dL_law_607 1 rfl ?_
  refine zx_aload_n C dL_law_608 3 rfl ?_
  obtain ⟨v191, ρ192, h193, hm⟩ := cll_e hm
  refine zx_callSH (σ := σ) C [.ref (x1), .ref (x3)] Y_L_rename W_5_99 W_5_100 (c_L_rename h193) (by decide) (by decide) rfl (Nat.le_of_ble_eq_true rfl) dL_law_609 rfl ?_
  refine zx_istore C [(5, .int (v191)), (0, .ref (b)), (1, .ref (x1)), (2, .ref (x2)), (3, .ref (x3)), (4, .int (x4))] dL_law_612 (by decide) rfl ?_
  refine zx_aload_n C dL_law_614 3 rfl ?_
  obtain ⟨k194, i195, hm⟩ := ckO_e hm
  obtain ⟨v196, ρ197, h198, hm⟩ := cll_e hm
  refine zx_callVH (σ := ρ192) C [] tC_11 k194 i195 Y_X12_rename W_8_201 W_8_202 W_8_203 (c_X12_rename h198) (by decide) (by decide) rfl (Nat.le_of_ble_eq_true rfl) dL_law_615 rfl ?_
  refine zx_istore C [(6, .int (v196)), (5, .int (v191)), (0, .ref (b)), (1, .ref (x1)), (2, .ref (x2)), (3, .ref (x3)), (4, .int (x4))] dL_law_618 (by decide) rfl ?_
  refine zx_aload_n C dL_law_620 4 rfl ?_
  obtain ⟨k199, i200, hm⟩ := ckO_e hm
  obtain ⟨v201, ρ202, h203, hm⟩ := cll_e hm
  refine zx_callV (σ := ρ197) C [] tC_11 k199 i200 Y_X12_thrown W_6_190 W_6_191 W_6_192 (c_X12_thrown h203) (by decide) (by decide) rfl (Nat.le_of_ble_eq_true rfl) dL_law_621 rfl ?_
  refine zx_iload C dL_law_624 1 rfl ?_
  refine zx_icmp_eq C 631 dL_law_626 (by decide) (fun c204 => ?_) (fun c204 => ?_)
  · replace hm := ip_e hm c204
    refine zx_iload C dL_law_631 1 rfl ?_
    refine zx_if_ne C 648 dL_law_633 (by decide) (fun c205 => ?_) (fun c205 => ?_)
    · replace hm := in_e hm c205
      exact zx_lv [2, 3, 4, 5, 6] [(0, .ref (b)), (1, .ref (x1)), (2, .ref (x2)), (3, .ref (x3)), (4, .int (x4))] rfl (j_L_law_648 C htab hin hX hbb hrc23   hm)
    · replace hm := ip_e hm c205
      refine zx_aload_n C dL_law_636 5 rfl ?_
      refine zx_iconst (v := 0) C dL_law_637 (by decide) ?_
      obtain ⟨n208, k206, i207, hm⟩ := ckR_e hm
      obtain ⟨h209, hm⟩ := ckI_e hm
      refine zx_lald C k206 i207 h209 dL_law_638 ?_
      refine zx_iload C dL_law_639 0 rfl ?_
      refine zx_i2l C dL_law_641 ?_
      refine zx_lcmp C dL_law_642 ?_
      refine zx_if_eq C 648 dL_law_643 (by decide) (fun c210 => ?_) (fun c210 => ?_)
      · replace hm := ip_e hm c210
        exact zx_lv [2, 3, 4, 5, 6] [(0, .ref (b)), (1, .ref (x1)), (2, .ref (x2)), (3, .ref (x3)), (4, .int (x4))] rfl (j_L_law_648 C htab hin hX hbb hrc23   hm)
      · replace hm := in_e hm c210
        refine zx_iconst (v := 0) C dL_law_646 (by decide) ?_
        obtain ⟨rfl, rfl⟩ := ret_e hm
        exact zx_zret C rfl (by decide) rfl rfl dL_law_647
  · replace hm := in_e hm c204
    refine zx_iconst (v := 0) C dL_law_629 (by decide) ?_
    obtain ⟨rfl, rfl⟩ := ret_e hm
    exact zx_zret C rfl (by decide) rfl rfl dL_law_630
set_option maxRecDepth 100000 in
set_option maxHeartbeats 1000000 in
theorem j_L_law_692 {p : Program} {l : Launch} {e : Env} {s : State} {m : MethodId} {args : Array Value} {below : List Frame} {meth : Method} {c : Code} {D : va_G} {aC : Nat → ClassId} {b0 fu : Nat} {σ0 τ : tM} {v : Int32} {b L : Nat} {xs : Nat → Int32} {rc23 : Nat → Nat → Nat → Int32 → tM → Option ((Int32) × tM)} (C : tCx p l s m args meth c yL_law.cls cL_law 8 (some .boolean) D aC b0 σ0) (htab : True) (hin : True) (hX : va_X b L xs s s.heap) (hbb : b < b0) (hrc23 : ∀ (x1 : Nat) (x2 : Nat) (x3 : Nat) (x4 : Int32) (ρ : tM), rc23 x1 x2 x3 x4 ρ = some (v, τ) → tX p l e s m args below meth c 8 14 271 D aC b0 σ0 (.inl (some (.int v))) τ 23 [(0, .ref (b)), (1, .ref (x1)), (2, .ref (x2)), (3, .ref (x3)), (4, .int (x4))] [] ρ) {x1 : Nat} {x2 : Nat} {x3 : Nat} {x4 : Int32} {σ : tM} (hm : J_L_law_692 b0 fu L xs rc23 x1 x2 x3 x4 σ = some (v, τ)) : tX p l e s m args below meth c 8 14 271 D aC b0 σ0 (.inl (some (.int v))) τ 692 [(0, .ref (b)), (1, .ref (x1)), (2, .ref (x2)), (3, .ref (x3)), (4, .int (x4))] [] σ := by
  unfold J_L_law_692 at hm
  refine zx_goto C 2051 dL_law_692 (by decide) ?_
  exact zx_lv [0, 1, 2, 3, 4] [(0, .ref (b)), (1, .ref (x1)), (2, .ref (x2)), (3, .ref (x3)), (4, .int (x4))] rfl (j_L_law_2051 C htab hin hX hbb hrc23   hm)
set_option maxRecDepth 100000 in
set_option maxHeartbeats 1000000 in
theorem j_L_law_651 {p : Program} {l : Launch} {e : Env} {s : State} {m : MethodId} {args : Array Value} {below : List Frame} {meth : Method} {c : Code} {D : va_G} {aC : Nat → ClassId} {b0 fu : Nat} {σ0 τ : tM} {v : Int32} {b L : Nat} {xs : Nat → Int32} {rc23 : Nat → Nat → Nat → Int32 → tM → Option ((Int32) × tM)} (C : tCx p l s m args meth c yL_law.cls cL_law 8 (some .boolean) D aC b0 σ0) (htab : True) (hin : True) (hX : va_X b L xs s s.heap) (hbb : b < b0) (hrc23 : ∀ (x1 : Nat) (x2 : Nat) (x3 : Nat) (x4 : Int32) (ρ : tM), rc23 x1 x2 x3 x4 ρ = some (v, τ) → tX p l e s m args below meth c 8 14 271 D aC b0 σ0 (.inl (some (.int v))) τ 23 [(0, .ref (b)), (1, .ref (x1)), (2, .ref (x2)), (3, .ref (x3)), (4, .int (x4))] [] ρ) {x1 : Nat} {x2 : Nat} {x3 : Nat} {x4 : Int32} {σ : tM} (hm : J_L_law_651 b0 fu L xs rc23 x1 x2 x3 x4 σ = some (v, τ)) : tX p l e s m args below meth c 8 14 271 D aC b0 σ0 (.inl (some (.int v))) τ 651 [(0, .ref (b)), (1, .ref (x1)), (2, .ref (x2)), (3, .ref (x3)), (4, .int (x4))] [] σ := by
  unfold J_L_law_651 at hm
  refine zx_aload_n C dL_law_651 1 rfl ?_
  refine zx_aload_n C dL_law_652 3 rfl ?_
  obtain ⟨v211, ρ212, h213, hm⟩ := cll_e hm
  refine zx_callSH (σ := σ) C [.ref (x1), .ref (x3)] Y_L_open W_5_123 W_5_124 (c_L_open h213) (by decide) (by decide) rfl (Nat.le_of_ble_eq_true rfl) dL_law_653 rfl ?_
  refine zx_istore C [(5, .int (v211)), (0, .ref (b)), (1, .ref (x1)), (2, .ref (x2)), (3, .ref (x3)), (4, .int (x4))] dL_law_656 (by decide) rfl ?_
  refine zx_aload_n C dL_law_658 3 rfl ?_
  obtain ⟨k214, i215, hm⟩ := ckO_e hm
  obtain ⟨v216, ρ217, h218, hm⟩ := cll_e hm
  refine zx_callVH (σ := ρ212) C [] tC_11 k214 i215 Y_X12_open W_8_213 W_8_214 W_8_215 (c_X12_open h218) (by decide) (by decide) rfl (Nat.le_of_ble_eq_true rfl) dL_law_659 rfl ?_
  refine zx_istore C [(6, .int (v216)), (5, .int (v211)), (0, .ref (b)), (1, .ref (x1)), (2, .ref (x2)), (3, .ref (x3)), (4, .int (x4))] dL_law_662 (by decide) rfl ?_
  refine zx_aload_n C dL_law_664 4 rfl ?_
  obtain ⟨k219, i220, hm⟩ := ckO_e hm
  obtain ⟨v221, ρ222, h223, hm⟩ := cll_e hm
  refine zx_callV (σ := ρ217) C [] tC_11 k219 i220 Y_X12_thrown W_6_190 W_6_191 W_6_192 (c_X12_thrown h223) (by decide) (by decide) rfl (Nat.le_of_ble_eq_true rfl) dL_law_665 rfl ?_
  refine zx_iload C dL_law_668 1 rfl ?_
  refine zx_icmp_eq C 675 dL_law_670 (by decide) (fun c224 => ?_) (fun c224 => ?_)
  · replace hm := ip_e hm c224
    refine zx_iload C dL_law_675 1 rfl ?_
    refine zx_if_ne C 692 dL_law_677 (by decide) (fun c225 => ?_) (fun c225 => ?_)
    · replace hm := in_e hm c225
      exact zx_lv [2, 3, 4, 5, 6] [(0, .ref (b)), (1, .ref (x1)), (2, .ref (x2)), (3, .ref (x3)), (4, .int (x4))] rfl (j_L_law_692 C htab hin hX hbb hrc23   hm)
    · replace hm := ip_e hm c225
      refine zx_aload_n C dL_law_680 5 rfl ?_
      refine zx_iconst (v := 0) C dL_law_681 (by decide) ?_
      obtain ⟨n228, k226, i227, hm⟩ := ckR_e hm
      obtain ⟨h229, hm⟩ := ckI_e hm
      refine zx_lald C k226 i227 h229 dL_law_682 ?_
      refine zx_iload C dL_law_683 0 rfl ?_
      refine zx_i2l C dL_law_685 ?_
      refine zx_lcmp C dL_law_686 ?_
      refine zx_if_eq C 692 dL_law_687 (by decide) (fun c230 => ?_) (fun c230 => ?_)
      · replace hm := ip_e hm c230
        exact zx_lv [2, 3, 4, 5, 6] [(0, .ref (b)), (1, .ref (x1)), (2, .ref (x2)), (3, .ref (x3)), (4, .int (x4))] rfl (j_L_law_692 C htab hin hX hbb hrc23   hm)
      · replace hm := in_e hm c230
        refine zx_iconst (v := 0) C dL_law_690 (by decide) ?_
        obtain ⟨rfl, rfl⟩ := ret_e hm
        exact zx_zret C rfl (by decide) rfl rfl dL_law_691
  · replace hm := in_e hm c224
    refine zx_iconst (v := 0) C dL_law_673 (by decide) ?_
    obtain ⟨rfl, rfl⟩ := ret_e hm
    exact zx_zret C rfl (by decide) rfl rfl dL_law_674
set_option maxRecDepth 100000 in
set_option maxHeartbeats 1000000 in
theorem j_L_law_748 {p : Program} {l : Launch} {e : Env} {s : State} {m : MethodId} {args : Array Value} {below : List Frame} {meth : Method} {c : Code} {D : va_G} {aC : Nat → ClassId} {b0 fu : Nat} {σ0 τ : tM} {v : Int32} {b L : Nat} {xs : Nat → Int32} {rc23 : Nat → Nat → Nat → Int32 → tM → Option ((Int32) × tM)} (C : tCx p l s m args meth c yL_law.cls cL_law 8 (some .boolean) D aC b0 σ0) (htab : True) (hin : True) (hX : va_X b L xs s s.heap) (hbb : b < b0) (hrc23 : ∀ (x1 : Nat) (x2 : Nat) (x3 : Nat) (x4 : Int32) (ρ : tM), rc23 x1 x2 x3 x4 ρ = some (v, τ) → tX p l e s m args below meth c 8 14 271 D aC b0 σ0 (.inl (some (.int v))) τ 23 [(0, .ref (b)), (1, .ref (x1)), (2, .ref (x2)), (3, .ref (x3)), (4, .int (x4))] [] ρ) {x1 : Nat} {x2 : Nat} {x3 : Nat} {x4 : Int32} {σ : tM} (hm : J_L_law_748 b0 fu L xs rc23 x1 x2 x3 x4 σ = some (v, τ)) : tX p l e s m args below meth c 8 14 271 D aC b0 σ0 (.inl (some (.int v))) τ 748 [(0, .ref (b)), (1, .ref (x1)), (2, .ref (x2)), (3, .ref (x3)), (4, .int (x4))] [] σ := by
  unfold J_L_law_748 at hm
  refine zx_goto C 2051 dL_law_748 (by decide) ?_
  exact zx_lv [0, 1, 2, 3, 4] [(0, .ref (b)), (1, .ref (x1)), (2, .ref (x2)), (3, .ref (x3)), (4, .int (x4))] rfl (j_L_law_2051 C htab hin hX hbb hrc23   hm)
