set_option maxRecDepth 100000 in
set_option maxHeartbeats 1000000 in
theorem j_L_law_1290 {p : Program} {l : Launch} {e : Env} {s : State} {m : MethodId} {args : Array Value} {below : List Frame} {meth : Method} {c : Code} {D : va_G} {aC : Nat → ClassId} {b0 fu : Nat} {σ0 τ : tM} {v : Int32} {b L : Nat} {xs : Nat → Int32} {rc23 : Nat → Nat → Nat → Int32 → tM → Option ((Int32) × tM)} (C : tCx p l s m args meth c yL_law.cls cL_law 8 (some .boolean) D aC b0 σ0) (htab : True) (hin : True) (hX : va_X b L xs s s.heap) (hbb : b < b0) (hrc23 : ∀ (x1 : Nat) (x2 : Nat) (x3 : Nat) (x4 : Int32) (ρ : tM), rc23 x1 x2 x3 x4 ρ = some (v, τ) → tX p l e s m args below meth c 8 14 271 D aC b0 σ0 (.inl (some (.int v))) τ 23 [(0, .ref (b)), (1, .ref (x1)), (2, .ref (x2)), (3, .ref (x3)), (4, .int (x4))] [] ρ) {x1 : Nat} {x2 : Nat} {x3 : Nat} {x4 : Int32} {σ : tM} (hm : J_L_law_1290 b0 fu L xs rc23 x1 x2 x3 x4 σ = some (v, τ)) : tX p l e s m args below meth c 8 14 271 D aC b0 σ0 (.inl (some (.int v))) τ 1290 [(0, .ref (b)), (1, .ref (x1)), (2, .ref (x2)), (3, .ref (x3)), (4, .int (x4))] [] σ := by
  unfold J_L_law_1290 at hm
  refine zx_aload_n C dL_law_1290 1 rfl ?_
  refine zx_aload_n C dL_law_1291 0 rfl ?_
  refine zx_iload C dL_law_1292 4 rfl ?_
  refine zx_iconst (v := 1) C dL_law_1294 (by decide) ?_
  refine zx_iadd C dL_law_1295 ?_
  obtain ⟨h431, hm⟩ := ckI_e hm
  refine zx_sld C hX hbb h431 dL_law_1296 ?_
  refine zx_aload_n C dL_law_1297 0 rfl ?_
  refine zx_iload C dL_law_1298 4 rfl ?_
  refine zx_iconst (v := 2) C dL_law_1300 (by decide) ?_
  refine zx_iadd C dL_law_1301 ?_
  obtain ⟨h432, hm⟩ := ckI_e hm
  refine zx_sld C hX hbb h432 dL_law_1302 ?_
  refine zx_aload_n C dL_law_1303 3 rfl ?_
  obtain ⟨v433, ρ434, h435, hm⟩ := cll_e hm
  refine zx_callSH (σ := σ) C [.ref (x1), .int (xs (((x4) + (1)).toNatClampNeg)), .int (xs (((x4) + (2)).toNatClampNeg)), .ref (x3)] Y_L_entry W_5_237 W_5_238 (c_L_entry h435) (by decide) (by decide) rfl (Nat.le_of_ble_eq_true rfl) dL_law_1304 rfl ?_
  refine zx_istore C [(5, .int (v433)), (0, .ref (b)), (1, .ref (x1)), (2, .ref (x2)), (3, .ref (x3)), (4, .int (x4))] dL_law_1307 (by decide) rfl ?_
  refine zx_aload_n C dL_law_1309 3 rfl ?_
  refine zx_aload_n C dL_law_1310 1 rfl ?_
  refine zx_iload C dL_law_1311 5 rfl ?_
  refine zx_iconst (v := 1) C dL_law_1313 (by decide) ?_
  refine zx_iadd C dL_law_1314 ?_
  obtain ⟨h436, hm⟩ := ckI_e hm
  refine zx_sld C hX hbb h436 dL_law_1315 ?_
  refine zx_aload_n C dL_law_1316 1 rfl ?_
  refine zx_iload C dL_law_1317 5 rfl ?_
  refine zx_iconst (v := 2) C dL_law_1319 (by decide) ?_
  refine zx_iadd C dL_law_1320 ?_
  obtain ⟨h437, hm⟩ := ckI_e hm
  refine zx_sld C hX hbb h437 dL_law_1321 ?_
  obtain ⟨k438, i439, hm⟩ := ckO_e hm
  obtain ⟨v440, ρ441, h442, hm⟩ := cll_e hm
  refine zx_callVH (σ := ρ434) C [.int (xs (((x4) + (1)).toNatClampNeg)), .int (xs (((x4) + (2)).toNatClampNeg))] tC_11 k438 i439 Y_X12_entry W_9_28 W_9_29 W_9_30 (c_X12_entry h442) (by decide) (by decide) rfl (Nat.le_of_ble_eq_true rfl) dL_law_1322 rfl ?_
  refine zx_istore C [(6, .int (v440)), (5, .int (v433)), (0, .ref (b)), (1, .ref (x1)), (2, .ref (x2)), (3, .ref (x3)), (4, .int (x4))] dL_law_1325 (by decide) rfl ?_
  refine zx_aload_n C dL_law_1327 4 rfl ?_
  obtain ⟨k443, i444, hm⟩ := ckO_e hm
  obtain ⟨v445, ρ446, h447, hm⟩ := cll_e hm
  refine zx_callV (σ := ρ441) C [] tC_11 k443 i444 Y_X12_thrown W_6_190 W_6_191 W_6_192 (c_X12_thrown h447) (by decide) (by decide) rfl (Nat.le_of_ble_eq_true rfl) dL_law_1328 rfl ?_
  refine zx_iload C dL_law_1331 1 rfl ?_
  refine zx_icmp_eq C 1338 dL_law_1333 (by decide) (fun c448 => ?_) (fun c448 => ?_)
  · replace hm := ip_e hm c448
    refine zx_iload C dL_law_1338 1 rfl ?_
    refine zx_if_ne C 1355 dL_law_1340 (by decide) (fun c449 => ?_) (fun c449 => ?_)
    · replace hm := in_e hm c449
      exact zx_lv [2, 3, 4, 5, 6] [(0, .ref (b)), (1, .ref (x1)), (2, .ref (x2)), (3, .ref (x3)), (4, .int (x4))] rfl (j_L_law_1355 C htab hin hX hbb hrc23   hm)
    · replace hm := ip_e hm c449
      refine zx_aload_n C dL_law_1343 5 rfl ?_
      refine zx_iconst (v := 0) C dL_law_1344 (by decide) ?_
      obtain ⟨n452, k450, i451, hm⟩ := ckR_e hm
      obtain ⟨h453, hm⟩ := ckI_e hm
      refine zx_lald C k450 i451 h453 dL_law_1345 ?_
      refine zx_iload C dL_law_1346 0 rfl ?_
      refine zx_i2l C dL_law_1348 ?_
      refine zx_lcmp C dL_law_1349 ?_
      refine zx_if_eq C 1355 dL_law_1350 (by decide) (fun c454 => ?_) (fun c454 => ?_)
      · replace hm := ip_e hm c454
        exact zx_lv [2, 3, 4, 5, 6] [(0, .ref (b)), (1, .ref (x1)), (2, .ref (x2)), (3, .ref (x3)), (4, .int (x4))] rfl (j_L_law_1355 C htab hin hX hbb hrc23   hm)
      · replace hm := in_e hm c454
        refine zx_iconst (v := 0) C dL_law_1353 (by decide) ?_
        obtain ⟨rfl, rfl⟩ := ret_e hm
        exact zx_zret C rfl (by decide) rfl rfl dL_law_1354
  · replace hm := in_e hm c448
    refine zx_iconst (v := 0) C dL_law_1336 (by decide) ?_
    obtain ⟨rfl, rfl⟩ := ret_e hm
    exact zx_zret C rfl (by decide) rfl rfl dL_law_1337
set_option maxRecDepth 100000 in
set_option maxHeartbeats 1000000 in
theorem j_L_law_1411 {p : Program} {l : Launch} {e : Env} {s : State} {m : MethodId} {args : Array Value} {below : List Frame} {meth : Method} {c : Code} {D : va_G} {aC : Nat → ClassId} {b0 fu : Nat} {σ0 τ : tM} {v : Int32} {b L : Nat} {xs : Nat → Int32} {rc23 : Nat → Nat → Nat → Int32 → tM → Option ((Int32) × tM)} (C : tCx p l s m args meth c yL_law.cls cL_law 8 (some .boolean) D aC b0 σ0) (htab : True) (hin : True) (hX : va_X b L xs s s.heap) (hbb : b < b0) (hrc23 : ∀ (x1 : Nat) (x2 : Nat) (x3 : Nat) (x4 : Int32) (ρ : tM), rc23 x1 x2 x3 x4 ρ = some (v, τ) → tX p l e s m args below meth c 8 14 271 D aC b0 σ0 (.inl (some (.int v))) τ 23 [(0, .ref (b)), (1, .ref (x1)), (2, .ref (x2)), (3, .ref (x3)), (4, .int (x4))] [] ρ) {x1 : Nat} {x2 : Nat} {x3 : Nat} {x4 : Int32} {σ : tM} (hm : J_L_law_1411 b0 fu L xs rc23 x1 x2 x3 x4 σ = some (v, τ)) : tX p l e s m args below meth c 8 14 271 D aC b0 σ0 (.inl (some (.int v))) τ 1411 [(0, .ref (b)), (1, .ref (x1)), (2, .ref (x2)), (3, .ref (x3)), (4, .int (x4))] [] σ := by
  unfold J_L_law_1411 at hm
  refine zx_goto C 2051 dL_law_1411 (by decide) ?_
  exact zx_lv [0, 1, 2, 3, 4] [(0, .ref (b)), (1, .ref (x1)), (2, .ref (x2)), (3, .ref (x3)), (4, .int (x4))] rfl (j_L_law_2051 C htab hin hX hbb hrc23   hm)
set_option maxRecDepth 100000 in
set_option maxHeartbeats 1000000 in
theorem j_L_law_1358 {p : Program} {l : Launch} {e : Env} {s : State} {m : MethodId} {args : Array Value} {below : List Frame} {meth : Method} {c : Code} {D : va_G} {aC : Nat → ClassId} {b0 fu : Nat} {σ0 τ : tM} {v : Int32} {b L : Nat} {xs : Nat → Int32} {rc23 : Nat → Nat → Nat → Int32 → tM → Option ((Int32) × tM)} (C : tCx p l s m args meth c yL_law.cls cL_law 8 (some .boolean) D aC b0 σ0) (htab : True) (hin : True) (hX : va_X b L xs s s.heap) (hbb : b < b0) (hrc23 : ∀ (x1 : Nat) (x2 : Nat) (x3 : Nat) (x4 : Int32) (ρ : tM), rc23 x1 x2 x3 x4 ρ = some (v, τ) → tX p l e s m args below meth c 8 14 271 D aC b0 σ0 (.inl (some (.int v))) τ 23 [(0, .ref (b)), (1, .ref (x1)), (2, .ref (x2)), (3, .ref (x3)), (4, .int (x4))] [] ρ) {x1 : Nat} {x2 : Nat} {x3 : Nat} {x4 : Int32} {σ : tM} (hm : J_L_law_1358 b0 fu L xs rc23 x1 x2 x3 x4 σ = some (v, τ)) : tX p l e s m args below meth c 8 14 271 D aC b0 σ0 (.inl (some (.int v))) τ 1358 [(0, .ref (b)), (1, .ref (x1)), (2, .ref (x2)), (3, .ref (x3)), (4, .int (x4))] [] σ := by
  unfold J_L_law_1358 at hm
  refine zx_aload_n C dL_law_1358 1 rfl ?_
  refine zx_aload_n C dL_law_1359 0 rfl ?_
  refine zx_iload C dL_law_1360 4 rfl ?_
  refine zx_iconst (v := 1) C dL_law_1362 (by decide) ?_
  refine zx_iadd C dL_law_1363 ?_
  obtain ⟨h455, hm⟩ := ckI_e hm
  refine zx_sld C hX hbb h455 dL_law_1364 ?_
  refine zx_aload_n C dL_law_1365 3 rfl ?_
  obtain ⟨v456, ρ457, h458, hm⟩ := cll_e hm
  refine zx_callSH (σ := σ) C [.ref (x1), .int (xs (((x4) + (1)).toNatClampNeg)), .ref (x3)] Y_L_textAt W_6_10 W_6_11 (c_L_textAt h458) (by decide) (by decide) rfl (Nat.le_of_ble_eq_true rfl) dL_law_1366 rfl ?_
  refine zx_istore C [(5, .int (v456)), (0, .ref (b)), (1, .ref (x1)), (2, .ref (x2)), (3, .ref (x3)), (4, .int (x4))] dL_law_1369 (by decide) rfl ?_
  refine zx_aload_n C dL_law_1371 3 rfl ?_
  refine zx_aload_n C dL_law_1372 1 rfl ?_
  refine zx_iload C dL_law_1373 5 rfl ?_
  refine zx_iconst (v := 1) C dL_law_1375 (by decide) ?_
  refine zx_iadd C dL_law_1376 ?_
  obtain ⟨h459, hm⟩ := ckI_e hm
  refine zx_sld C hX hbb h459 dL_law_1377 ?_
  obtain ⟨k460, i461, hm⟩ := ckO_e hm
  obtain ⟨v462, ρ463, h464, hm⟩ := cll_e hm
  refine zx_callVH (σ := ρ457) C [.int (xs (((x4) + (1)).toNatClampNeg))] tC_11 k460 i461 Y_X12_textAt W_9_32 W_9_33 W_9_34 (c_X12_textAt h464) (by decide) (by decide) rfl (Nat.le_of_ble_eq_true rfl) dL_law_1378 rfl ?_
  refine zx_istore C [(6, .int (v462)), (5, .int (v456)), (0, .ref (b)), (1, .ref (x1)), (2, .ref (x2)), (3, .ref (x3)), (4, .int (x4))] dL_law_1381 (by decide) rfl ?_
  refine zx_aload_n C dL_law_1383 4 rfl ?_
  obtain ⟨k465, i466, hm⟩ := ckO_e hm
  obtain ⟨v467, ρ468, h469, hm⟩ := cll_e hm
  refine zx_callV (σ := ρ463) C [] tC_11 k465 i466 Y_X12_thrown W_6_190 W_6_191 W_6_192 (c_X12_thrown h469) (by decide) (by decide) rfl (Nat.le_of_ble_eq_true rfl) dL_law_1384 rfl ?_
  refine zx_iload C dL_law_1387 1 rfl ?_
  refine zx_icmp_eq C 1394 dL_law_1389 (by decide) (fun c470 => ?_) (fun c470 => ?_)
  · replace hm := ip_e hm c470
    refine zx_iload C dL_law_1394 1 rfl ?_
    refine zx_if_ne C 1411 dL_law_1396 (by decide) (fun c471 => ?_) (fun c471 => ?_)
    · replace hm := in_e hm c471
      exact zx_lv [2, 3, 4, 5, 6] [(0, .ref (b)), (1, .ref (x1)), (2, .ref (x2)), (3, .ref (x3)), (4, .int (x4))] rfl (j_L_law_1411 C htab hin hX hbb hrc23   hm)
    · replace hm := ip_e hm c471
      refine zx_aload_n C dL_law_1399 5 rfl ?_
      refine zx_iconst (v := 0) C dL_law_1400 (by decide) ?_
      obtain ⟨n474, k472, i473, hm⟩ := ckR_e hm
      obtain ⟨h475, hm⟩ := ckI_e hm
      refine zx_lald C k472 i473 h475 dL_law_1401 ?_
      refine zx_iload C dL_law_1402 0 rfl ?_
      refine zx_i2l C dL_law_1404 ?_
      refine zx_lcmp C dL_law_1405 ?_
      refine zx_if_eq C 1411 dL_law_1406 (by decide) (fun c476 => ?_) (fun c476 => ?_)
      · replace hm := ip_e hm c476
        exact zx_lv [2, 3, 4, 5, 6] [(0, .ref (b)), (1, .ref (x1)), (2, .ref (x2)), (3, .ref (x3)), (4, .int (x4))] rfl (j_L_law_1411 C htab hin hX hbb hrc23   hm)
      · replace hm := in_e hm c476
        refine zx_iconst (v := 0) C dL_law_1409 (by decide) ?_
        obtain ⟨rfl, rfl⟩ := ret_e hm
        exact zx_zret C rfl (by decide) rfl rfl dL_law_1410
  · replace hm := in_e hm c470
    refine zx_iconst (v := 0) C dL_law_1392 (by decide) ?_
    obtain ⟨rfl, rfl⟩ := ret_e hm
    exact zx_zret C rfl (by decide) rfl rfl dL_law_1393
set_option maxRecDepth 100000 in
set_option maxHeartbeats 1000000 in
theorem j_L_law_1479 {p : Program} {l : Launch} {e : Env} {s : State} {m : MethodId} {args : Array Value} {below : List Frame} {meth : Method} {c : Code} {D : va_G} {aC : Nat → ClassId} {b0 fu : Nat} {σ0 τ : tM} {v : Int32} {b L : Nat} {xs : Nat → Int32} {rc23 : Nat → Nat → Nat → Int32 → tM → Option ((Int32) × tM)} (C : tCx p l s m args meth c yL_law.cls cL_law 8 (some .boolean) D aC b0 σ0) (htab : True) (hin : True) (hX : va_X b L xs s s.heap) (hbb : b < b0) (hrc23 : ∀ (x1 : Nat) (x2 : Nat) (x3 : Nat) (x4 : Int32) (ρ : tM), rc23 x1 x2 x3 x4 ρ = some (v, τ) → tX p l e s m args below meth c 8 14 271 D aC b0 σ0 (.inl (some (.int v))) τ 23 [(0, .ref (b)), (1, .ref (x1)), (2, .ref (x2)), (3, .ref (x3)), (4, .int (x4))] [] ρ) {x1 : Nat} {x2 : Nat} {x3 : Nat} {x4 : Int32} {σ : tM} (hm : J_L_law_1479 b0 fu L xs rc23 x1 x2 x3 x4 σ = some (v, τ)) : tX p l e s m args below meth c 8 14 271 D aC b0 σ0 (.inl (some (.int v))) τ 1479 [(0, .ref (b)), (1, .ref (x1)), (2, .ref (x2)), (3, .ref (x3)), (4, .int (x4))] [] σ := by
  unfold J_L_law_1479 at hm
  refine zx_goto C 2051 dL_law_1479 (by decide) ?_
  exact zx_lv [0, 1, 2, 3, 4] [(0, .ref (b)), (1, .ref (x1)), (2, .ref (x2)), (3, .ref (x3)), (4, .int (x4))] rfl (j_L_law_2051 C htab hin hX hbb hrc23   hm)
set_option maxRecDepth 100000 in
set_option maxHeartbeats 1000000 in
theorem j_L_law_1414 {p : Program} {l : Launch} {e : Env} {s : State} {m : MethodId} {args : Array Value} {below : List Frame} {meth : Method} {c : Code} {D : va_G} {aC : Nat → ClassId} {b0 fu : Nat} {σ0 τ : tM} {v : Int32} {b L : Nat} {xs : Nat → Int32} {rc23 : Nat → Nat → Nat → Int32 → tM → Option ((Int32) × tM)} (C : tCx p l s m args meth c yL_law.cls cL_law 8 (some .boolean) D aC b0 σ0) (htab : True) (hin : True) (hX : va_X b L xs s s.heap) (hbb : b < b0) (hrc23 : ∀ (x1 : Nat) (x2 : Nat) (x3 : Nat) (x4 : Int32) (ρ : tM), rc23 x1 x2 x3 x4 ρ = some (v, τ) → tX p l e s m args below meth c 8 14 271 D aC b0 σ0 (.inl (some (.int v))) τ 23 [(0, .ref (b)), (1, .ref (x1)), (2, .ref (x2)), (3, .ref (x3)), (4, .int (x4))] [] ρ) {x1 : Nat} {x2 : Nat} {x3 : Nat} {x4 : Int32} {σ : tM} (hm : J_L_law_1414 b0 fu L xs rc23 x1 x2 x3 x4 σ = some (v, τ)) : tX p l e s m args below meth c 8 14 271 D aC b0 σ0 (.inl (some (.int v))) τ 1414 [(0, .ref (b)), (1, .ref (x1)), (2, .ref (x2)), (3, .ref (x3)), (4, .int (x4))] [] σ := by
  unfold J_L_law_1414 at hm
  refine zx_aload_n C dL_law_1414 1 rfl ?_
  refine zx_aload_n C dL_law_1415 0 rfl ?_
  refine zx_iload C dL_law_1416 4 rfl ?_
  refine zx_iconst (v := 1) C dL_law_1418 (by decide) ?_
  refine zx_iadd C dL_law_1419 ?_
  obtain ⟨h477, hm⟩ := ckI_e hm
  refine zx_sld C hX hbb h477 dL_law_1420 ?_
  refine zx_aload_n C dL_law_1421 0 rfl ?_
  refine zx_iload C dL_law_1422 4 rfl ?_
  refine zx_iconst (v := 2) C dL_law_1424 (by decide) ?_
  refine zx_iadd C dL_law_1425 ?_
  obtain ⟨h478, hm⟩ := ckI_e hm
  refine zx_sld C hX hbb h478 dL_law_1426 ?_
  refine zx_aload_n C dL_law_1427 3 rfl ?_
  obtain ⟨v479, ρ480, h481, hm⟩ := cll_e hm
  refine zx_callSH (σ := σ) C [.ref (x1), .int (xs (((x4) + (1)).toNatClampNeg)), .int (xs (((x4) + (2)).toNatClampNeg)), .ref (x3)] Y_L_blockOf W_6_18 W_6_19 (c_L_blockOf h481) (by decide) (by decide) rfl (Nat.le_of_ble_eq_true rfl) dL_law_1428 rfl ?_
  refine zx_istore C [(5, .int (v479)), (0, .ref (b)), (1, .ref (x1)), (2, .ref (x2)), (3, .ref (x3)), (4, .int (x4))] dL_law_1431 (by decide) rfl ?_
  refine zx_aload_n C dL_law_1433 3 rfl ?_
  refine zx_aload_n C dL_law_1434 1 rfl ?_
  refine zx_iload C dL_law_1435 5 rfl ?_
  refine zx_iconst (v := 1) C dL_law_1437 (by decide) ?_
  refine zx_iadd C dL_law_1438 ?_
  obtain ⟨h482, hm⟩ := ckI_e hm
  refine zx_sld C hX hbb h482 dL_law_1439 ?_
  refine zx_aload_n C dL_law_1440 1 rfl ?_
  refine zx_iload C dL_law_1441 5 rfl ?_
  refine zx_iconst (v := 2) C dL_law_1443 (by decide) ?_
  refine zx_iadd C dL_law_1444 ?_
  obtain ⟨h483, hm⟩ := ckI_e hm
  refine zx_sld C hX hbb h483 dL_law_1445 ?_
  obtain ⟨k484, i485, hm⟩ := ckO_e hm
  obtain ⟨v486, ρ487, h488, hm⟩ := cll_e hm
  refine zx_callVH (σ := ρ480) C [.int (xs (((x4) + (1)).toNatClampNeg)), .int (xs (((x4) + (2)).toNatClampNeg))] tC_11 k484 i485 Y_X12_blockOf W_9_36 W_9_37 W_9_38 (c_X12_blockOf h488) (by decide) (by decide) rfl (Nat.le_of_ble_eq_true rfl) dL_law_1446 rfl ?_
  refine zx_istore C [(6, .int (v486)), (5, .int (v479)), (0, .ref (b)), (1, .ref (x1)), (2, .ref (x2)), (3, .ref (x3)), (4, .int (x4))] dL_law_1449 (by decide) rfl ?_
  refine zx_aload_n C dL_law_1451 4 rfl ?_
  obtain ⟨k489, i490, hm⟩ := ckO_e hm
  obtain ⟨v491, ρ492, h493, hm⟩ := cll_e hm
  refine zx_callV (σ := ρ487) C [] tC_11 k489 i490 Y_X12_thrown W_6_190 W_6_191 W_6_192 (c_X12_thrown h493) (by decide) (by decide) rfl (Nat.le_of_ble_eq_true rfl) dL_law_1452 rfl ?_
  refine zx_iload C dL_law_1455 1 rfl ?_
  refine zx_icmp_eq C 1462 dL_law_1457 (by decide) (fun c494 => ?_) (fun c494 => ?_)
  · replace hm := ip_e hm c494
    refine zx_iload C dL_law_1462 1 rfl ?_
    refine zx_if_ne C 1479 dL_law_1464 (by decide) (fun c495 => ?_) (fun c495 => ?_)
    · replace hm := in_e hm c495
      exact zx_lv [2, 3, 4, 5, 6] [(0, .ref (b)), (1, .ref (x1)), (2, .ref (x2)), (3, .ref (x3)), (4, .int (x4))] rfl (j_L_law_1479 C htab hin hX hbb hrc23   hm)
    · replace hm := ip_e hm c495
      refine zx_aload_n C dL_law_1467 5 rfl ?_
      refine zx_iconst (v := 0) C dL_law_1468 (by decide) ?_
      obtain ⟨n498, k496, i497, hm⟩ := ckR_e hm
      obtain ⟨h499, hm⟩ := ckI_e hm
      refine zx_lald C k496 i497 h499 dL_law_1469 ?_
      refine zx_iload C dL_law_1470 0 rfl ?_
      refine zx_i2l C dL_law_1472 ?_
      refine zx_lcmp C dL_law_1473 ?_
      refine zx_if_eq C 1479 dL_law_1474 (by decide) (fun c500 => ?_) (fun c500 => ?_)
      · replace hm := ip_e hm c500
        exact zx_lv [2, 3, 4, 5, 6] [(0, .ref (b)), (1, .ref (x1)), (2, .ref (x2)), (3, .ref (x3)), (4, .int (x4))] rfl (j_L_law_1479 C htab hin hX hbb hrc23   hm)
      · replace hm := in_e hm c500
        refine zx_iconst (v := 0) C dL_law_1477 (by decide) ?_
        obtain ⟨rfl, rfl⟩ := ret_e hm
        exact zx_zret C rfl (by decide) rfl rfl dL_law_1478
  · replace hm := in_e hm c494
    refine zx_iconst (v := 0) C dL_law_1460 (by decide) ?_
    obtain ⟨rfl, rfl⟩ := ret_e hm
    exact zx_zret C rfl (by decide) rfl rfl dL_law_1461
set_option maxRecDepth 100000 in
set_option maxHeartbeats 1000000 in
theorem j_L_law_1535 {p : Program} {l : Launch} {e : Env} {s : State} {m : MethodId} {args : Array Value} {below : List Frame} {meth : Method} {c : Code} {D : va_G} {aC : Nat → ClassId} {b0 fu : Nat} {σ0 τ : tM} {v : Int32} {b L : Nat} {xs : Nat → Int32} {rc23 : Nat → Nat → Nat → Int32 → tM → Option ((Int32) × tM)} (C : tCx p l s m args meth c yL_law.cls cL_law 8 (some .boolean) D aC b0 σ0) (htab : True) (hin : True) (hX : va_X b L xs s s.heap) (hbb : b < b0) (hrc23 : ∀ (x1 : Nat) (x2 : Nat) (x3 : Nat) (x4 : Int32) (ρ : tM), rc23 x1 x2 x3 x4 ρ = some (v, τ) → tX p l e s m args below meth c 8 14 271 D aC b0 σ0 (.inl (some (.int v))) τ 23 [(0, .ref (b)), (1, .ref (x1)), (2, .ref (x2)), (3, .ref (x3)), (4, .int (x4))] [] ρ) {x1 : Nat} {x2 : Nat} {x3 : Nat} {x4 : Int32} {σ : tM} (hm : J_L_law_1535 b0 fu L xs rc23 x1 x2 x3 x4 σ = some (v, τ)) : tX p l e s m args below meth c 8 14 271 D aC b0 σ0 (.inl (some (.int v))) τ 1535 [(0, .ref (b)), (1, .ref (x1)), (2, .ref (x2)), (3, .ref (x3)), (4, .int (x4))] [] σ := by
  unfold J_L_law_1535 at hm
  refine zx_goto C 2051 dL_law_1535 (by decide) ?_
  exact zx_lv [0, 1, 2, 3, 4] [(0, .ref (b)), (1, .ref (x1)), (2, .ref (x2)), (3, .ref (x3)), (4, .int (x4))] rfl (j_L_law_2051 C htab hin hX hbb hrc23   hm)
set_option maxRecDepth 100000 in
set_option maxHeartbeats 1000000 in
theorem j_L_law_1482 {p : Program} {l : Launch} {e : Env} {s : State} {m : MethodId} {args : Array Value} {below : List Frame} {meth : Method} {c : Code} {D : va_G} {aC : Nat → ClassId} {b0 fu : Nat} {σ0 τ : tM} {v : Int32} {b L : Nat} {xs : Nat → Int32} {rc23 : Nat → Nat → Nat → Int32 → tM → Option ((Int32) × tM)} (C : tCx p l s m args meth c yL_law.cls cL_law 8 (some .boolean) D aC b0 σ0) (htab : True) (hin : True) (hX : va_X b L xs s s.heap) (hbb : b < b0) (hrc23 : ∀ (x1 : Nat) (x2 : Nat) (x3 : Nat) (x4 : Int32) (ρ : tM), rc23 x1 x2 x3 x4 ρ = some (v, τ) → tX p l e s m args below meth c 8 14 271 D aC b0 σ0 (.inl (some (.int v))) τ 23 [(0, .ref (b)), (1, .ref (x1)), (2, .ref (x2)), (3, .ref (x3)), (4, .int (x4))] [] ρ) {x1 : Nat} {x2 : Nat} {x3 : Nat} {x4 : Int32} {σ : tM} (hm : J_L_law_1482 b0 fu L xs rc23 x1 x2 x3 x4 σ = some (v, τ)) : tX p l e s m args below meth c 8 14 271 D aC b0 σ0 (.inl (some (.int v))) τ 1482 [(0, .ref (b)), (1, .ref (x1)), (2, .ref (x2)), (3, .ref (x3)), (4, .int (x4))] [] σ := by
  unfold J_L_law_1482 at hm
  refine zx_aload_n C dL_law_1482 1 rfl ?_
  refine zx_aload_n C dL_law_1483 0 rfl ?_
  refine zx_iload C dL_law_1484 4 rfl ?_
  refine zx_iconst (v := 1) C dL_law_1486 (by decide) ?_
  refine zx_iadd C dL_law_1487 ?_
  obtain ⟨h501, hm⟩ := ckI_e hm
  refine zx_sld C hX hbb h501 dL_law_1488 ?_
  refine zx_aload_n C dL_law_1489 3 rfl ?_
  obtain ⟨v502, ρ503, h504, hm⟩ := cll_e hm
  refine zx_callSH (σ := σ) C [.ref (x1), .int (xs (((x4) + (1)).toNatClampNeg)), .ref (x3)] Y_L_fsync W_6_28 W_6_29 (c_L_fsync h504) (by decide) (by decide) rfl (Nat.le_of_ble_eq_true rfl) dL_law_1490 rfl ?_
  refine zx_istore C [(5, .int (v502)), (0, .ref (b)), (1, .ref (x1)), (2, .ref (x2)), (3, .ref (x3)), (4, .int (x4))] dL_law_1493 (by decide) rfl ?_
  refine zx_aload_n C dL_law_1495 3 rfl ?_
  refine zx_aload_n C dL_law_1496 1 rfl ?_
  refine zx_iload C dL_law_1497 5 rfl ?_
  refine zx_iconst (v := 1) C dL_law_1499 (by decide) ?_
  refine zx_iadd C dL_law_1500 ?_
  obtain ⟨h505, hm⟩ := ckI_e hm
  refine zx_sld C hX hbb h505 dL_law_1501 ?_
  obtain ⟨k506, i507, hm⟩ := ckO_e hm
  obtain ⟨v508, ρ509, h510, hm⟩ := cll_e hm
  refine zx_callVH (σ := ρ503) C [.int (xs (((x4) + (1)).toNatClampNeg))] tC_11 k506 i507 Y_X12_fsync W_9_40 W_9_41 W_9_42 (c_X12_fsync h510) (by decide) (by decide) rfl (Nat.le_of_ble_eq_true rfl) dL_law_1502 rfl ?_
  refine zx_istore C [(6, .int (v508)), (5, .int (v502)), (0, .ref (b)), (1, .ref (x1)), (2, .ref (x2)), (3, .ref (x3)), (4, .int (x4))] dL_law_1505 (by decide) rfl ?_
  refine zx_aload_n C dL_law_1507 4 rfl ?_
  obtain ⟨k511, i512, hm⟩ := ckO_e hm
  obtain ⟨v513, ρ514, h515, hm⟩ := cll_e hm
  refine zx_callV (σ := ρ509) C [] tC_11 k511 i512 Y_X12_thrown W_6_190 W_6_191 W_6_192 (c_X12_thrown h515) (by decide) (by decide) rfl (Nat.le_of_ble_eq_true rfl) dL_law_1508 rfl ?_
  refine zx_iload C dL_law_1511 1 rfl ?_
  refine zx_icmp_eq C 1518 dL_law_1513 (by decide) (fun c516 => ?_) (fun c516 => ?_)
  · replace hm := ip_e hm c516
    refine zx_iload C dL_law_1518 1 rfl ?_
    refine zx_if_ne C 1535 dL_law_1520 (by decide) (fun c517 => ?_) (fun c517 => ?_)
    · replace hm := in_e hm c517
      exact zx_lv [2, 3, 4, 5, 6] [(0, .ref (b)), (1, .ref (x1)), (2, .ref (x2)), (3, .ref (x3)), (4, .int (x4))] rfl (j_L_law_1535 C htab hin hX hbb hrc23   hm)
    · replace hm := ip_e hm c517
      refine zx_aload_n C dL_law_1523 5 rfl ?_
      refine zx_iconst (v := 0) C dL_law_1524 (by decide) ?_
      obtain ⟨n520, k518, i519, hm⟩ := ckR_e hm
      obtain ⟨h521, hm⟩ := ckI_e hm
      refine zx_lald C k518 i519 h521 dL_law_1525 ?_
      refine zx_iload C dL_law_1526 0 rfl ?_
      refine zx_i2l C dL_law_1528 ?_
      refine zx_lcmp C dL_law_1529 ?_
      refine zx_if_eq C 1535 dL_law_1530 (by decide) (fun c522 => ?_) (fun c522 => ?_)
      · replace hm := ip_e hm c522
        exact zx_lv [2, 3, 4, 5, 6] [(0, .ref (b)), (1, .ref (x1)), (2, .ref (x2)), (3, .ref (x3)), (4, .int (x4))] rfl (j_L_law_1535 C htab hin hX hbb hrc23   hm)
      · replace hm := in_e hm c522
        refine zx_iconst (v := 0) C dL_law_1533 (by decide) ?_
        obtain ⟨rfl, rfl⟩ := ret_e hm
        exact zx_zret C rfl (by decide) rfl rfl dL_law_1534
  · replace hm := in_e hm c516
    refine zx_iconst (v := 0) C dL_law_1516 (by decide) ?_
    obtain ⟨rfl, rfl⟩ := ret_e hm
    exact zx_zret C rfl (by decide) rfl rfl dL_law_1517
set_option maxRecDepth 100000 in
set_option maxHeartbeats 1000000 in
theorem j_L_law_1591 {p : Program} {l : Launch} {e : Env} {s : State} {m : MethodId} {args : Array Value} {below : List Frame} {meth : Method} {c : Code} {D : va_G} {aC : Nat → ClassId} {b0 fu : Nat} {σ0 τ : tM} {v : Int32} {b L : Nat} {xs : Nat → Int32} {rc23 : Nat → Nat → Nat → Int32 → tM → Option ((Int32) × tM)} (C : tCx p l s m args meth c yL_law.cls cL_law 8 (some .boolean) D aC b0 σ0) (htab : True) (hin : True) (hX : va_X b L xs s s.heap) (hbb : b < b0) (hrc23 : ∀ (x1 : Nat) (x2 : Nat) (x3 : Nat) (x4 : Int32) (ρ : tM), rc23 x1 x2 x3 x4 ρ = some (v, τ) → tX p l e s m args below meth c 8 14 271 D aC b0 σ0 (.inl (some (.int v))) τ 23 [(0, .ref (b)), (1, .ref (x1)), (2, .ref (x2)), (3, .ref (x3)), (4, .int (x4))] [] ρ) {x1 : Nat} {x2 : Nat} {x3 : Nat} {x4 : Int32} {σ : tM} (hm : J_L_law_1591 b0 fu L xs rc23 x1 x2 x3 x4 σ = some (v, τ)) : tX p l e s m args below meth c 8 14 271 D aC b0 σ0 (.inl (some (.int v))) τ 1591 [(0, .ref (b)), (1, .ref (x1)), (2, .ref (x2)), (3, .ref (x3)), (4, .int (x4))] [] σ := by
  unfold J_L_law_1591 at hm
  refine zx_goto C 2051 dL_law_1591 (by decide) ?_
  exact zx_lv [0, 1, 2, 3, 4] [(0, .ref (b)), (1, .ref (x1)), (2, .ref (x2)), (3, .ref (x3)), (4, .int (x4))] rfl (j_L_law_2051 C htab hin hX hbb hrc23   hm)
set_option maxRecDepth 100000 in
set_option maxHeartbeats 1000000 in
theorem j_L_law_1538 {p : Program} {l : Launch} {e : Env} {s : State} {m : MethodId} {args : Array Value} {below : List Frame} {meth : Method} {c : Code} {D : va_G} {aC : Nat → ClassId} {b0 fu : Nat} {σ0 τ : tM} {v : Int32} {b L : Nat} {xs : Nat → Int32} {rc23 : Nat → Nat → Nat → Int32 → tM → Option ((Int32) × tM)} (C : tCx p l s m args meth c yL_law.cls cL_law 8 (some .boolean) D aC b0 σ0) (htab : True) (hin : True) (hX : va_X b L xs s s.heap) (hbb : b < b0) (hrc23 : ∀ (x1 : Nat) (x2 : Nat) (x3 : Nat) (x4 : Int32) (ρ : tM), rc23 x1 x2 x3 x4 ρ = some (v, τ) → tX p l e s m args below meth c 8 14 271 D aC b0 σ0 (.inl (some (.int v))) τ 23 [(0, .ref (b)), (1, .ref (x1)), (2, .ref (x2)), (3, .ref (x3)), (4, .int (x4))] [] ρ) {x1 : Nat} {x2 : Nat} {x3 : Nat} {x4 : Int32} {σ : tM} (hm : J_L_law_1538 b0 fu L xs rc23 x1 x2 x3 x4 σ = some (v, τ)) : tX p l e s m args below meth c 8 14 271 D aC b0 σ0 (.inl (some (.int v))) τ 1538 [(0, .ref (b)), (1, .ref (x1)), (2, .ref (x2)), (3, .ref (x3)), (4, .int (x4))] [] σ := by
  unfold J_L_law_1538 at hm
  refine zx_aload_n C dL_law_1538 1 rfl ?_
  refine zx_aload_n C dL_law_1539 0 rfl ?_
  refine zx_iload C dL_law_1540 4 rfl ?_
  refine zx_iconst (v := 1) C dL_law_1542 (by decide) ?_
  refine zx_iadd C dL_law_1543 ?_
  obtain ⟨h523, hm⟩ := ckI_e hm
  refine zx_sld C hX hbb h523 dL_law_1544 ?_
  refine zx_aload_n C dL_law_1545 3 rfl ?_
  obtain ⟨v524, ρ525, h526, hm⟩ := cll_e hm
  refine zx_callSH (σ := σ) C [.ref (x1), .int (xs (((x4) + (1)).toNatClampNeg)), .ref (x3)] Y_L_fdatasync W_6_62 W_6_63 (c_L_fdatasync h526) (by decide) (by decide) rfl (Nat.le_of_ble_eq_true rfl) dL_law_1546 rfl ?_
  refine zx_istore C [(5, .int (v524)), (0, .ref (b)), (1, .ref (x1)), (2, .ref (x2)), (3, .ref (x3)), (4, .int (x4))] dL_law_1549 (by decide) rfl ?_
  refine zx_aload_n C dL_law_1551 3 rfl ?_
  refine zx_aload_n C dL_law_1552 1 rfl ?_
  refine zx_iload C dL_law_1553 5 rfl ?_
  refine zx_iconst (v := 1) C dL_law_1555 (by decide) ?_
  refine zx_iadd C dL_law_1556 ?_
  obtain ⟨h527, hm⟩ := ckI_e hm
  refine zx_sld C hX hbb h527 dL_law_1557 ?_
  obtain ⟨k528, i529, hm⟩ := ckO_e hm
  obtain ⟨v530, ρ531, h532, hm⟩ := cll_e hm
  refine zx_callVH (σ := ρ525) C [.int (xs (((x4) + (1)).toNatClampNeg))] tC_11 k528 i529 Y_X12_fdatasync W_9_48 W_9_49 W_9_50 (c_X12_fdatasync h532) (by decide) (by decide) rfl (Nat.le_of_ble_eq_true rfl) dL_law_1558 rfl ?_
  refine zx_istore C [(6, .int (v530)), (5, .int (v524)), (0, .ref (b)), (1, .ref (x1)), (2, .ref (x2)), (3, .ref (x3)), (4, .int (x4))] dL_law_1561 (by decide) rfl ?_
  refine zx_aload_n C dL_law_1563 4 rfl ?_
  obtain ⟨k533, i534, hm⟩ := ckO_e hm
  obtain ⟨v535, ρ536, h537, hm⟩ := cll_e hm
  refine zx_callV (σ := ρ531) C [] tC_11 k533 i534 Y_X12_thrown W_6_190 W_6_191 W_6_192 (c_X12_thrown h537) (by decide) (by decide) rfl (Nat.le_of_ble_eq_true rfl) dL_law_1564 rfl ?_
  refine zx_iload C dL_law_1567 1 rfl ?_
  refine zx_icmp_eq C 1574 dL_law_1569 (by decide) (fun c538 => ?_) (fun c538 => ?_)
  · replace hm := ip_e hm c538
    refine zx_iload C dL_law_1574 1 rfl ?_
    refine zx_if_ne C 1591 dL_law_1576 (by decide) (fun c539 => ?_) (fun c539 => ?_)
    · replace hm := in_e hm c539
      exact zx_lv [2, 3, 4, 5, 6] [(0, .ref (b)), (1, .ref (x1)), (2, .ref (x2)), (3, .ref (x3)), (4, .int (x4))] rfl (j_L_law_1591 C htab hin hX hbb hrc23   hm)
    · replace hm := ip_e hm c539
      refine zx_aload_n C dL_law_1579 5 rfl ?_
      refine zx_iconst (v := 0) C dL_law_1580 (by decide) ?_
      obtain ⟨n542, k540, i541, hm⟩ := ckR_e hm
      obtain ⟨h543, hm⟩ := ckI_e hm
      refine zx_lald C k540 i541 h543 dL_law_1581 ?_
      refine zx_iload C dL_law_1582 0 rfl ?_
      refine zx_i2l C dL_law_1584 ?_
      refine zx_lcmp C dL_law_1585 ?_
      refine zx_if_eq C 1591 dL_law_1586 (by decide) (fun c544 => ?_) (fun c544 => ?_)
      · replace hm := ip_e hm c544
        exact zx_lv [2, 3, 4, 5, 6] [(0, .ref (b)), (1, .ref (x1)), (2, .ref (x2)), (3, .ref (x3)), (4, .int (x4))] rfl (j_L_law_1591 C htab hin hX hbb hrc23   hm)
      · replace hm := in_e hm c544
        refine zx_iconst (v := 0) C dL_law_1589 (by decide) ?_
        obtain ⟨rfl, rfl⟩ := ret_e hm
        exact zx_zret C rfl (by decide) rfl rfl dL_law_1590
  · replace hm := in_e hm c538
    refine zx_iconst (v := 0) C dL_law_1572 (by decide) ?_
    obtain ⟨rfl, rfl⟩ := ret_e hm
    exact zx_zret C rfl (by decide) rfl rfl dL_law_1573
set_option maxRecDepth 100000 in
set_option maxHeartbeats 1000000 in
theorem j_L_law_1635 {p : Program} {l : Launch} {e : Env} {s : State} {m : MethodId} {args : Array Value} {below : List Frame} {meth : Method} {c : Code} {D : va_G} {aC : Nat → ClassId} {b0 fu : Nat} {σ0 τ : tM} {v : Int32} {b L : Nat} {xs : Nat → Int32} {rc23 : Nat → Nat → Nat → Int32 → tM → Option ((Int32) × tM)} (C : tCx p l s m args meth c yL_law.cls cL_law 8 (some .boolean) D aC b0 σ0) (htab : True) (hin : True) (hX : va_X b L xs s s.heap) (hbb : b < b0) (hrc23 : ∀ (x1 : Nat) (x2 : Nat) (x3 : Nat) (x4 : Int32) (ρ : tM), rc23 x1 x2 x3 x4 ρ = some (v, τ) → tX p l e s m args below meth c 8 14 271 D aC b0 σ0 (.inl (some (.int v))) τ 23 [(0, .ref (b)), (1, .ref (x1)), (2, .ref (x2)), (3, .ref (x3)), (4, .int (x4))] [] ρ) {x1 : Nat} {x2 : Nat} {x3 : Nat} {x4 : Int32} {σ : tM} (hm : J_L_law_1635 b0 fu L xs rc23 x1 x2 x3 x4 σ = some (v, τ)) : tX p l e s m args below meth c 8 14 271 D aC b0 σ0 (.inl (some (.int v))) τ 1635 [(0, .ref (b)), (1, .ref (x1)), (2, .ref (x2)), (3, .ref (x3)), (4, .int (x4))] [] σ := by
  unfold J_L_law_1635 at hm
  refine zx_goto C 2051 dL_law_1635 (by decide) ?_
  exact zx_lv [0, 1, 2, 3, 4] [(0, .ref (b)), (1, .ref (x1)), (2, .ref (x2)), (3, .ref (x3)), (4, .int (x4))] rfl (j_L_law_2051 C htab hin hX hbb hrc23   hm)
set_option maxRecDepth 100000 in
set_option maxHeartbeats 1000000 in
theorem j_L_law_1594 {p : Program} {l : Launch} {e : Env} {s : State} {m : MethodId} {args : Array Value} {below : List Frame} {meth : Method} {c : Code} {D : va_G} {aC : Nat → ClassId} {b0 fu : Nat} {σ0 τ : tM} {v : Int32} {b L : Nat} {xs : Nat → Int32} {rc23 : Nat → Nat → Nat → Int32 → tM → Option ((Int32) × tM)} (C : tCx p l s m args meth c yL_law.cls cL_law 8 (some .boolean) D aC b0 σ0) (htab : True) (hin : True) (hX : va_X b L xs s s.heap) (hbb : b < b0) (hrc23 : ∀ (x1 : Nat) (x2 : Nat) (x3 : Nat) (x4 : Int32) (ρ : tM), rc23 x1 x2 x3 x4 ρ = some (v, τ) → tX p l e s m args below meth c 8 14 271 D aC b0 σ0 (.inl (some (.int v))) τ 23 [(0, .ref (b)), (1, .ref (x1)), (2, .ref (x2)), (3, .ref (x3)), (4, .int (x4))] [] ρ) {x1 : Nat} {x2 : Nat} {x3 : Nat} {x4 : Int32} {σ : tM} (hm : J_L_law_1594 b0 fu L xs rc23 x1 x2 x3 x4 σ = some (v, τ)) : tX p l e s m args below meth c 8 14 271 D aC b0 σ0 (.inl (some (.int v))) τ 1594 [(0, .ref (b)), (1, .ref (x1)), (2, .ref (x2)), (3, .ref (x3)), (4, .int (x4))] [] σ := by
  unfold J_L_law_1594 at hm
  refine zx_aload_n C dL_law_1594 1 rfl ?_
  refine zx_aload_n C dL_law_1595 3 rfl ?_
  obtain ⟨v545, ρ546, h547, hm⟩ := cll_e hm
  refine zx_callSH (σ := σ) C [.ref (x1), .ref (x3)] Y_L_sync W_6_73 W_6_74 (c_L_sync h547) (by decide) (by decide) rfl (Nat.le_of_ble_eq_true rfl) dL_law_1596 rfl ?_
  refine zx_istore C [(5, .int (v545)), (0, .ref (b)), (1, .ref (x1)), (2, .ref (x2)), (3, .ref (x3)), (4, .int (x4))] dL_law_1599 (by decide) rfl ?_
  refine zx_aload_n C dL_law_1601 3 rfl ?_
  obtain ⟨k548, i549, hm⟩ := ckO_e hm
  obtain ⟨v550, ρ551, h552, hm⟩ := cll_e hm
  refine zx_callVH (σ := ρ546) C [] tC_11 k548 i549 Y_X12_sync W_9_52 W_9_53 W_9_54 (c_X12_sync h552) (by decide) (by decide) rfl (Nat.le_of_ble_eq_true rfl) dL_law_1602 rfl ?_
  refine zx_istore C [(6, .int (v550)), (5, .int (v545)), (0, .ref (b)), (1, .ref (x1)), (2, .ref (x2)), (3, .ref (x3)), (4, .int (x4))] dL_law_1605 (by decide) rfl ?_
  refine zx_aload_n C dL_law_1607 4 rfl ?_
  obtain ⟨k553, i554, hm⟩ := ckO_e hm
  obtain ⟨v555, ρ556, h557, hm⟩ := cll_e hm
  refine zx_callV (σ := ρ551) C [] tC_11 k553 i554 Y_X12_thrown W_6_190 W_6_191 W_6_192 (c_X12_thrown h557) (by decide) (by decide) rfl (Nat.le_of_ble_eq_true rfl) dL_law_1608 rfl ?_
  refine zx_iload C dL_law_1611 1 rfl ?_
  refine zx_icmp_eq C 1618 dL_law_1613 (by decide) (fun c558 => ?_) (fun c558 => ?_)
  · replace hm := ip_e hm c558
    refine zx_iload C dL_law_1618 1 rfl ?_
    refine zx_if_ne C 1635 dL_law_1620 (by decide) (fun c559 => ?_) (fun c559 => ?_)
    · replace hm := in_e hm c559
      exact zx_lv [2, 3, 4, 5, 6] [(0, .ref (b)), (1, .ref (x1)), (2, .ref (x2)), (3, .ref (x3)), (4, .int (x4))] rfl (j_L_law_1635 C htab hin hX hbb hrc23   hm)
    · replace hm := ip_e hm c559
      refine zx_aload_n C dL_law_1623 5 rfl ?_
      refine zx_iconst (v := 0) C dL_law_1624 (by decide) ?_
      obtain ⟨n562, k560, i561, hm⟩ := ckR_e hm
      obtain ⟨h563, hm⟩ := ckI_e hm
      refine zx_lald C k560 i561 h563 dL_law_1625 ?_
      refine zx_iload C dL_law_1626 0 rfl ?_
      refine zx_i2l C dL_law_1628 ?_
      refine zx_lcmp C dL_law_1629 ?_
      refine zx_if_eq C 1635 dL_law_1630 (by decide) (fun c564 => ?_) (fun c564 => ?_)
      · replace hm := ip_e hm c564
        exact zx_lv [2, 3, 4, 5, 6] [(0, .ref (b)), (1, .ref (x1)), (2, .ref (x2)), (3, .ref (x3)), (4, .int (x4))] rfl (j_L_law_1635 C htab hin hX hbb hrc23   hm)
      · replace hm := in_e hm c564
        refine zx_iconst (v := 0) C dL_law_1633 (by decide) ?_
        obtain ⟨rfl, rfl⟩ := ret_e hm
        exact zx_zret C rfl (by decide) rfl rfl dL_law_1634
  · replace hm := in_e hm c558
    refine zx_iconst (v := 0) C dL_law_1616 (by decide) ?_
    obtain ⟨rfl, rfl⟩ := ret_e hm
    exact zx_zret C rfl (by decide) rfl rfl dL_law_1617
set_option maxRecDepth 100000 in
set_option maxHeartbeats 1000000 in
theorem j_L_law_1679 {p : Program} {l : Launch} {e : Env} {s : State} {m : MethodId} {args : Array Value} {below : List Frame} {meth : Method} {c : Code} {D : va_G} {aC : Nat → ClassId} {b0 fu : Nat} {σ0 τ : tM} {v : Int32} {b L : Nat} {xs : Nat → Int32} {rc23 : Nat → Nat → Nat → Int32 → tM → Option ((Int32) × tM)} (C : tCx p l s m args meth c yL_law.cls cL_law 8 (some .boolean) D aC b0 σ0) (htab : True) (hin : True) (hX : va_X b L xs s s.heap) (hbb : b < b0) (hrc23 : ∀ (x1 : Nat) (x2 : Nat) (x3 : Nat) (x4 : Int32) (ρ : tM), rc23 x1 x2 x3 x4 ρ = some (v, τ) → tX p l e s m args below meth c 8 14 271 D aC b0 σ0 (.inl (some (.int v))) τ 23 [(0, .ref (b)), (1, .ref (x1)), (2, .ref (x2)), (3, .ref (x3)), (4, .int (x4))] [] ρ) {x1 : Nat} {x2 : Nat} {x3 : Nat} {x4 : Int32} {σ : tM} (hm : J_L_law_1679 b0 fu L xs rc23 x1 x2 x3 x4 σ = some (v, τ)) : tX p l e s m args below meth c 8 14 271 D aC b0 σ0 (.inl (some (.int v))) τ 1679 [(0, .ref (b)), (1, .ref (x1)), (2, .ref (x2)), (3, .ref (x3)), (4, .int (x4))] [] σ := by
  unfold J_L_law_1679 at hm
  refine zx_goto C 2051 dL_law_1679 (by decide) ?_
  exact zx_lv [0, 1, 2, 3, 4] [(0, .ref (b)), (1, .ref (x1)), (2, .ref (x2)), (3, .ref (x3)), (4, .int (x4))] rfl (j_L_law_2051 C htab hin hX hbb hrc23   hm)
set_option maxRecDepth 100000 in
set_option maxHeartbeats 1000000 in
theorem j_L_law_1638 {p : Program} {l : Launch} {e : Env} {s : State} {m : MethodId} {args : Array Value} {below : List Frame} {meth : Method} {c : Code} {D : va_G} {aC : Nat → ClassId} {b0 fu : Nat} {σ0 τ : tM} {v : Int32} {b L : Nat} {xs : Nat → Int32} {rc23 : Nat → Nat → Nat → Int32 → tM → Option ((Int32) × tM)} (C : tCx p l s m args meth c yL_law.cls cL_law 8 (some .boolean) D aC b0 σ0) (htab : True) (hin : True) (hX : va_X b L xs s s.heap) (hbb : b < b0) (hrc23 : ∀ (x1 : Nat) (x2 : Nat) (x3 : Nat) (x4 : Int32) (ρ : tM), rc23 x1 x2 x3 x4 ρ = some (v, τ) → tX p l e s m args below meth c 8 14 271 D aC b0 σ0 (.inl (some (.int v))) τ 23 [(0, .ref (b)), (1, .ref (x1)), (2, .ref (x2)), (3, .ref (x3)), (4, .int (x4))] [] ρ) {x1 : Nat} {x2 : Nat} {x3 : Nat} {x4 : Int32} {σ : tM} (hm : J_L_law_1638 b0 fu L xs rc23 x1 x2 x3 x4 σ = some (v, τ)) : tX p l e s m args below meth c 8 14 271 D aC b0 σ0 (.inl (some (.int v))) τ 1638 [(0, .ref (b)), (1, .ref (x1)), (2, .ref (x2)), (3, .ref (x3)), (4, .int (x4))] [] σ := by
  unfold J_L_law_1638 at hm
  refine zx_aload_n C dL_law_1638 1 rfl ?_
  refine zx_aload_n C dL_law_1639 3 rfl ?_
  obtain ⟨v565, ρ566, h567, hm⟩ := cll_e hm
  refine zx_callSH (σ := σ) C [.ref (x1), .ref (x3)] Y_L_post W_6_80 W_6_81 (c_L_post h567) (by decide) (by decide) rfl (Nat.le_of_ble_eq_true rfl) dL_law_1640 rfl ?_
  refine zx_istore C [(5, .int (v565)), (0, .ref (b)), (1, .ref (x1)), (2, .ref (x2)), (3, .ref (x3)), (4, .int (x4))] dL_law_1643 (by decide) rfl ?_
  refine zx_aload_n C dL_law_1645 3 rfl ?_
  obtain ⟨k568, i569, hm⟩ := ckO_e hm
  obtain ⟨v570, ρ571, h572, hm⟩ := cll_e hm
  refine zx_callVH (σ := ρ566) C [] tC_11 k568 i569 Y_X12_post W_9_56 W_9_57 W_9_58 (c_X12_post h572) (by decide) (by decide) rfl (Nat.le_of_ble_eq_true rfl) dL_law_1646 rfl ?_
  refine zx_istore C [(6, .int (v570)), (5, .int (v565)), (0, .ref (b)), (1, .ref (x1)), (2, .ref (x2)), (3, .ref (x3)), (4, .int (x4))] dL_law_1649 (by decide) rfl ?_
  refine zx_aload_n C dL_law_1651 4 rfl ?_
  obtain ⟨k573, i574, hm⟩ := ckO_e hm
  obtain ⟨v575, ρ576, h577, hm⟩ := cll_e hm
  refine zx_callV (σ := ρ571) C [] tC_11 k573 i574 Y_X12_thrown W_6_190 W_6_191 W_6_192 (c_X12_thrown h577) (by decide) (by decide) rfl (Nat.le_of_ble_eq_true rfl) dL_law_1652 rfl ?_
  refine zx_iload C dL_law_1655 1 rfl ?_
  refine zx_icmp_eq C 1662 dL_law_1657 (by decide) (fun c578 => ?_) (fun c578 => ?_)
  · replace hm := ip_e hm c578
    refine zx_iload C dL_law_1662 1 rfl ?_
    refine zx_if_ne C 1679 dL_law_1664 (by decide) (fun c579 => ?_) (fun c579 => ?_)
    · replace hm := in_e hm c579
      exact zx_lv [2, 3, 4, 5, 6] [(0, .ref (b)), (1, .ref (x1)), (2, .ref (x2)), (3, .ref (x3)), (4, .int (x4))] rfl (j_L_law_1679 C htab hin hX hbb hrc23   hm)
    · replace hm := ip_e hm c579
      refine zx_aload_n C dL_law_1667 5 rfl ?_
      refine zx_iconst (v := 0) C dL_law_1668 (by decide) ?_
      obtain ⟨n582, k580, i581, hm⟩ := ckR_e hm
      obtain ⟨h583, hm⟩ := ckI_e hm
      refine zx_lald C k580 i581 h583 dL_law_1669 ?_
      refine zx_iload C dL_law_1670 0 rfl ?_
      refine zx_i2l C dL_law_1672 ?_
      refine zx_lcmp C dL_law_1673 ?_
      refine zx_if_eq C 1679 dL_law_1674 (by decide) (fun c584 => ?_) (fun c584 => ?_)
      · replace hm := ip_e hm c584
        exact zx_lv [2, 3, 4, 5, 6] [(0, .ref (b)), (1, .ref (x1)), (2, .ref (x2)), (3, .ref (x3)), (4, .int (x4))] rfl (j_L_law_1679 C htab hin hX hbb hrc23   hm)
      · replace hm := in_e hm c584
        refine zx_iconst (v := 0) C dL_law_1677 (by decide) ?_
        obtain ⟨rfl, rfl⟩ := ret_e hm
        exact zx_zret C rfl (by decide) rfl rfl dL_law_1678
  · replace hm := in_e hm c578
    refine zx_iconst (v := 0) C dL_law_1660 (by decide) ?_
    obtain ⟨rfl, rfl⟩ := ret_e hm
    exact zx_zret C rfl (by decide) rfl rfl dL_law_1661
set_option maxRecDepth 100000 in
set_option maxHeartbeats 1000000 in
theorem j_L_law_1735 {p : Program} {l : Launch} {e : Env} {s : State} {m : MethodId} {args : Array Value} {below : List Frame} {meth : Method} {c : Code} {D : va_G} {aC : Nat → ClassId} {b0 fu : Nat} {σ0 τ : tM} {v : Int32} {b L : Nat} {xs : Nat → Int32} {rc23 : Nat → Nat → Nat → Int32 → tM → Option ((Int32) × tM)} (C : tCx p l s m args meth c yL_law.cls cL_law 8 (some .boolean) D aC b0 σ0) (htab : True) (hin : True) (hX : va_X b L xs s s.heap) (hbb : b < b0) (hrc23 : ∀ (x1 : Nat) (x2 : Nat) (x3 : Nat) (x4 : Int32) (ρ : tM), rc23 x1 x2 x3 x4 ρ = some (v, τ) → tX p l e s m args below meth c 8 14 271 D aC b0 σ0 (.inl (some (.int v))) τ 23 [(0, .ref (b)), (1, .ref (x1)), (2, .ref (x2)), (3, .ref (x3)), (4, .int (x4))] [] ρ) {x1 : Nat} {x2 : Nat} {x3 : Nat} {x4 : Int32} {σ : tM} (hm : J_L_law_1735 b0 fu L xs rc23 x1 x2 x3 x4 σ = some (v, τ)) : tX p l e s m args below meth c 8 14 271 D aC b0 σ0 (.inl (some (.int v))) τ 1735 [(0, .ref (b)), (1, .ref (x1)), (2, .ref (x2)), (3, .ref (x3)), (4, .int (x4))] [] σ := by
  unfold J_L_law_1735 at hm
  refine zx_goto C 2051 dL_law_1735 (by decide) ?_
  exact zx_lv [0, 1, 2, 3, 4] [(0, .ref (b)), (1, .ref (x1)), (2, .ref (x2)), (3, .ref (x3)), (4, .int (x4))] rfl (j_L_law_2051 C htab hin hX hbb hrc23   hm)
set_option maxRecDepth 100000 in
set_option maxHeartbeats 1000000 in
theorem j_L_law_1682 {p : Program} {l : Launch} {e : Env} {s : State} {m : MethodId} {args : Array Value} {below : List Frame} {meth : Method} {c : Code} {D : va_G} {aC : Nat → ClassId} {b0 fu : Nat} {σ0 τ : tM} {v : Int32} {b L : Nat} {xs : Nat → Int32} {rc23 : Nat → Nat → Nat → Int32 → tM → Option ((Int32) × tM)} (C : tCx p l s m args meth c yL_law.cls cL_law 8 (some .boolean) D aC b0 σ0) (htab : True) (hin : True) (hX : va_X b L xs s s.heap) (hbb : b < b0) (hrc23 : ∀ (x1 : Nat) (x2 : Nat) (x3 : Nat) (x4 : Int32) (ρ : tM), rc23 x1 x2 x3 x4 ρ = some (v, τ) → tX p l e s m args below meth c 8 14 271 D aC b0 σ0 (.inl (some (.int v))) τ 23 [(0, .ref (b)), (1, .ref (x1)), (2, .ref (x2)), (3, .ref (x3)), (4, .int (x4))] [] ρ) {x1 : Nat} {x2 : Nat} {x3 : Nat} {x4 : Int32} {σ : tM} (hm : J_L_law_1682 b0 fu L xs rc23 x1 x2 x3 x4 σ = some (v, τ)) : tX p l e s m args below meth c 8 14 271 D aC b0 σ0 (.inl (some (.int v))) τ 1682 [(0, .ref (b)), (1, .ref (x1)), (2, .ref (x2)), (3, .ref (x3)), (4, .int (x4))] [] σ := by
  unfold J_L_law_1682 at hm
  refine zx_aload_n C dL_law_1682 1 rfl ?_
  refine zx_aload_n C dL_law_1683 0 rfl ?_
  refine zx_iload C dL_law_1684 4 rfl ?_
  refine zx_iconst (v := 1) C dL_law_1686 (by decide) ?_
  refine zx_iadd C dL_law_1687 ?_
  obtain ⟨h585, hm⟩ := ckI_e hm
  refine zx_sld C hX hbb h585 dL_law_1688 ?_
  refine zx_aload_n C dL_law_1689 3 rfl ?_
  obtain ⟨v586, ρ587, h588, hm⟩ := cll_e hm
  refine zx_callSH (σ := σ) C [.ref (x1), .int (xs (((x4) + (1)).toNatClampNeg)), .ref (x3)] Y_L_writeBack W_6_87 W_6_88 (c_L_writeBack h588) (by decide) (by decide) rfl (Nat.le_of_ble_eq_true rfl) dL_law_1690 rfl ?_
  refine zx_istore C [(5, .int (v586)), (0, .ref (b)), (1, .ref (x1)), (2, .ref (x2)), (3, .ref (x3)), (4, .int (x4))] dL_law_1693 (by decide) rfl ?_
  refine zx_aload_n C dL_law_1695 3 rfl ?_
  refine zx_aload_n C dL_law_1696 1 rfl ?_
  refine zx_iload C dL_law_1697 5 rfl ?_
  refine zx_iconst (v := 1) C dL_law_1699 (by decide) ?_
  refine zx_iadd C dL_law_1700 ?_
  obtain ⟨h589, hm⟩ := ckI_e hm
  refine zx_sld C hX hbb h589 dL_law_1701 ?_
  obtain ⟨k590, i591, hm⟩ := ckO_e hm
  obtain ⟨v592, ρ593, h594, hm⟩ := cll_e hm
  refine zx_callVH (σ := ρ587) C [.int (xs (((x4) + (1)).toNatClampNeg))] tC_11 k590 i591 Y_X12_writeBack W_9_60 W_9_61 W_9_62 (c_X12_writeBack h594) (by decide) (by decide) rfl (Nat.le_of_ble_eq_true rfl) dL_law_1702 rfl ?_
  refine zx_istore C [(6, .int (v592)), (5, .int (v586)), (0, .ref (b)), (1, .ref (x1)), (2, .ref (x2)), (3, .ref (x3)), (4, .int (x4))] dL_law_1705 (by decide) rfl ?_
  refine zx_aload_n C dL_law_1707 4 rfl ?_
  obtain ⟨k595, i596, hm⟩ := ckO_e hm
  obtain ⟨v597, ρ598, h599, hm⟩ := cll_e hm
  refine zx_callV (σ := ρ593) C [] tC_11 k595 i596 Y_X12_thrown W_6_190 W_6_191 W_6_192 (c_X12_thrown h599) (by decide) (by decide) rfl (Nat.le_of_ble_eq_true rfl) dL_law_1708 rfl ?_
  refine zx_iload C dL_law_1711 1 rfl ?_
  refine zx_icmp_eq C 1718 dL_law_1713 (by decide) (fun c600 => ?_) (fun c600 => ?_)
  · replace hm := ip_e hm c600
    refine zx_iload C dL_law_1718 1 rfl ?_
    refine zx_if_ne C 1735 dL_law_1720 (by decide) (fun c601 => ?_) (fun c601 => ?_)
    · replace hm := in_e hm c601
      exact zx_lv [2, 3, 4, 5, 6] [(0, .ref (b)), (1, .ref (x1)), (2, .ref (x2)), (3, .ref (x3)), (4, .int (x4))] rfl (j_L_law_1735 C htab hin hX hbb hrc23   hm)
    · replace hm := ip_e hm c601
      refine zx_aload_n C dL_law_1723 5 rfl ?_
      refine zx_iconst (v := 0) C dL_law_1724 (by decide) ?_
      obtain ⟨n604, k602, i603, hm⟩ := ckR_e hm
      obtain ⟨h605, hm⟩ := ckI_e hm
      refine zx_lald C k602 i603 h605 dL_law_1725 ?_
      refine zx_iload C dL_law_1726 0 rfl ?_
      refine zx_i2l C dL_law_1728 ?_
      refine zx_lcmp C dL_law_1729 ?_
      refine zx_if_eq C 1735 dL_law_1730 (by decide) (fun c606 => ?_) (fun c606 => ?_)
      · replace hm := ip_e hm c606
        exact zx_lv [2, 3, 4, 5, 6] [(0, .ref (b)), (1, .ref (x1)), (2, .ref (x2)), (3, .ref (x3)), (4, .int (x4))] rfl (j_L_law_1735 C htab hin hX hbb hrc23   hm)
      · replace hm := in_e hm c606
        refine zx_iconst (v := 0) C dL_law_1733 (by decide) ?_
        obtain ⟨rfl, rfl⟩ := ret_e hm
        exact zx_zret C rfl (by decide) rfl rfl dL_law_1734
  · replace hm := in_e hm c600
    refine zx_iconst (v := 0) C dL_law_1716 (by decide) ?_
    obtain ⟨rfl, rfl⟩ := ret_e hm
    exact zx_zret C rfl (by decide) rfl rfl dL_law_1717
set_option maxRecDepth 100000 in
set_option maxHeartbeats 1000000 in
theorem j_L_law_1791 {p : Program} {l : Launch} {e : Env} {s : State} {m : MethodId} {args : Array Value} {below : List Frame} {meth : Method} {c : Code} {D : va_G} {aC : Nat → ClassId} {b0 fu : Nat} {σ0 τ : tM} {v : Int32} {b L : Nat} {xs : Nat → Int32} {rc23 : Nat → Nat → Nat → Int32 → tM → Option ((Int32) × tM)} (C : tCx p l s m args meth c yL_law.cls cL_law 8 (some .boolean) D aC b0 σ0) (htab : True) (hin : True) (hX : va_X b L xs s s.heap) (hbb : b < b0) (hrc23 : ∀ (x1 : Nat) (x2 : Nat) (x3 : Nat) (x4 : Int32) (ρ : tM), rc23 x1 x2 x3 x4 ρ = some (v, τ) → tX p l e s m args below meth c 8 14 271 D aC b0 σ0 (.inl (some (.int v))) τ 23 [(0, .ref (b)), (1, .ref (x1)), (2, .ref (x2)), (3, .ref (x3)), (4, .int (x4))] [] ρ) {x1 : Nat} {x2 : Nat} {x3 : Nat} {x4 : Int32} {σ : tM} (hm : J_L_law_1791 b0 fu L xs rc23 x1 x2 x3 x4 σ = some (v, τ)) : tX p l e s m args below meth c 8 14 271 D aC b0 σ0 (.inl (some (.int v))) τ 1791 [(0, .ref (b)), (1, .ref (x1)), (2, .ref (x2)), (3, .ref (x3)), (4, .int (x4))] [] σ := by
  unfold J_L_law_1791 at hm
  refine zx_goto C 2051 dL_law_1791 (by decide) ?_
  exact zx_lv [0, 1, 2, 3, 4] [(0, .ref (b)), (1, .ref (x1)), (2, .ref (x2)), (3, .ref (x3)), (4, .int (x4))] rfl (j_L_law_2051 C htab hin hX hbb hrc23   hm)
set_option maxRecDepth 100000 in
set_option maxHeartbeats 1000000 in
theorem j_L_law_1738 {p : Program} {l : Launch} {e : Env} {s : State} {m : MethodId} {args : Array Value} {below : List Frame} {meth : Method} {c : Code} {D : va_G} {aC : Nat → ClassId} {b0 fu : Nat} {σ0 τ : tM} {v : Int32} {b L : Nat} {xs : Nat → Int32} {rc23 : Nat → Nat → Nat → Int32 → tM → Option ((Int32) × tM)} (C : tCx p l s m args meth c yL_law.cls cL_law 8 (some .boolean) D aC b0 σ0) (htab : True) (hin : True) (hX : va_X b L xs s s.heap) (hbb : b < b0) (hrc23 : ∀ (x1 : Nat) (x2 : Nat) (x3 : Nat) (x4 : Int32) (ρ : tM), rc23 x1 x2 x3 x4 ρ = some (v, τ) → tX p l e s m args below meth c 8 14 271 D aC b0 σ0 (.inl (some (.int v))) τ 23 [(0, .ref (b)), (1, .ref (x1)), (2, .ref (x2)), (3, .ref (x3)), (4, .int (x4))] [] ρ) {x1 : Nat} {x2 : Nat} {x3 : Nat} {x4 : Int32} {σ : tM} (hm : J_L_law_1738 b0 fu L xs rc23 x1 x2 x3 x4 σ = some (v, τ)) : tX p l e s m args below meth c 8 14 271 D aC b0 σ0 (.inl (some (.int v))) τ 1738 [(0, .ref (b)), (1, .ref (x1)), (2, .ref (x2)), (3, .ref (x3)), (4, .int (x4))] [] σ := by
  unfold J_L_law_1738 at hm
  refine zx_aload_n C dL_law_1738 1 rfl ?_
  refine zx_aload_n C dL_law_1739 0 rfl ?_
  refine zx_iload C dL_law_1740 4 rfl ?_
  refine zx_iconst (v := 1) C dL_law_1742 (by decide) ?_
  refine zx_iadd C dL_law_1743 ?_
  obtain ⟨h607, hm⟩ := ckI_e hm
  refine zx_sld C hX hbb h607 dL_law_1744 ?_
  refine zx_aload_n C dL_law_1745 3 rfl ?_
  obtain ⟨v608, ρ609, h610, hm⟩ := cll_e hm
  refine zx_callSH (σ := σ) C [.ref (x1), .int (xs (((x4) + (1)).toNatClampNeg)), .ref (x3)] Y_L_apply W_6_94 W_6_95 (c_L_apply h610) (by decide) (by decide) rfl (Nat.le_of_ble_eq_true rfl) dL_law_1746 rfl ?_
  refine zx_istore C [(5, .int (v608)), (0, .ref (b)), (1, .ref (x1)), (2, .ref (x2)), (3, .ref (x3)), (4, .int (x4))] dL_law_1749 (by decide) rfl ?_
  refine zx_aload_n C dL_law_1751 3 rfl ?_
  refine zx_aload_n C dL_law_1752 1 rfl ?_
  refine zx_iload C dL_law_1753 5 rfl ?_
  refine zx_iconst (v := 1) C dL_law_1755 (by decide) ?_
  refine zx_iadd C dL_law_1756 ?_
  obtain ⟨h611, hm⟩ := ckI_e hm
  refine zx_sld C hX hbb h611 dL_law_1757 ?_
  obtain ⟨k612, i613, hm⟩ := ckO_e hm
  obtain ⟨v614, ρ615, h616, hm⟩ := cll_e hm
  refine zx_callVH (σ := ρ609) C [.int (xs (((x4) + (1)).toNatClampNeg))] tC_11 k612 i613 Y_X12_apply W_9_64 W_9_65 W_9_66 (c_X12_apply h616) (by decide) (by decide) rfl (Nat.le_of_ble_eq_true rfl) dL_law_1758 rfl ?_
  refine zx_istore C [(6, .int (v614)), (5, .int (v608)), (0, .ref (b)), (1, .ref (x1)), (2, .ref (x2)), (3, .ref (x3)), (4, .int (x4))] dL_law_1761 (by decide) rfl ?_
  refine zx_aload_n C dL_law_1763 4 rfl ?_
  obtain ⟨k617, i618, hm⟩ := ckO_e hm
  obtain ⟨v619, ρ620, h621, hm⟩ := cll_e hm
  refine zx_callV (σ := ρ615) C [] tC_11 k617 i618 Y_X12_thrown W_6_190 W_6_191 W_6_192 (c_X12_thrown h621) (by decide) (by decide) rfl (Nat.le_of_ble_eq_true rfl) dL_law_1764 rfl ?_
  refine zx_iload C dL_law_1767 1 rfl ?_
  refine zx_icmp_eq C 1774 dL_law_1769 (by decide) (fun c622 => ?_) (fun c622 => ?_)
  · replace hm := ip_e hm c622
    refine zx_iload C dL_law_1774 1 rfl ?_
    refine zx_if_ne C 1791 dL_law_1776 (by decide) (fun c623 => ?_) (fun c623 => ?_)
    · replace hm := in_e hm c623
      exact zx_lv [2, 3, 4, 5, 6] [(0, .ref (b)), (1, .ref (x1)), (2, .ref (x2)), (3, .ref (x3)), (4, .int (x4))] rfl (j_L_law_1791 C htab hin hX hbb hrc23   hm)
    · replace hm := ip_e hm c623
      refine zx_aload_n C dL_law_1779 5 rfl ?_
      refine zx_iconst (v := 0) C dL_law_1780 (by decide) ?_
      obtain ⟨n626, k624, i625, hm⟩ := ckR_e hm
      obtain ⟨h627, hm⟩ := ckI_e hm
      refine zx_lald C k624 i625 h627 dL_law_1781 ?_
      refine zx_iload C dL_law_1782 0 rfl ?_
      refine zx_i2l C dL_law_1784 ?_
      refine zx_lcmp C dL_law_1785 ?_
      refine zx_if_eq C 1791 dL_law_1786 (by decide) (fun c628 => ?_) (fun c628 => ?_)
      · replace hm := ip_e hm c628
        exact zx_lv [2, 3, 4, 5, 6] [(0, .ref (b)), (1, .ref (x1)), (2, .ref (x2)), (3, .ref (x3)), (4, .int (x4))] rfl (j_L_law_1791 C htab hin hX hbb hrc23   hm)
      · replace hm := in_e hm c628
        refine zx_iconst (v := 0) C dL_law_1789 (by decide) ?_
        obtain ⟨rfl, rfl⟩ := ret_e hm
        exact zx_zret C rfl (by decide) rfl rfl dL_law_1790
  · replace hm := in_e hm c622
    refine zx_iconst (v := 0) C dL_law_1772 (by decide) ?_
    obtain ⟨rfl, rfl⟩ := ret_e hm
    exact zx_zret C rfl (by decide) rfl rfl dL_law_1773
set_option maxRecDepth 100000 in
set_option maxHeartbeats 1000000 in
theorem j_L_law_1794 {p : Program} {l : Launch} {e : Env} {s : State} {m : MethodId} {args : Array Value} {below : List Frame} {meth : Method} {c : Code} {D : va_G} {aC : Nat → ClassId} {b0 fu : Nat} {σ0 τ : tM} {v : Int32} {b L : Nat} {xs : Nat → Int32} {rc23 : Nat → Nat → Nat → Int32 → tM → Option ((Int32) × tM)} (C : tCx p l s m args meth c yL_law.cls cL_law 8 (some .boolean) D aC b0 σ0) (htab : True) (hin : True) (hX : va_X b L xs s s.heap) (hbb : b < b0) (hrc23 : ∀ (x1 : Nat) (x2 : Nat) (x3 : Nat) (x4 : Int32) (ρ : tM), rc23 x1 x2 x3 x4 ρ = some (v, τ) → tX p l e s m args below meth c 8 14 271 D aC b0 σ0 (.inl (some (.int v))) τ 23 [(0, .ref (b)), (1, .ref (x1)), (2, .ref (x2)), (3, .ref (x3)), (4, .int (x4))] [] ρ) {x1 : Nat} {x2 : Nat} {x3 : Nat} {x4 : Int32} {σ : tM} (hm : J_L_law_1794 b0 fu L xs rc23 x1 x2 x3 x4 σ = some (v, τ)) : tX p l e s m args below meth c 8 14 271 D aC b0 σ0 (.inl (some (.int v))) τ 1794 [(0, .ref (b)), (1, .ref (x1)), (2, .ref (x2)), (3, .ref (x3)), (4, .int (x4))] [] σ := by
  unfold J_L_law_1794 at hm
  refine zx_aload_n C dL_law_1794 1 rfl ?_
  refine zx_aload_n C dL_law_1795 0 rfl ?_
  refine zx_iload C dL_law_1796 4 rfl ?_
  refine zx_iconst (v := 1) C dL_law_1798 (by decide) ?_
  refine zx_iadd C dL_law_1799 ?_
  obtain ⟨h629, hm⟩ := ckI_e hm
  refine zx_sld C hX hbb h629 dL_law_1800 ?_
  obtain ⟨k630, i631, hm⟩ := ckO_e hm
  obtain ⟨v632, ρ633, h634, hm⟩ := cll_e hm
  refine zx_callV (σ := σ) C [.int (xs (((x4) + (1)).toNatClampNeg))] tC_10 k630 i631 Y_X10_cut W_3_38 W_3_39 W_3_40 (c_X10_cut h634) (by decide) (by decide) rfl (Nat.le_of_ble_eq_true rfl) dL_law_1801 rfl ?_
  refine zx_aload_n C dL_law_1804 2 rfl ?_
  refine zx_aload_n C dL_law_1805 0 rfl ?_
  refine zx_iload C dL_law_1806 4 rfl ?_
  refine zx_iconst (v := 1) C dL_law_1808 (by decide) ?_
  refine zx_iadd C dL_law_1809 ?_
  obtain ⟨h635, hm⟩ := ckI_e hm
  refine zx_sld C hX hbb h635 dL_law_1810 ?_
  obtain ⟨k636, i637, hm⟩ := ckO_e hm
  obtain ⟨v638, ρ639, h640, hm⟩ := cll_e hm
  refine zx_callV (σ := ρ633) C [.int (xs (((x4) + (1)).toNatClampNeg))] tC_11 k636 i637 Y_X12_cut W_9_68 W_9_69 W_9_70 (c_X12_cut h640) (by decide) (by decide) rfl (Nat.le_of_ble_eq_true rfl) dL_law_1811 rfl ?_
  refine zx_icmp_eq C 2051 dL_law_1814 (by decide) (fun c641 => ?_) (fun c641 => ?_)
  · replace hm := ip_e hm c641
    exact zx_lv [0, 1, 2, 3, 4] [(0, .ref (b)), (1, .ref (x1)), (2, .ref (x2)), (3, .ref (x3)), (4, .int (x4))] rfl (j_L_law_2051 C htab hin hX hbb hrc23   hm)
  · replace hm := in_e hm c641
    refine zx_iconst (v := 0) C dL_law_1817 (by decide) ?_
    obtain ⟨rfl, rfl⟩ := ret_e hm
    exact zx_zret C rfl (by decide) rfl rfl dL_law_1818
set_option maxRecDepth 100000 in
set_option maxHeartbeats 1000000 in
theorem j_L_law_1860 {p : Program} {l : Launch} {e : Env} {s : State} {m : MethodId} {args : Array Value} {below : List Frame} {meth : Method} {c : Code} {D : va_G} {aC : Nat → ClassId} {b0 fu : Nat} {σ0 τ : tM} {v : Int32} {b L : Nat} {xs : Nat → Int32} {rc23 : Nat → Nat → Nat → Int32 → tM → Option ((Int32) × tM)} (C : tCx p l s m args meth c yL_law.cls cL_law 8 (some .boolean) D aC b0 σ0) (htab : True) (hin : True) (hX : va_X b L xs s s.heap) (hbb : b < b0) (hrc23 : ∀ (x1 : Nat) (x2 : Nat) (x3 : Nat) (x4 : Int32) (ρ : tM), rc23 x1 x2 x3 x4 ρ = some (v, τ) → tX p l e s m args below meth c 8 14 271 D aC b0 σ0 (.inl (some (.int v))) τ 23 [(0, .ref (b)), (1, .ref (x1)), (2, .ref (x2)), (3, .ref (x3)), (4, .int (x4))] [] ρ) {x1 : Nat} {x2 : Nat} {x3 : Nat} {x4 : Int32} {σ : tM} (hm : J_L_law_1860 b0 fu L xs rc23 x1 x2 x3 x4 σ = some (v, τ)) : tX p l e s m args below meth c 8 14 271 D aC b0 σ0 (.inl (some (.int v))) τ 1860 [(0, .ref (b)), (1, .ref (x1)), (2, .ref (x2)), (3, .ref (x3)), (4, .int (x4))] [] σ := by
  unfold J_L_law_1860 at hm
  refine zx_goto C 2051 dL_law_1860 (by decide) ?_
  exact zx_lv [0, 1, 2, 3, 4] [(0, .ref (b)), (1, .ref (x1)), (2, .ref (x2)), (3, .ref (x3)), (4, .int (x4))] rfl (j_L_law_2051 C htab hin hX hbb hrc23   hm)
set_option maxRecDepth 100000 in
set_option maxHeartbeats 1000000 in
theorem j_L_law_1819 {p : Program} {l : Launch} {e : Env} {s : State} {m : MethodId} {args : Array Value} {below : List Frame} {meth : Method} {c : Code} {D : va_G} {aC : Nat → ClassId} {b0 fu : Nat} {σ0 τ : tM} {v : Int32} {b L : Nat} {xs : Nat → Int32} {rc23 : Nat → Nat → Nat → Int32 → tM → Option ((Int32) × tM)} (C : tCx p l s m args meth c yL_law.cls cL_law 8 (some .boolean) D aC b0 σ0) (htab : True) (hin : True) (hX : va_X b L xs s s.heap) (hbb : b < b0) (hrc23 : ∀ (x1 : Nat) (x2 : Nat) (x3 : Nat) (x4 : Int32) (ρ : tM), rc23 x1 x2 x3 x4 ρ = some (v, τ) → tX p l e s m args below meth c 8 14 271 D aC b0 σ0 (.inl (some (.int v))) τ 23 [(0, .ref (b)), (1, .ref (x1)), (2, .ref (x2)), (3, .ref (x3)), (4, .int (x4))] [] ρ) {x1 : Nat} {x2 : Nat} {x3 : Nat} {x4 : Int32} {σ : tM} (hm : J_L_law_1819 b0 fu L xs rc23 x1 x2 x3 x4 σ = some (v, τ)) : tX p l e s m args below meth c 8 14 271 D aC b0 σ0 (.inl (some (.int v))) τ 1819 [(0, .ref (b)), (1, .ref (x1)), (2, .ref (x2)), (3, .ref (x3)), (4, .int (x4))] [] σ := by
  unfold J_L_law_1819 at hm
  refine zx_aload_n C dL_law_1819 1 rfl ?_
  refine zx_aload_n C dL_law_1820 3 rfl ?_
  obtain ⟨v642, ρ643, h644, hm⟩ := cll_e hm
  refine zx_callSH (σ := σ) C [.ref (x1), .ref (x3)] Y_L_crash W_6_102 W_6_103 (c_L_crash h644) (by decide) (by decide) rfl (Nat.le_of_ble_eq_true rfl) dL_law_1821 rfl ?_
  refine zx_istore C [(5, .int (v642)), (0, .ref (b)), (1, .ref (x1)), (2, .ref (x2)), (3, .ref (x3)), (4, .int (x4))] dL_law_1824 (by decide) rfl ?_
  refine zx_aload_n C dL_law_1826 3 rfl ?_
  obtain ⟨k645, i646, hm⟩ := ckO_e hm
  obtain ⟨v647, ρ648, h649, hm⟩ := cll_e hm
  refine zx_callV (σ := ρ643) C [] tC_11 k645 i646 Y_X12_crash W_9_72 W_9_73 W_9_74 (c_X12_crash h649) (by decide) (by decide) rfl (Nat.le_of_ble_eq_true rfl) dL_law_1827 rfl ?_
  refine zx_istore C [(6, .int (v647)), (5, .int (v642)), (0, .ref (b)), (1, .ref (x1)), (2, .ref (x2)), (3, .ref (x3)), (4, .int (x4))] dL_law_1830 (by decide) rfl ?_
  refine zx_aload_n C dL_law_1832 4 rfl ?_
  obtain ⟨k650, i651, hm⟩ := ckO_e hm
  obtain ⟨v652, ρ653, h654, hm⟩ := cll_e hm
  refine zx_callV (σ := ρ648) C [] tC_11 k650 i651 Y_X12_thrown W_6_190 W_6_191 W_6_192 (c_X12_thrown h654) (by decide) (by decide) rfl (Nat.le_of_ble_eq_true rfl) dL_law_1833 rfl ?_
  refine zx_iload C dL_law_1836 1 rfl ?_
  refine zx_icmp_eq C 1843 dL_law_1838 (by decide) (fun c655 => ?_) (fun c655 => ?_)
  · replace hm := ip_e hm c655
    refine zx_iload C dL_law_1843 1 rfl ?_
    refine zx_if_ne C 1860 dL_law_1845 (by decide) (fun c656 => ?_) (fun c656 => ?_)
    · replace hm := in_e hm c656
      exact zx_lv [2, 3, 4, 5, 6] [(0, .ref (b)), (1, .ref (x1)), (2, .ref (x2)), (3, .ref (x3)), (4, .int (x4))] rfl (j_L_law_1860 C htab hin hX hbb hrc23   hm)
    · replace hm := ip_e hm c656
      refine zx_aload_n C dL_law_1848 5 rfl ?_
      refine zx_iconst (v := 0) C dL_law_1849 (by decide) ?_
      obtain ⟨n659, k657, i658, hm⟩ := ckR_e hm
      obtain ⟨h660, hm⟩ := ckI_e hm
      refine zx_lald C k657 i658 h660 dL_law_1850 ?_
      refine zx_iload C dL_law_1851 0 rfl ?_
      refine zx_i2l C dL_law_1853 ?_
      refine zx_lcmp C dL_law_1854 ?_
      refine zx_if_eq C 1860 dL_law_1855 (by decide) (fun c661 => ?_) (fun c661 => ?_)
      · replace hm := ip_e hm c661
        exact zx_lv [2, 3, 4, 5, 6] [(0, .ref (b)), (1, .ref (x1)), (2, .ref (x2)), (3, .ref (x3)), (4, .int (x4))] rfl (j_L_law_1860 C htab hin hX hbb hrc23   hm)
      · replace hm := in_e hm c661
        refine zx_iconst (v := 0) C dL_law_1858 (by decide) ?_
        obtain ⟨rfl, rfl⟩ := ret_e hm
        exact zx_zret C rfl (by decide) rfl rfl dL_law_1859
  · replace hm := in_e hm c655
    refine zx_iconst (v := 0) C dL_law_1841 (by decide) ?_
    obtain ⟨rfl, rfl⟩ := ret_e hm
    exact zx_zret C rfl (by decide) rfl rfl dL_law_1842
