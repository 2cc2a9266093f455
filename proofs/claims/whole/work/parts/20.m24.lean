abbrev cX10_path : ByteArray := prog_1_method_5_code
def yX10_path : MethodName := ⟨"SyncTree", "path", "(II)I"⟩
theorem Y_X10_path : tY yX10_path cX10_path 4 (some .int) 2 := ⟨W_3_23, W_1_1, ⟨by decide +kernel, by decide +kernel⟩, by decide +kernel⟩
theorem dX10_path_0 : decode cX10_path 0 = .ok (.iload_n 1, 1) := by decide +kernel
theorem dX10_path_1 : decode cX10_path 1 = .ok (.ifCond .eq 8, 3) := by decide +kernel
theorem dX10_path_4 : decode cX10_path 4 = .ok (.iload_n 1, 1) := by decide +kernel
theorem dX10_path_5 : decode cX10_path 5 = .ok (.iconst 1, 1) := by decide +kernel
theorem dX10_path_6 : decode cX10_path 6 = .ok (.if_icmp .ne 18, 3) := by decide +kernel
theorem dX10_path_9 : decode cX10_path 9 = .ok (.aload_n 0, 1) := by decide +kernel
theorem dX10_path_10 : decode cX10_path 10 = .ok (.getfield 62, 3) := by decide +kernel
theorem dX10_path_13 : decode cX10_path 13 = .ok (.iload_n 2, 1) := by decide +kernel
theorem dX10_path_14 : decode cX10_path 14 = .ok (.invokevirtual 119, 3) := by decide +kernel
theorem dX10_path_17 : decode cX10_path 17 = .ok (.ifCond .eq 7, 3) := by decide +kernel
theorem dX10_path_20 : decode cX10_path 20 = .ok (.iconst 1, 1) := by decide +kernel
theorem dX10_path_21 : decode cX10_path 21 = .ok (.goto 4, 3) := by decide +kernel
theorem dX10_path_24 : decode cX10_path 24 = .ok (.iconst 0, 1) := by decide +kernel
theorem dX10_path_25 : decode cX10_path 25 = .ok (.istore_n 3, 1) := by decide +kernel
theorem dX10_path_26 : decode cX10_path 26 = .ok (.iload_n 3, 1) := by decide +kernel
theorem dX10_path_27 : decode cX10_path 27 = .ok (.ifCond .eq 22, 3) := by decide +kernel
theorem dX10_path_30 : decode cX10_path 30 = .ok (.iload_n 1, 1) := by decide +kernel
theorem dX10_path_31 : decode cX10_path 31 = .ok (.ifCond .ne 18, 3) := by decide +kernel
theorem dX10_path_34 : decode cX10_path 34 = .ok (.aload_n 0, 1) := by decide +kernel
theorem dX10_path_35 : decode cX10_path 35 = .ok (.getfield 69, 3) := by decide +kernel
theorem dX10_path_38 : decode cX10_path 38 = .ok (.aload_n 0, 1) := by decide +kernel
theorem dX10_path_39 : decode cX10_path 39 = .ok (.getfield 62, 3) := by decide +kernel
theorem dX10_path_42 : decode cX10_path 42 = .ok (.iload_n 2, 1) := by decide +kernel
theorem dX10_path_43 : decode cX10_path 43 = .ok (.invokevirtual 123, 3) := by decide +kernel
theorem dX10_path_46 : decode cX10_path 46 = .ok (.goto 19, 3) := by decide +kernel
theorem dX10_path_49 : decode cX10_path 49 = .ok (.iload_n 3, 1) := by decide +kernel
theorem dX10_path_50 : decode cX10_path 50 = .ok (.ifCond .eq 15, 3) := by decide +kernel
theorem dX10_path_53 : decode cX10_path 53 = .ok (.aload_n 0, 1) := by decide +kernel
theorem dX10_path_54 : decode cX10_path 54 = .ok (.getfield 73, 3) := by decide +kernel
theorem dX10_path_57 : decode cX10_path 57 = .ok (.aload_n 0, 1) := by decide +kernel
theorem dX10_path_58 : decode cX10_path 58 = .ok (.getfield 62, 3) := by decide +kernel
theorem dX10_path_61 : decode cX10_path 61 = .ok (.iload_n 2, 1) := by decide +kernel
theorem dX10_path_62 : decode cX10_path 62 = .ok (.invokevirtual 123, 3) := by decide +kernel
theorem dX10_path_65 : decode cX10_path 65 = .ok (.aload_n 0, 1) := by decide +kernel
theorem dX10_path_66 : decode cX10_path 66 = .ok (.getfield 62, 3) := by decide +kernel
theorem dX10_path_69 : decode cX10_path 69 = .ok (.invokevirtual 98, 3) := by decide +kernel
theorem dX10_path_72 : decode cX10_path 72 = .ok (.iload_n 3, 1) := by decide +kernel
theorem dX10_path_73 : decode cX10_path 73 = .ok (.ifCond .eq 7, 3) := by decide +kernel
theorem dX10_path_76 : decode cX10_path 76 = .ok (.iload_n 2, 1) := by decide +kernel
theorem dX10_path_77 : decode cX10_path 77 = .ok (.goto 5, 3) := by decide +kernel
theorem dX10_path_80 : decode cX10_path 80 = .ok (.bipush (-9), 2) := by decide +kernel
theorem dX10_path_82 : decode cX10_path 82 = .ok (.ireturn, 1) := by decide +kernel
def J_X10_path_82 (b0 fu : Nat)  (s0 : Int32) (σ : tM) : Option ((Int32) × tM) := some (s0, σ)
def J_X10_path_65 (b0 fu : Nat)  (x0 : Nat) (x2 : Int32) (x3 : Int32) (σ : tM) : Option ((Int32) × tM) := ckO b0 (σ) (x0) 10 (osm (tA (σ) (x0) 6) (fun a16 => ckO b0 (σ) (a16) 6 (cll (m_X6_useUp b0 fu (a16) (σ)) (fun v20 ρ21 => if (x3) = (0) then J_X10_path_82 b0 fu   ((-9)) (ρ21) else J_X10_path_82 b0 fu   (x2) (ρ21)))))
def J_X10_path_49 (b0 fu : Nat)  (x0 : Nat) (x2 : Int32) (x3 : Int32) (σ : tM) : Option ((Int32) × tM) := if (x3) = (0) then J_X10_path_65 b0 fu   (x0) (x2) (x3) (σ) else ckO b0 (σ) (x0) 10 (osm (tA (σ) (x0) 8) (fun a26 => osm (tA (σ) (x0) 6) (fun a28 => ckO b0 (σ) (a26) 3 (cll (m_X3_take b0 fu (a26) (a28) (x2) (σ)) (fun v32 ρ33 => J_X10_path_65 b0 fu   (x0) (x2) (x3) (ρ33))))))
def J_X10_path_25 (b0 fu : Nat)  (x0 : Nat) (x1 : Int32) (x2 : Int32) (s0 : Int32) (σ : tM) : Option ((Int32) × tM) := if (s0) = (0) then J_X10_path_49 b0 fu   (x0) (x2) (s0) (σ) else if (x1) = (0) then ckO b0 (σ) (x0) 10 (osm (tA (σ) (x0) 7) (fun a38 => osm (tA (σ) (x0) 6) (fun a40 => ckO b0 (σ) (a38) 3 (cll (m_X3_take b0 fu (a38) (a40) (x2) (σ)) (fun v44 ρ45 => J_X10_path_65 b0 fu   (x0) (x2) (s0) (ρ45)))))) else J_X10_path_49 b0 fu   (x0) (x2) (s0) (σ)
def J_X10_path_24 (b0 fu : Nat)  (x0 : Nat) (x1 : Int32) (x2 : Int32) (σ : tM) : Option ((Int32) × tM) := J_X10_path_25 b0 fu   (x0) (x1) (x2) (0) (σ)
def J_X10_path_9 (b0 fu : Nat)  (x0 : Nat) (x1 : Int32) (x2 : Int32) (σ : tM) : Option ((Int32) × tM) := ckO b0 (σ) (x0) 10 (osm (tA (σ) (x0) 6) (fun a4 => ckO b0 (σ) (a4) 6 (cll (m_X6_canBePath b0 fu (a4) (x2) (σ)) (fun v8 ρ9 => if (v8) = (0) then J_X10_path_24 b0 fu   (x0) (x1) (x2) (ρ9) else J_X10_path_25 b0 fu   (x0) (x1) (x2) (1) (ρ9)))))
def m_X10_path (b0 fu : Nat) (a0 : Nat) (p0 : Int32) (p1 : Int32) (σ : tM) : Option ((Int32) × tM) := grw σ (if (p0) = (0) then J_X10_path_9 b0 fu   (a0) (p0) (p1) (σ) else if (p0) = (1) then J_X10_path_9 b0 fu   (a0) (p0) (p1) (σ) else J_X10_path_24 b0 fu   (a0) (p0) (p1) (σ))
set_option maxRecDepth 100000 in
set_option maxHeartbeats 1000000 in
theorem j_X10_path_82 {p : Program} {l : Launch} {e : Env} {s : State} {m : MethodId} {args : Array Value} {below : List Frame} {meth : Method} {c : Code} {D : va_G} {aC : Nat → ClassId} {b0 fu : Nat} {σ0 τ : tM} {v : Int32}  (C : tCx p l s m args meth c yX10_path.cls cX10_path 4 (some .int) D aC b0 σ0) (htab : ∀ x ∈ c.exceptionTable.toList, False) (hin : meth.name = yX10_path.name)  {s0 : Int32} {σ : tM} (hm : J_X10_path_82 b0 fu  s0 σ = some (v, τ)) : tX p l e s m args below meth c 4 2 44 D aC b0 σ0 (.inl (some (.int v))) τ 82 [] [.int (s0)] σ := by
  unfold J_X10_path_82 at hm
  obtain ⟨rfl, rfl⟩ := ret_e hm
  exact zx_iret C rfl rfl rfl dX10_path_82
set_option maxRecDepth 100000 in
set_option maxHeartbeats 1000000 in
theorem j_X10_path_65 {p : Program} {l : Launch} {e : Env} {s : State} {m : MethodId} {args : Array Value} {below : List Frame} {meth : Method} {c : Code} {D : va_G} {aC : Nat → ClassId} {b0 fu : Nat} {σ0 τ : tM} {v : Int32}  (C : tCx p l s m args meth c yX10_path.cls cX10_path 4 (some .int) D aC b0 σ0) (htab : ∀ x ∈ c.exceptionTable.toList, False) (hin : meth.name = yX10_path.name)  {x0 : Nat} {x2 : Int32} {x3 : Int32} {σ : tM} (hm : J_X10_path_65 b0 fu  x0 x2 x3 σ = some (v, τ)) : tX p l e s m args below meth c 4 2 44 D aC b0 σ0 (.inl (some (.int v))) τ 65 [(0, .ref (x0)), (2, .int (x2)), (3, .int (x3))] [] σ := by
  unfold J_X10_path_65 at hm
  refine zx_aload_n C dX10_path_65 0 rfl ?_
  obtain ⟨k14, i15, hm⟩ := ckO_e hm
  obtain ⟨a16, h17, hm⟩ := osm_e hm
  refine zx_get (j := 6) C tC_10 k14 i15 ⟨by decide, Or.inl W_2_219⟩ dX10_path_66 (.ref a16) (rf_s h17) ?_
  obtain ⟨k18, i19, hm⟩ := ckO_e hm
  obtain ⟨v20, ρ21, h22, hm⟩ := cll_e hm
  refine zx_callV (σ := σ) C [] tC_6 k18 i19 Y_X6_useUp W_2_202 W_2_203 W_2_204 (c_X6_useUp h22) (by decide) (by decide) rfl (Nat.le_of_ble_eq_true rfl) dX10_path_69 rfl ?_
  refine zx_iload_n C dX10_path_72 2 rfl ?_
  refine zx_if_eq C 80 dX10_path_73 (by decide) (fun c23 => ?_) (fun c23 => ?_)
  · replace hm := ip_e hm c23
    refine zx_bipush (v := (-9)) C dX10_path_80 (by decide) ?_
    exact zx_lv [] [] rfl (j_X10_path_82 C htab hin    hm)
  · replace hm := in_e hm c23
    refine zx_iload_n C dX10_path_76 1 rfl ?_
    refine zx_goto C 82 dX10_path_77 (by decide) ?_
    exact zx_lv [] [] rfl (j_X10_path_82 C htab hin    hm)
set_option maxRecDepth 100000 in
set_option maxHeartbeats 1000000 in
theorem j_X10_path_49 {p : Program} {l : Launch} {e : Env} {s : State} {m : MethodId} {args : Array Value} {below : List Frame} {meth : Method} {c : Code} {D : va_G} {aC : Nat → ClassId} {b0 fu : Nat} {σ0 τ : tM} {v : Int32}  (C : tCx p l s m args meth c yX10_path.cls cX10_path 4 (some .int) D aC b0 σ0) (htab : ∀ x ∈ c.exceptionTable.toList, False) (hin : meth.name = yX10_path.name)  {x0 : Nat} {x2 : Int32} {x3 : Int32} {σ : tM} (hm : J_X10_path_49 b0 fu  x0 x2 x3 σ = some (v, τ)) : tX p l e s m args below meth c 4 2 44 D aC b0 σ0 (.inl (some (.int v))) τ 49 [(0, .ref (x0)), (2, .int (x2)), (3, .int (x3))] [] σ := by
  unfold J_X10_path_49 at hm
  refine zx_iload_n C dX10_path_49 2 rfl ?_
  refine zx_if_eq C 65 dX10_path_50 (by decide) (fun c13 => ?_) (fun c13 => ?_)
  · replace hm := ip_e hm c13
    exact zx_lv [0, 1, 2] [(0, .ref (x0)), (2, .int (x2)), (3, .int (x3))] rfl (j_X10_path_65 C htab hin    hm)
  · replace hm := in_e hm c13
    refine zx_aload_n C dX10_path_53 0 rfl ?_
    obtain ⟨k24, i25, hm⟩ := ckO_e hm
    obtain ⟨a26, h27, hm⟩ := osm_e hm
    refine zx_get (j := 8) C tC_10 k24 i25 ⟨by decide, Or.inl W_2_221⟩ dX10_path_54 (.ref a26) (rf_s h27) ?_
    refine zx_aload_n C dX10_path_57 0 rfl ?_
    obtain ⟨a28, h29, hm⟩ := osm_e hm
    refine zx_get (j := 6) C tC_10 k24 i25 ⟨by decide, Or.inl W_2_219⟩ dX10_path_58 (.ref a28) (rf_s h29) ?_
    refine zx_iload_n C dX10_path_61 1 rfl ?_
    obtain ⟨k30, i31, hm⟩ := ckO_e hm
    obtain ⟨v32, ρ33, h34, hm⟩ := cll_e hm
    refine zx_callV (σ := σ) C [.ref (a28), .int (x2)] tC_3 k30 i31 Y_X3_take W_3_28 W_3_29 W_3_30 (c_X3_take h34) (by decide) (by decide) rfl (Nat.le_of_ble_eq_true rfl) dX10_path_62 rfl ?_
    exact zx_lv [0, 1, 2] [(0, .ref (x0)), (2, .int (x2)), (3, .int (x3))] rfl (j_X10_path_65 C htab hin    hm)
set_option maxRecDepth 100000 in
set_option maxHeartbeats 1000000 in
theorem j_X10_path_25 {p : Program} {l : Launch} {e : Env} {s : State} {m : MethodId} {args : Array Value} {below : List Frame} {meth : Method} {c : Code} {D : va_G} {aC : Nat → ClassId} {b0 fu : Nat} {σ0 τ : tM} {v : Int32}  (C : tCx p l s m args meth c yX10_path.cls cX10_path 4 (some .int) D aC b0 σ0) (htab : ∀ x ∈ c.exceptionTable.toList, False) (hin : meth.name = yX10_path.name)  {x0 : Nat} {x1 : Int32} {x2 : Int32} {s0 : Int32} {σ : tM} (hm : J_X10_path_25 b0 fu  x0 x1 x2 s0 σ = some (v, τ)) : tX p l e s m args below meth c 4 2 44 D aC b0 σ0 (.inl (some (.int v))) τ 25 [(0, .ref (x0)), (1, .int (x1)), (2, .int (x2))] [.int (s0)] σ := by
  unfold J_X10_path_25 at hm
  refine zx_istore_n C [(3, .int (s0)), (0, .ref (x0)), (1, .int (x1)), (2, .int (x2))] dX10_path_25 rfl (by decide) rfl ?_
  refine zx_iload_n C dX10_path_26 0 rfl ?_
  refine zx_if_eq C 49 dX10_path_27 (by decide) (fun c12 => ?_) (fun c12 => ?_)
  · replace hm := ip_e hm c12
    exact zx_lv [1, 3, 0] [(0, .ref (x0)), (2, .int (x2)), (3, .int (s0))] rfl (j_X10_path_49 C htab hin    hm)
  · replace hm := in_e hm c12
    refine zx_iload_n C dX10_path_30 2 rfl ?_
    refine zx_if_ne C 49 dX10_path_31 (by decide) (fun c35 => ?_) (fun c35 => ?_)
    · replace hm := in_e hm c35
      exact zx_lv [1, 3, 0] [(0, .ref (x0)), (2, .int (x2)), (3, .int (s0))] rfl (j_X10_path_49 C htab hin    hm)
    · replace hm := ip_e hm c35
      refine zx_aload_n C dX10_path_34 1 rfl ?_
      obtain ⟨k36, i37, hm⟩ := ckO_e hm
      obtain ⟨a38, h39, hm⟩ := osm_e hm
      refine zx_get (j := 7) C tC_10 k36 i37 ⟨by decide, Or.inl W_2_220⟩ dX10_path_35 (.ref a38) (rf_s h39) ?_
      refine zx_aload_n C dX10_path_38 1 rfl ?_
      obtain ⟨a40, h41, hm⟩ := osm_e hm
      refine zx_get (j := 6) C tC_10 k36 i37 ⟨by decide, Or.inl W_2_219⟩ dX10_path_39 (.ref a40) (rf_s h41) ?_
      refine zx_iload_n C dX10_path_42 3 rfl ?_
      obtain ⟨k42, i43, hm⟩ := ckO_e hm
      obtain ⟨v44, ρ45, h46, hm⟩ := cll_e hm
      refine zx_callV (σ := σ) C [.ref (a40), .int (x2)] tC_3 k42 i43 Y_X3_take W_3_28 W_3_29 W_3_30 (c_X3_take h46) (by decide) (by decide) rfl (Nat.le_of_ble_eq_true rfl) dX10_path_43 rfl ?_
      refine zx_goto C 65 dX10_path_46 (by decide) ?_
      exact zx_lv [1, 3, 0] [(0, .ref (x0)), (2, .int (x2)), (3, .int (s0))] rfl (j_X10_path_65 C htab hin    hm)
set_option maxRecDepth 100000 in
set_option maxHeartbeats 1000000 in
theorem j_X10_path_24 {p : Program} {l : Launch} {e : Env} {s : State} {m : MethodId} {args : Array Value} {below : List Frame} {meth : Method} {c : Code} {D : va_G} {aC : Nat → ClassId} {b0 fu : Nat} {σ0 τ : tM} {v : Int32}  (C : tCx p l s m args meth c yX10_path.cls cX10_path 4 (some .int) D aC b0 σ0) (htab : ∀ x ∈ c.exceptionTable.toList, False) (hin : meth.name = yX10_path.name)  {x0 : Nat} {x1 : Int32} {x2 : Int32} {σ : tM} (hm : J_X10_path_24 b0 fu  x0 x1 x2 σ = some (v, τ)) : tX p l e s m args below meth c 4 2 44 D aC b0 σ0 (.inl (some (.int v))) τ 24 [(0, .ref (x0)), (1, .int (x1)), (2, .int (x2))] [] σ := by
  unfold J_X10_path_24 at hm
  refine zx_iconst (v := 0) C dX10_path_24 (by decide) ?_
  exact zx_lv [0, 1, 2] [(0, .ref (x0)), (1, .int (x1)), (2, .int (x2))] rfl (j_X10_path_25 C htab hin    hm)
set_option maxRecDepth 100000 in
set_option maxHeartbeats 1000000 in
theorem j_X10_path_9 {p : Program} {l : Launch} {e : Env} {s : State} {m : MethodId} {args : Array Value} {below : List Frame} {meth : Method} {c : Code} {D : va_G} {aC : Nat → ClassId} {b0 fu : Nat} {σ0 τ : tM} {v : Int32}  (C : tCx p l s m args meth c yX10_path.cls cX10_path 4 (some .int) D aC b0 σ0) (htab : ∀ x ∈ c.exceptionTable.toList, False) (hin : meth.name = yX10_path.name)  {x0 : Nat} {x1 : Int32} {x2 : Int32} {σ : tM} (hm : J_X10_path_9 b0 fu  x0 x1 x2 σ = some (v, τ)) : tX p l e s m args below meth c 4 2 44 D aC b0 σ0 (.inl (some (.int v))) τ 9 [(0, .ref (x0)), (1, .int (x1)), (2, .int (x2))] [] σ := by
  unfold J_X10_path_9 at hm
  refine zx_aload_n C dX10_path_9 0 rfl ?_
  obtain ⟨k2, i3, hm⟩ := ckO_e hm
  obtain ⟨a4, h5, hm⟩ := osm_e hm
  refine zx_get (j := 6) C tC_10 k2 i3 ⟨by decide, Or.inl W_2_219⟩ dX10_path_10 (.ref a4) (rf_s h5) ?_
  refine zx_iload_n C dX10_path_13 2 rfl ?_
  obtain ⟨k6, i7, hm⟩ := ckO_e hm
  obtain ⟨v8, ρ9, h10, hm⟩ := cll_e hm
  refine zx_callV (σ := σ) C [.int (x2)] tC_6 k6 i7 Y_X6_canBePath W_3_24 W_3_25 W_3_26 (c_X6_canBePath h10) (by decide) (by decide) rfl (Nat.le_of_ble_eq_true rfl) dX10_path_14 rfl ?_
  refine zx_if_eq C 24 dX10_path_17 (by decide) (fun c11 => ?_) (fun c11 => ?_)
  · replace hm := ip_e hm c11
    exact zx_lv [0, 1, 2] [(0, .ref (x0)), (1, .int (x1)), (2, .int (x2))] rfl (j_X10_path_24 C htab hin    hm)
  · replace hm := in_e hm c11
    refine zx_iconst (v := 1) C dX10_path_20 (by decide) ?_
    refine zx_goto C 25 dX10_path_21 (by decide) ?_
    exact zx_lv [0, 1, 2] [(0, .ref (x0)), (1, .int (x1)), (2, .int (x2))] rfl (j_X10_path_25 C htab hin    hm)
set_option maxRecDepth 100000 in
set_option maxHeartbeats 1000000 in
theorem c_X10_path {l : Launch} {D : va_G} {aC : Nat → ClassId} {b0 fu : Nat} {a0 : Nat} {p0 : Int32} {p1 : Int32} {σ τ : tM} {v : Int32} (hm : m_X10_path b0 fu a0 p0 p1 σ = some (v, τ)) : tMt l D aC b0 yX10_path (Cond.code yX10_path cX10_path 4 (some .int)) 2 44 [.ref (a0), .int (p0), .int (p1)] σ (.inl (some (.int v))) τ := by
  unfold m_X10_path at hm
  obtain ⟨hg, hm⟩ := grw_e hm
  refine tMt_of (n := 0) rfl (Nat.le_of_ble_eq_true rfl) hg ?_
  intro p e s m below meth c C htab hin
  refine zx_lv [0, 1, 2] [(0, .ref (a0)), (1, .int (p0)), (2, .int (p1))] rfl ?_
  refine zx_iload_n C dX10_path_0 1 rfl ?_
  refine zx_if_eq C 9 dX10_path_1 (by decide) (fun c1 => ?_) (fun c1 => ?_)
  · replace hm := ip_e hm c1
    exact zx_lv [0, 1, 2] [(0, .ref (a0)), (1, .int (p0)), (2, .int (p1))] rfl (j_X10_path_9 C htab hin    hm)
  · replace hm := in_e hm c1
    refine zx_iload_n C dX10_path_4 1 rfl ?_
    refine zx_iconst (v := 1) C dX10_path_5 (by decide) ?_
    refine zx_icmp_ne C 24 dX10_path_6 (by decide) (fun c47 => ?_) (fun c47 => ?_)
    · replace hm := in_e hm c47
      exact zx_lv [0, 1, 2] [(0, .ref (a0)), (1, .int (p0)), (2, .int (p1))] rfl (j_X10_path_24 C htab hin    hm)
    · replace hm := ip_e hm c47
      exact zx_lv [0, 1, 2] [(0, .ref (a0)), (1, .int (p0)), (2, .int (p1))] rfl (j_X10_path_9 C htab hin    hm)
abbrev cX10_make : ByteArray := prog_1_method_9_code
def yX10_make : MethodName := ⟨"SyncTree", "make", "(II)I"⟩
theorem Y_X10_make : tY yX10_make cX10_make 4 (some .int) 2 := ⟨W_4_153, W_1_1, ⟨by decide +kernel, by decide +kernel⟩, by decide +kernel⟩
theorem dX10_make_0 : decode cX10_make 0 = .ok (.iload_n 2, 1) := by decide +kernel
theorem dX10_make_1 : decode cX10_make 1 = .ok (.ifCond .ge 5, 3) := by decide +kernel
theorem dX10_make_4 : decode cX10_make 4 = .ok (.iload_n 2, 1) := by decide +kernel
theorem dX10_make_5 : decode cX10_make 5 = .ok (.ireturn, 1) := by decide +kernel
theorem dX10_make_6 : decode cX10_make 6 = .ok (.aload_n 0, 1) := by decide +kernel
theorem dX10_make_7 : decode cX10_make 7 = .ok (.getfield 28, 3) := by decide +kernel
theorem dX10_make_10 : decode cX10_make 10 = .ok (.invokevirtual 139, 3) := by decide +kernel
theorem dX10_make_13 : decode cX10_make 13 = .ok (.istore_n 3, 1) := by decide +kernel
theorem dX10_make_14 : decode cX10_make 14 = .ok (.iload_n 3, 1) := by decide +kernel
theorem dX10_make_15 : decode cX10_make 15 = .ok (.ifCond .ge 6, 3) := by decide +kernel
theorem dX10_make_18 : decode cX10_make 18 = .ok (.bipush (-10), 2) := by decide +kernel
theorem dX10_make_20 : decode cX10_make 20 = .ok (.ireturn, 1) := by decide +kernel
theorem dX10_make_21 : decode cX10_make 21 = .ok (.aload_n 0, 1) := by decide +kernel
theorem dX10_make_22 : decode cX10_make 22 = .ok (.getfield 28, 3) := by decide +kernel
theorem dX10_make_25 : decode cX10_make 25 = .ok (.iload_n 2, 1) := by decide +kernel
theorem dX10_make_26 : decode cX10_make 26 = .ok (.invokevirtual 142, 3) := by decide +kernel
theorem dX10_make_29 : decode cX10_make 29 = .ok (.ifCond .ne 6, 3) := by decide +kernel
theorem dX10_make_32 : decode cX10_make 32 = .ok (.bipush (-6), 2) := by decide +kernel
theorem dX10_make_34 : decode cX10_make 34 = .ok (.ireturn, 1) := by decide +kernel
theorem dX10_make_35 : decode cX10_make 35 = .ok (.aload_n 0, 1) := by decide +kernel
theorem dX10_make_36 : decode cX10_make 36 = .ok (.getfield 28, 3) := by decide +kernel
theorem dX10_make_39 : decode cX10_make 39 = .ok (.iload_n 3, 1) := by decide +kernel
theorem dX10_make_40 : decode cX10_make 40 = .ok (.iload_n 1, 1) := by decide +kernel
theorem dX10_make_41 : decode cX10_make 41 = .ok (.iload_n 2, 1) := by decide +kernel
theorem dX10_make_42 : decode cX10_make 42 = .ok (.invokevirtual 93, 3) := by decide +kernel
theorem dX10_make_45 : decode cX10_make 45 = .ok (.iload_n 1, 1) := by decide +kernel
theorem dX10_make_46 : decode cX10_make 46 = .ok (.iconst 3, 1) := by decide +kernel
theorem dX10_make_47 : decode cX10_make 47 = .ok (.if_icmp .ne 15, 3) := by decide +kernel
theorem dX10_make_50 : decode cX10_make 50 = .ok (.aload_n 0, 1) := by decide +kernel
theorem dX10_make_51 : decode cX10_make 51 = .ok (.getfield 28, 3) := by decide +kernel
theorem dX10_make_54 : decode cX10_make 54 = .ok (.iload_n 3, 1) := by decide +kernel
theorem dX10_make_55 : decode cX10_make 55 = .ok (.aload_n 0, 1) := by decide +kernel
theorem dX10_make_56 : decode cX10_make 56 = .ok (.getfield 73, 3) := by decide +kernel
theorem dX10_make_59 : decode cX10_make 59 = .ok (.invokevirtual 145, 3) := by decide +kernel
theorem dX10_make_62 : decode cX10_make 62 = .ok (.aload_n 0, 1) := by decide +kernel
theorem dX10_make_63 : decode cX10_make 63 = .ok (.getfield 28, 3) := by decide +kernel
theorem dX10_make_66 : decode cX10_make 66 = .ok (.iload_n 2, 1) := by decide +kernel
theorem dX10_make_67 : decode cX10_make 67 = .ok (.aload_n 0, 1) := by decide +kernel
theorem dX10_make_68 : decode cX10_make 68 = .ok (.getfield 69, 3) := by decide +kernel
theorem dX10_make_71 : decode cX10_make 71 = .ok (.iload_n 3, 1) := by decide +kernel
theorem dX10_make_72 : decode cX10_make 72 = .ok (.invokevirtual 149, 3) := by decide +kernel
theorem dX10_make_75 : decode cX10_make 75 = .ok (.iload_n 3, 1) := by decide +kernel
theorem dX10_make_76 : decode cX10_make 76 = .ok (.ireturn, 1) := by decide +kernel
def J_X10_make_62 (b0 fu : Nat)  (x0 : Nat) (x2 : Int32) (x3 : Int32) (σ : tM) : Option ((Int32) × tM) := ckO b0 (σ) (x0) 10 (osm (tA (σ) (x0) 2) (fun a34 => osm (tA (σ) (x0) 7) (fun a36 => ckO b0 (σ) (a34) 8 (cll (m_X8_addEntry b0 fu (a34) (x2) (a36) (x3) (σ)) (fun v40 ρ41 => some (x3, ρ41))))))
def m_X10_make (b0 fu : Nat) (a0 : Nat) (p0 : Int32) (p1 : Int32) (σ : tM) : Option ((Int32) × tM) := grw σ (if (0) ≤ (p1) then ckO b0 (σ) (a0) 10 (osm (tA (σ) (a0) 2) (fun a4 => ckO b0 (σ) (a4) 8 (cll (m_X8_lowestUnused b0 fu (a4) (σ)) (fun v8 ρ9 => if (0) ≤ (v8) then ckO b0 (ρ9) (a0) 10 (osm (tA (ρ9) (a0) 2) (fun a14 => ckO b0 (ρ9) (a14) 8 (cll (m_X8_hasPlaceForEntry b0 fu (a14) (p1) (ρ9)) (fun v18 ρ19 => if (v18) = (0) then some ((-6), ρ19) else ckO b0 (ρ19) (a0) 10 (osm (tA (ρ19) (a0) 2) (fun a24 => ckO b0 (ρ19) (a24) 8 (cll (m_X8_setUp b0 fu (a24) (v8) (p0) (p1) (ρ19)) (fun v28 ρ29 => if (p0) = (3) then ckO b0 (ρ29) (a0) 10 (osm (tA (ρ29) (a0) 2) (fun a45 => osm (tA (ρ29) (a0) 8) (fun a47 => ckO b0 (ρ29) (a45) 8 (cll (m_X8_setText b0 fu (a45) (v8) (a47) (ρ29)) (fun v51 ρ52 => J_X10_make_62 b0 fu   (a0) (p1) (v8) (ρ52)))))) else J_X10_make_62 b0 fu   (a0) (p1) (v8) (ρ29))))))))) else some ((-10), ρ9))))) else some (p1, σ))
set_option maxRecDepth 100000 in
set_option maxHeartbeats 1000000 in
theorem j_X10_make_62 {p : Program} {l : Launch} {e : Env} {s : State} {m : MethodId} {args : Array Value} {below : List Frame} {meth : Method} {c : Code} {D : va_G} {aC : Nat → ClassId} {b0 fu : Nat} {σ0 τ : tM} {v : Int32}  (C : tCx p l s m args meth c yX10_make.cls cX10_make 4 (some .int) D aC b0 σ0) (htab : ∀ x ∈ c.exceptionTable.toList, False) (hin : meth.name = yX10_make.name)  {x0 : Nat} {x2 : Int32} {x3 : Int32} {σ : tM} (hm : J_X10_make_62 b0 fu  x0 x2 x3 σ = some (v, τ)) : tX p l e s m args below meth c 4 5 120 D aC b0 σ0 (.inl (some (.int v))) τ 62 [(0, .ref (x0)), (2, .int (x2)), (3, .int (x3))] [] σ := by
  unfold J_X10_make_62 at hm
  refine zx_aload_n C dX10_make_62 0 rfl ?_
  obtain ⟨k32, i33, hm⟩ := ckO_e hm
  obtain ⟨a34, h35, hm⟩ := osm_e hm
  refine zx_get (j := 2) C tC_10 k32 i33 ⟨by decide, Or.inl W_2_215⟩ dX10_make_63 (.ref a34) (rf_s h35) ?_
  refine zx_iload_n C dX10_make_66 1 rfl ?_
  refine zx_aload_n C dX10_make_67 0 rfl ?_
  obtain ⟨a36, h37, hm⟩ := osm_e hm
  refine zx_get (j := 7) C tC_10 k32 i33 ⟨by decide, Or.inl W_2_220⟩ dX10_make_68 (.ref a36) (rf_s h37) ?_
  refine zx_iload_n C dX10_make_71 2 rfl ?_
  obtain ⟨k38, i39, hm⟩ := ckO_e hm
  obtain ⟨v40, ρ41, h42, hm⟩ := cll_e hm
  refine zx_callV (σ := σ) C [.int (x2), .ref (a36), .int (x3)] tC_8 k38 i39 Y_X8_addEntry W_4_195 W_4_196 W_4_197 (c_X8_addEntry h42) (by decide) (by decide) rfl (Nat.le_of_ble_eq_true rfl) dX10_make_72 rfl ?_
  refine zx_iload_n C dX10_make_75 2 rfl ?_
  obtain ⟨rfl, rfl⟩ := ret_e hm
  exact zx_iret C rfl rfl rfl dX10_make_76
set_option maxRecDepth 100000 in
set_option maxHeartbeats 1000000 in
theorem c_X10_make {l : Launch} {D : va_G} {aC : Nat → ClassId} {b0 fu : Nat} {a0 : Nat} {p0 : Int32} {p1 : Int32} {σ τ : tM} {v : Int32} (hm : m_X10_make b0 fu a0 p0 p1 σ = some (v, τ)) : tMt l D aC b0 yX10_make (Cond.code yX10_make cX10_make 4 (some .int)) 5 120 [.ref (a0), .int (p0), .int (p1)] σ (.inl (some (.int v))) τ := by
  unfold m_X10_make at hm
  obtain ⟨hg, hm⟩ := grw_e hm
  refine tMt_of (n := 0) rfl (Nat.le_of_ble_eq_true rfl) hg ?_
  intro p e s m below meth c C htab hin
  refine zx_lv [0, 1, 2] [(0, .ref (a0)), (1, .int (p0)), (2, .int (p1))] rfl ?_
  refine zx_iload_n C dX10_make_0 2 rfl ?_
  refine zx_if_ge C 6 dX10_make_1 (by decide) (fun c1 => ?_) (fun c1 => ?_)
  · replace hm := ip_e hm c1
    refine zx_aload_n C dX10_make_6 0 rfl ?_
    obtain ⟨k2, i3, hm⟩ := ckO_e hm
    obtain ⟨a4, h5, hm⟩ := osm_e hm
    refine zx_get (j := 2) C tC_10 k2 i3 ⟨by decide, Or.inl W_2_215⟩ dX10_make_7 (.ref a4) (rf_s h5) ?_
    obtain ⟨k6, i7, hm⟩ := ckO_e hm
    obtain ⟨v8, ρ9, h10, hm⟩ := cll_e hm
    refine zx_callV (σ := σ) C [] tC_8 k6 i7 Y_X8_lowestUnused W_4_154 W_4_155 W_4_156 (c_X8_lowestUnused h10) (by decide) (by decide) rfl (Nat.le_of_ble_eq_true rfl) dX10_make_10 rfl ?_
    refine zx_istore_n C [(3, .int (v8)), (0, .ref (a0)), (1, .int (p0)), (2, .int (p1))] dX10_make_13 rfl (by decide) rfl ?_
    refine zx_iload_n C dX10_make_14 0 rfl ?_
    refine zx_if_ge C 21 dX10_make_15 (by decide) (fun c11 => ?_) (fun c11 => ?_)
    · replace hm := ip_e hm c11
      refine zx_aload_n C dX10_make_21 1 rfl ?_
      obtain ⟨k12, i13, hm⟩ := ckO_e hm
      obtain ⟨a14, h15, hm⟩ := osm_e hm
      refine zx_get (j := 2) C tC_10 k12 i13 ⟨by decide, Or.inl W_2_215⟩ dX10_make_22 (.ref a14) (rf_s h15) ?_
      refine zx_iload_n C dX10_make_25 3 rfl ?_
      obtain ⟨k16, i17, hm⟩ := ckO_e hm
      obtain ⟨v18, ρ19, h20, hm⟩ := cll_e hm
      refine zx_callV (σ := ρ9) C [.int (p1)] tC_8 k16 i17 Y_X8_hasPlaceForEntry W_4_158 W_4_159 W_4_160 (c_X8_hasPlaceForEntry h20) (by decide) (by decide) rfl (Nat.le_of_ble_eq_true rfl) dX10_make_26 rfl ?_
      refine zx_if_ne C 35 dX10_make_29 (by decide) (fun c21 => ?_) (fun c21 => ?_)
      · replace hm := in_e hm c21
        refine zx_aload_n C dX10_make_35 1 rfl ?_
        obtain ⟨k22, i23, hm⟩ := ckO_e hm
        obtain ⟨a24, h25, hm⟩ := osm_e hm
        refine zx_get (j := 2) C tC_10 k22 i23 ⟨by decide, Or.inl W_2_215⟩ dX10_make_36 (.ref a24) (rf_s h25) ?_
        refine zx_iload_n C dX10_make_39 0 rfl ?_
        refine zx_iload_n C dX10_make_40 2 rfl ?_
        refine zx_iload_n C dX10_make_41 3 rfl ?_
        obtain ⟨k26, i27, hm⟩ := ckO_e hm
        obtain ⟨v28, ρ29, h30, hm⟩ := cll_e hm
        refine zx_callV (σ := ρ19) C [.int (v8), .int (p0), .int (p1)] tC_8 k26 i27 Y_X8_setUp W_2_144 W_2_145 W_2_146 (c_X8_setUp h30) (by decide) (by decide) rfl (Nat.le_of_ble_eq_true rfl) dX10_make_42 rfl ?_
        refine zx_iload_n C dX10_make_45 2 rfl ?_
        refine zx_iconst (v := 3) C dX10_make_46 (by decide) ?_
        refine zx_icmp_ne C 62 dX10_make_47 (by decide) (fun c31 => ?_) (fun c31 => ?_)
        · replace hm := in_e hm c31
          exact zx_lv [1, 3, 0] [(0, .ref (a0)), (2, .int (p1)), (3, .int (v8))] rfl (j_X10_make_62 C htab hin    hm)
        · replace hm := ip_e hm c31
          refine zx_aload_n C dX10_make_50 1 rfl ?_
          obtain ⟨k43, i44, hm⟩ := ckO_e hm
          obtain ⟨a45, h46, hm⟩ := osm_e hm
          refine zx_get (j := 2) C tC_10 k43 i44 ⟨by decide, Or.inl W_2_215⟩ dX10_make_51 (.ref a45) (rf_s h46) ?_
          refine zx_iload_n C dX10_make_54 0 rfl ?_
          refine zx_aload_n C dX10_make_55 1 rfl ?_
          obtain ⟨a47, h48, hm⟩ := osm_e hm
          refine zx_get (j := 8) C tC_10 k43 i44 ⟨by decide, Or.inl W_2_221⟩ dX10_make_56 (.ref a47) (rf_s h48) ?_
          obtain ⟨k49, i50, hm⟩ := ckO_e hm
          obtain ⟨v51, ρ52, h53, hm⟩ := cll_e hm
          refine zx_callV (σ := ρ29) C [.int (v8), .ref (a47)] tC_8 k49 i50 Y_X8_setText W_4_175 W_4_176 W_4_177 (c_X8_setText h53) (by decide) (by decide) rfl (Nat.le_of_ble_eq_true rfl) dX10_make_59 rfl ?_
          exact zx_lv [1, 3, 0] [(0, .ref (a0)), (2, .int (p1)), (3, .int (v8))] rfl (j_X10_make_62 C htab hin    hm)
      · replace hm := ip_e hm c21
        refine zx_bipush (v := (-6)) C dX10_make_32 (by decide) ?_
        obtain ⟨rfl, rfl⟩ := ret_e hm
        exact zx_iret C rfl rfl rfl dX10_make_34
    · replace hm := in_e hm c11
      refine zx_bipush (v := (-10)) C dX10_make_18 (by decide) ?_
      obtain ⟨rfl, rfl⟩ := ret_e hm
      exact zx_iret C rfl rfl rfl dX10_make_20
  · replace hm := in_e hm c1
    refine zx_iload_n C dX10_make_4 2 rfl ?_
    obtain ⟨rfl, rfl⟩ := ret_e hm
    exact zx_iret C rfl rfl rfl dX10_make_5
abbrev cX10_refuseMove : ByteArray := prog_1_method_16_code
def yX10_refuseMove : MethodName := ⟨"SyncTree", "refuseMove", "(III)I"⟩
theorem Y_X10_refuseMove : tY yX10_refuseMove cX10_refuseMove 4 (some .int) 3 := ⟨W_5_109, W_1_1, ⟨by decide +kernel, by decide +kernel⟩, by decide +kernel⟩
theorem dX10_refuseMove_0 : decode cX10_refuseMove 0 = .ok (.aload_n 0, 1) := by decide +kernel
theorem dX10_refuseMove_1 : decode cX10_refuseMove 1 = .ok (.getfield 28, 3) := by decide +kernel
theorem dX10_refuseMove_4 : decode cX10_refuseMove 4 = .ok (.iload_n 1, 1) := by decide +kernel
theorem dX10_refuseMove_5 : decode cX10_refuseMove 5 = .ok (.invokevirtual 168, 3) := by decide +kernel
theorem dX10_refuseMove_8 : decode cX10_refuseMove 8 = .ok (.iconst 2, 1) := by decide +kernel
theorem dX10_refuseMove_9 : decode cX10_refuseMove 9 = .ok (.if_icmp .ne 55, 3) := by decide +kernel
theorem dX10_refuseMove_12 : decode cX10_refuseMove 12 = .ok (.aload_n 0, 1) := by decide +kernel
theorem dX10_refuseMove_13 : decode cX10_refuseMove 13 = .ok (.getfield 28, 3) := by decide +kernel
theorem dX10_refuseMove_16 : decode cX10_refuseMove 16 = .ok (.iload_n 2, 1) := by decide +kernel
theorem dX10_refuseMove_17 : decode cX10_refuseMove 17 = .ok (.iload_n 1, 1) := by decide +kernel
theorem dX10_refuseMove_18 : decode cX10_refuseMove 18 = .ok (.invokevirtual 211, 3) := by decide +kernel
theorem dX10_refuseMove_21 : decode cX10_refuseMove 21 = .ok (.ifCond .eq 6, 3) := by decide +kernel
theorem dX10_refuseMove_24 : decode cX10_refuseMove 24 = .ok (.bipush (-9), 2) := by decide +kernel
theorem dX10_refuseMove_26 : decode cX10_refuseMove 26 = .ok (.ireturn, 1) := by decide +kernel
theorem dX10_refuseMove_27 : decode cX10_refuseMove 27 = .ok (.iload_n 3, 1) := by decide +kernel
theorem dX10_refuseMove_28 : decode cX10_refuseMove 28 = .ok (.ifCond .lt 18, 3) := by decide +kernel
theorem dX10_refuseMove_31 : decode cX10_refuseMove 31 = .ok (.aload_n 0, 1) := by decide +kernel
theorem dX10_refuseMove_32 : decode cX10_refuseMove 32 = .ok (.getfield 28, 3) := by decide +kernel
theorem dX10_refuseMove_35 : decode cX10_refuseMove 35 = .ok (.iload_n 3, 1) := by decide +kernel
theorem dX10_refuseMove_36 : decode cX10_refuseMove 36 = .ok (.invokevirtual 168, 3) := by decide +kernel
theorem dX10_refuseMove_39 : decode cX10_refuseMove 39 = .ok (.iconst 2, 1) := by decide +kernel
theorem dX10_refuseMove_40 : decode cX10_refuseMove 40 = .ok (.if_icmp .eq 6, 3) := by decide +kernel
theorem dX10_refuseMove_43 : decode cX10_refuseMove 43 = .ok (.bipush (-3), 2) := by decide +kernel
theorem dX10_refuseMove_45 : decode cX10_refuseMove 45 = .ok (.ireturn, 1) := by decide +kernel
theorem dX10_refuseMove_46 : decode cX10_refuseMove 46 = .ok (.iload_n 3, 1) := by decide +kernel
theorem dX10_refuseMove_47 : decode cX10_refuseMove 47 = .ok (.ifCond .lt 36, 3) := by decide +kernel
theorem dX10_refuseMove_50 : decode cX10_refuseMove 50 = .ok (.aload_n 0, 1) := by decide +kernel
theorem dX10_refuseMove_51 : decode cX10_refuseMove 51 = .ok (.getfield 28, 3) := by decide +kernel
theorem dX10_refuseMove_54 : decode cX10_refuseMove 54 = .ok (.iload_n 3, 1) := by decide +kernel
theorem dX10_refuseMove_55 : decode cX10_refuseMove 55 = .ok (.invokevirtual 193, 3) := by decide +kernel
theorem dX10_refuseMove_58 : decode cX10_refuseMove 58 = .ok (.ifCond .eq 25, 3) := by decide +kernel
theorem dX10_refuseMove_61 : decode cX10_refuseMove 61 = .ok (.bipush (-5), 2) := by decide +kernel
theorem dX10_refuseMove_63 : decode cX10_refuseMove 63 = .ok (.ireturn, 1) := by decide +kernel
theorem dX10_refuseMove_64 : decode cX10_refuseMove 64 = .ok (.iload_n 3, 1) := by decide +kernel
theorem dX10_refuseMove_65 : decode cX10_refuseMove 65 = .ok (.ifCond .lt 18, 3) := by decide +kernel
theorem dX10_refuseMove_68 : decode cX10_refuseMove 68 = .ok (.aload_n 0, 1) := by decide +kernel
theorem dX10_refuseMove_69 : decode cX10_refuseMove 69 = .ok (.getfield 28, 3) := by decide +kernel
theorem dX10_refuseMove_72 : decode cX10_refuseMove 72 = .ok (.iload_n 3, 1) := by decide +kernel
theorem dX10_refuseMove_73 : decode cX10_refuseMove 73 = .ok (.invokevirtual 168, 3) := by decide +kernel
theorem dX10_refuseMove_76 : decode cX10_refuseMove 76 = .ok (.iconst 2, 1) := by decide +kernel
theorem dX10_refuseMove_77 : decode cX10_refuseMove 77 = .ok (.if_icmp .ne 6, 3) := by decide +kernel
theorem dX10_refuseMove_80 : decode cX10_refuseMove 80 = .ok (.bipush (-4), 2) := by decide +kernel
theorem dX10_refuseMove_82 : decode cX10_refuseMove 82 = .ok (.ireturn, 1) := by decide +kernel
theorem dX10_refuseMove_83 : decode cX10_refuseMove 83 = .ok (.iload_n 3, 1) := by decide +kernel
theorem dX10_refuseMove_84 : decode cX10_refuseMove 84 = .ok (.ifCond .ge 19, 3) := by decide +kernel
theorem dX10_refuseMove_87 : decode cX10_refuseMove 87 = .ok (.aload_n 0, 1) := by decide +kernel
theorem dX10_refuseMove_88 : decode cX10_refuseMove 88 = .ok (.getfield 28, 3) := by decide +kernel
theorem dX10_refuseMove_91 : decode cX10_refuseMove 91 = .ok (.iload_n 2, 1) := by decide +kernel
theorem dX10_refuseMove_92 : decode cX10_refuseMove 92 = .ok (.invokevirtual 142, 3) := by decide +kernel
theorem dX10_refuseMove_95 : decode cX10_refuseMove 95 = .ok (.ifCond .ne 8, 3) := by decide +kernel
theorem dX10_refuseMove_98 : decode cX10_refuseMove 98 = .ok (.bipush (-6), 2) := by decide +kernel
theorem dX10_refuseMove_100 : decode cX10_refuseMove 100 = .ok (.goto 4, 3) := by decide +kernel
theorem dX10_refuseMove_103 : decode cX10_refuseMove 103 = .ok (.iconst 0, 1) := by decide +kernel
theorem dX10_refuseMove_104 : decode cX10_refuseMove 104 = .ok (.ireturn, 1) := by decide +kernel
def J_X10_refuseMove_104 (b0 fu : Nat)  (s0 : Int32) (σ : tM) : Option ((Int32) × tM) := some (s0, σ)
def J_X10_refuseMove_103 (b0 fu : Nat)   (σ : tM) : Option ((Int32) × tM) := J_X10_refuseMove_104 b0 fu   (0) (σ)
def J_X10_refuseMove_83 (b0 fu : Nat)  (x0 : Nat) (x2 : Int32) (x3 : Int32) (σ : tM) : Option ((Int32) × tM) := if (0) ≤ (x3) then J_X10_refuseMove_103 b0 fu    (σ) else ckO b0 (σ) (x0) 10 (osm (tA (σ) (x0) 2) (fun a15 => ckO b0 (σ) (a15) 8 (cll (m_X8_hasPlaceForEntry b0 fu (a15) (x2) (σ)) (fun v19 ρ20 => if (v19) = (0) then J_X10_refuseMove_104 b0 fu   ((-6)) (ρ20) else J_X10_refuseMove_103 b0 fu    (ρ20)))))
def J_X10_refuseMove_46 (b0 fu : Nat)  (x0 : Nat) (x2 : Int32) (x3 : Int32) (σ : tM) : Option ((Int32) × tM) := if (x3) < (0) then J_X10_refuseMove_83 b0 fu   (x0) (x2) (x3) (σ) else ckO b0 (σ) (x0) 10 (osm (tA (σ) (x0) 2) (fun a47 => ckO b0 (σ) (a47) 8 (cll (m_X8_countEntries b0 fu (a47) (x3) (σ)) (fun v51 ρ52 => if (v51) = (0) then J_X10_refuseMove_83 b0 fu   (x0) (x2) (x3) (ρ52) else some ((-5), ρ52)))))
def m_X10_refuseMove (b0 fu : Nat) (a0 : Nat) (p0 : Int32) (p1 : Int32) (p2 : Int32) (σ : tM) : Option ((Int32) × tM) := grw σ (ckO b0 (σ) (a0) 10 (osm (tA (σ) (a0) 2) (fun a3 => ckO b0 (σ) (a3) 8 (cll (m_X8_kind b0 fu (a3) (p0) (σ)) (fun v7 ρ8 => if (v7) = (2) then ckO b0 (ρ8) (a0) 10 (osm (tA (ρ8) (a0) 2) (fun a35 => ckO b0 (ρ8) (a35) 8 (cll (m_X8_isWithin b0 fu (a35) (p1) (p0) (ρ8)) (fun v39 ρ40 => if (v39) = (0) then if (p2) < (0) then J_X10_refuseMove_46 b0 fu   (a0) (p1) (p2) (ρ40) else ckO b0 (ρ40) (a0) 10 (osm (tA (ρ40) (a0) 2) (fun a57 => ckO b0 (ρ40) (a57) 8 (cll (m_X8_kind b0 fu (a57) (p2) (ρ40)) (fun v61 ρ62 => if (v61) = (2) then J_X10_refuseMove_46 b0 fu   (a0) (p1) (p2) (ρ62) else some ((-3), ρ62))))) else some ((-9), ρ40))))) else if (p2) < (0) then J_X10_refuseMove_83 b0 fu   (a0) (p1) (p2) (ρ8) else ckO b0 (ρ8) (a0) 10 (osm (tA (ρ8) (a0) 2) (fun a25 => ckO b0 (ρ8) (a25) 8 (cll (m_X8_kind b0 fu (a25) (p2) (ρ8)) (fun v29 ρ30 => if (v29) = (2) then some ((-4), ρ30) else J_X10_refuseMove_83 b0 fu   (a0) (p1) (p2) (ρ30))))))))))
set_option maxRecDepth 100000 in
set_option maxHeartbeats 1000000 in
theorem j_X10_refuseMove_104 {p : Program} {l : Launch} {e : Env} {s : State} {m : MethodId} {args : Array Value} {below : List Frame} {meth : Method} {c : Code} {D : va_G} {aC : Nat → ClassId} {b0 fu : Nat} {σ0 τ : tM} {v : Int32}  (C : tCx p l s m args meth c yX10_refuseMove.cls cX10_refuseMove 4 (some .int) D aC b0 σ0) (htab : ∀ x ∈ c.exceptionTable.toList, False) (hin : meth.name = yX10_refuseMove.name)  {s0 : Int32} {σ : tM} (hm : J_X10_refuseMove_104 b0 fu  s0 σ = some (v, τ)) : tX p l e s m args below meth c 4 5 114 D aC b0 σ0 (.inl (some (.int v))) τ 104 [] [.int (s0)] σ := by
  unfold J_X10_refuseMove_104 at hm
  obtain ⟨rfl, rfl⟩ := ret_e hm
  exact zx_iret C rfl rfl rfl dX10_refuseMove_104
set_option maxRecDepth 100000 in
set_option maxHeartbeats 1000000 in
theorem j_X10_refuseMove_103 {p : Program} {l : Launch} {e : Env} {s : State} {m : MethodId} {args : Array Value} {below : List Frame} {meth : Method} {c : Code} {D : va_G} {aC : Nat → ClassId} {b0 fu : Nat} {σ0 τ : tM} {v : Int32}  (C : tCx p l s m args meth c yX10_refuseMove.cls cX10_refuseMove 4 (some .int) D aC b0 σ0) (htab : ∀ x ∈ c.exceptionTable.toList, False) (hin : meth.name = yX10_refuseMove.name)   {σ : tM} (hm : J_X10_refuseMove_103 b0 fu   σ = some (v, τ)) : tX p l e s m args below meth c 4 5 114 D aC b0 σ0 (.inl (some (.int v))) τ 103 [] [] σ := by
  unfold J_X10_refuseMove_103 at hm
  refine zx_iconst (v := 0) C dX10_refuseMove_103 (by decide) ?_
  exact zx_lv [] [] rfl (j_X10_refuseMove_104 C htab hin    hm)
set_option maxRecDepth 100000 in
set_option maxHeartbeats 1000000 in
theorem j_X10_refuseMove_83 {p : Program} {l : Launch} {e : Env} {s : State} {m : MethodId} {args : Array Value} {below : List Frame} {meth : Method} {c : Code} {D : va_G} {aC : Nat → ClassId} {b0 fu : Nat} {σ0 τ : tM} {v : Int32}  (C : tCx p l s m args meth c yX10_refuseMove.cls cX10_refuseMove 4 (some .int) D aC b0 σ0) (htab : ∀ x ∈ c.exceptionTable.toList, False) (hin : meth.name = yX10_refuseMove.name)  {x0 : Nat} {x2 : Int32} {x3 : Int32} {σ : tM} (hm : J_X10_refuseMove_83 b0 fu  x0 x2 x3 σ = some (v, τ)) : tX p l e s m args below meth c 4 5 114 D aC b0 σ0 (.inl (some (.int v))) τ 83 [(0, .ref (x0)), (2, .int (x2)), (3, .int (x3))] [] σ := by
  unfold J_X10_refuseMove_83 at hm
  refine zx_iload_n C dX10_refuseMove_83 2 rfl ?_
  refine zx_if_ge C 103 dX10_refuseMove_84 (by decide) (fun c12 => ?_) (fun c12 => ?_)
  · replace hm := ip_e hm c12
    exact zx_lv [] [] rfl (j_X10_refuseMove_103 C htab hin    hm)
  · replace hm := in_e hm c12
    refine zx_aload_n C dX10_refuseMove_87 0 rfl ?_
    obtain ⟨k13, i14, hm⟩ := ckO_e hm
    obtain ⟨a15, h16, hm⟩ := osm_e hm
    refine zx_get (j := 2) C tC_10 k13 i14 ⟨by decide, Or.inl W_2_215⟩ dX10_refuseMove_88 (.ref a15) (rf_s h16) ?_
    refine zx_iload_n C dX10_refuseMove_91 1 rfl ?_
    obtain ⟨k17, i18, hm⟩ := ckO_e hm
    obtain ⟨v19, ρ20, h21, hm⟩ := cll_e hm
    refine zx_callV (σ := σ) C [.int (x2)] tC_8 k17 i18 Y_X8_hasPlaceForEntry W_4_158 W_4_159 W_4_160 (c_X8_hasPlaceForEntry h21) (by decide) (by decide) rfl (Nat.le_of_ble_eq_true rfl) dX10_refuseMove_92 rfl ?_
    refine zx_if_ne C 103 dX10_refuseMove_95 (by decide) (fun c22 => ?_) (fun c22 => ?_)
    · replace hm := in_e hm c22
      exact zx_lv [] [] rfl (j_X10_refuseMove_103 C htab hin    hm)
    · replace hm := ip_e hm c22
      refine zx_bipush (v := (-6)) C dX10_refuseMove_98 (by decide) ?_
      refine zx_goto C 104 dX10_refuseMove_100 (by decide) ?_
      exact zx_lv [] [] rfl (j_X10_refuseMove_104 C htab hin    hm)
set_option maxRecDepth 100000 in
set_option maxHeartbeats 1000000 in
theorem j_X10_refuseMove_46 {p : Program} {l : Launch} {e : Env} {s : State} {m : MethodId} {args : Array Value} {below : List Frame} {meth : Method} {c : Code} {D : va_G} {aC : Nat → ClassId} {b0 fu : Nat} {σ0 τ : tM} {v : Int32}  (C : tCx p l s m args meth c yX10_refuseMove.cls cX10_refuseMove 4 (some .int) D aC b0 σ0) (htab : ∀ x ∈ c.exceptionTable.toList, False) (hin : meth.name = yX10_refuseMove.name)  {x0 : Nat} {x2 : Int32} {x3 : Int32} {σ : tM} (hm : J_X10_refuseMove_46 b0 fu  x0 x2 x3 σ = some (v, τ)) : tX p l e s m args below meth c 4 5 114 D aC b0 σ0 (.inl (some (.int v))) τ 46 [(0, .ref (x0)), (2, .int (x2)), (3, .int (x3))] [] σ := by
  unfold J_X10_refuseMove_46 at hm
  refine zx_iload_n C dX10_refuseMove_46 2 rfl ?_
  refine zx_if_lt C 83 dX10_refuseMove_47 (by decide) (fun c44 => ?_) (fun c44 => ?_)
  · replace hm := ip_e hm c44
    exact zx_lv [0, 1, 2] [(0, .ref (x0)), (2, .int (x2)), (3, .int (x3))] rfl (j_X10_refuseMove_83 C htab hin    hm)
  · replace hm := in_e hm c44
    refine zx_aload_n C dX10_refuseMove_50 0 rfl ?_
    obtain ⟨k45, i46, hm⟩ := ckO_e hm
    obtain ⟨a47, h48, hm⟩ := osm_e hm
    refine zx_get (j := 2) C tC_10 k45 i46 ⟨by decide, Or.inl W_2_215⟩ dX10_refuseMove_51 (.ref a47) (rf_s h48) ?_
    refine zx_iload_n C dX10_refuseMove_54 2 rfl ?_
    obtain ⟨k49, i50, hm⟩ := ckO_e hm
    obtain ⟨v51, ρ52, h53, hm⟩ := cll_e hm
    refine zx_callV (σ := σ) C [.int (x3)] tC_8 k49 i50 Y_X8_countEntries W_5_95 W_5_96 W_5_97 (c_X8_countEntries h53) (by decide) (by decide) rfl (Nat.le_of_ble_eq_true rfl) dX10_refuseMove_55 rfl ?_
    refine zx_if_eq C 83 dX10_refuseMove_58 (by decide) (fun c54 => ?_) (fun c54 => ?_)
    · replace hm := ip_e hm c54
      exact zx_lv [0, 1, 2] [(0, .ref (x0)), (2, .int (x2)), (3, .int (x3))] rfl (j_X10_refuseMove_83 C htab hin    hm)
    · replace hm := in_e hm c54
      refine zx_bipush (v := (-5)) C dX10_refuseMove_61 (by decide) ?_
      obtain ⟨rfl, rfl⟩ := ret_e hm
      exact zx_iret C rfl rfl rfl dX10_refuseMove_63
set_option maxRecDepth 100000 in
set_option maxHeartbeats 1000000 in
theorem c_X10_refuseMove {l : Launch} {D : va_G} {aC : Nat → ClassId} {b0 fu : Nat} {a0 : Nat} {p0 : Int32} {p1 : Int32} {p2 : Int32} {σ τ : tM} {v : Int32} (hm : m_X10_refuseMove b0 fu a0 p0 p1 p2 σ = some (v, τ)) : tMt l D aC b0 yX10_refuseMove (Cond.code yX10_refuseMove cX10_refuseMove 4 (some .int)) 5 114 [.ref (a0), .int (p0), .int (p1), .int (p2)] σ (.inl (some (.int v))) τ := by
  unfold m_X10_refuseMove at hm
  obtain ⟨hg, hm⟩ := grw_e hm
  refine tMt_of (n := 0) rfl (Nat.le_of_ble_eq_true rfl) hg ?_
  intro p e s m below meth c C htab hin
  refine zx_lv [0, 1, 2, 3] [(0, .ref (a0)), (1, .int (p0)), (2, .int (p1)), (3, .int (p2))] rfl ?_
  refine zx_aload_n C dX10_refuseMove_0 0 rfl ?_
  obtain ⟨k1, i2, hm⟩ := ckO_e hm
  obtain ⟨a3, h4, hm⟩ := osm_e hm
  refine zx_get (j := 2) C tC_10 k1 i2 ⟨by decide, Or.inl W_2_215⟩ dX10_refuseMove_1 (.ref a3) (rf_s h4) ?_
  refine zx_iload_n C dX10_refuseMove_4 1 rfl ?_
  obtain ⟨k5, i6, hm⟩ := ckO_e hm
  obtain ⟨v7, ρ8, h9, hm⟩ := cll_e hm
  refine zx_callV (σ := σ) C [.int (p0)] tC_8 k5 i6 Y_X8_kind W_5_14 W_3_80 W_3_81 (c_X8_kind h9) (by decide) (by decide) rfl (Nat.le_of_ble_eq_true rfl) dX10_refuseMove_5 rfl ?_
  refine zx_iconst (v := 2) C dX10_refuseMove_8 (by decide) ?_
  refine zx_icmp_ne C 64 dX10_refuseMove_9 (by decide) (fun c10 => ?_) (fun c10 => ?_)
  · replace hm := in_e hm c10
    refine zx_iload_n C dX10_refuseMove_64 3 rfl ?_
    refine zx_if_lt C 83 dX10_refuseMove_65 (by decide) (fun c11 => ?_) (fun c11 => ?_)
    · replace hm := ip_e hm c11
      exact zx_lv [0, 2, 3] [(0, .ref (a0)), (2, .int (p1)), (3, .int (p2))] rfl (j_X10_refuseMove_83 C htab hin    hm)
    · replace hm := in_e hm c11
      refine zx_aload_n C dX10_refuseMove_68 0 rfl ?_
      obtain ⟨k23, i24, hm⟩ := ckO_e hm
      obtain ⟨a25, h26, hm⟩ := osm_e hm
      refine zx_get (j := 2) C tC_10 k23 i24 ⟨by decide, Or.inl W_2_215⟩ dX10_refuseMove_69 (.ref a25) (rf_s h26) ?_
      refine zx_iload_n C dX10_refuseMove_72 3 rfl ?_
      obtain ⟨k27, i28, hm⟩ := ckO_e hm
      obtain ⟨v29, ρ30, h31, hm⟩ := cll_e hm
      refine zx_callV (σ := ρ8) C [.int (p2)] tC_8 k27 i28 Y_X8_kind W_5_14 W_3_80 W_3_81 (c_X8_kind h31) (by decide) (by decide) rfl (Nat.le_of_ble_eq_true rfl) dX10_refuseMove_73 rfl ?_
      refine zx_iconst (v := 2) C dX10_refuseMove_76 (by decide) ?_
      refine zx_icmp_ne C 83 dX10_refuseMove_77 (by decide) (fun c32 => ?_) (fun c32 => ?_)
      · replace hm := in_e hm c32
        exact zx_lv [0, 2, 3] [(0, .ref (a0)), (2, .int (p1)), (3, .int (p2))] rfl (j_X10_refuseMove_83 C htab hin    hm)
      · replace hm := ip_e hm c32
        refine zx_bipush (v := (-4)) C dX10_refuseMove_80 (by decide) ?_
        obtain ⟨rfl, rfl⟩ := ret_e hm
        exact zx_iret C rfl rfl rfl dX10_refuseMove_82
  · replace hm := ip_e hm c10
    refine zx_aload_n C dX10_refuseMove_12 0 rfl ?_
    obtain ⟨k33, i34, hm⟩ := ckO_e hm
    obtain ⟨a35, h36, hm⟩ := osm_e hm
    refine zx_get (j := 2) C tC_10 k33 i34 ⟨by decide, Or.inl W_2_215⟩ dX10_refuseMove_13 (.ref a35) (rf_s h36) ?_
    refine zx_iload_n C dX10_refuseMove_16 2 rfl ?_
    refine zx_iload_n C dX10_refuseMove_17 1 rfl ?_
    obtain ⟨k37, i38, hm⟩ := ckO_e hm
    obtain ⟨v39, ρ40, h41, hm⟩ := cll_e hm
    refine zx_callV (σ := ρ8) C [.int (p1), .int (p0)] tC_8 k37 i38 Y_X8_isWithin W_5_110 W_5_111 W_5_112 (c_X8_isWithin h41) (by decide) (by decide) rfl (Nat.le_of_ble_eq_true rfl) dX10_refuseMove_18 rfl ?_
    refine zx_if_eq C 27 dX10_refuseMove_21 (by decide) (fun c42 => ?_) (fun c42 => ?_)
    · replace hm := ip_e hm c42
      refine zx_iload_n C dX10_refuseMove_27 3 rfl ?_
      refine zx_if_lt C 46 dX10_refuseMove_28 (by decide) (fun c43 => ?_) (fun c43 => ?_)
      · replace hm := ip_e hm c43
        exact zx_lv [0, 2, 3] [(0, .ref (a0)), (2, .int (p1)), (3, .int (p2))] rfl (j_X10_refuseMove_46 C htab hin    hm)
      · replace hm := in_e hm c43
        refine zx_aload_n C dX10_refuseMove_31 0 rfl ?_
        obtain ⟨k55, i56, hm⟩ := ckO_e hm
        obtain ⟨a57, h58, hm⟩ := osm_e hm
        refine zx_get (j := 2) C tC_10 k55 i56 ⟨by decide, Or.inl W_2_215⟩ dX10_refuseMove_32 (.ref a57) (rf_s h58) ?_
        refine zx_iload_n C dX10_refuseMove_35 3 rfl ?_
        obtain ⟨k59, i60, hm⟩ := ckO_e hm
        obtain ⟨v61, ρ62, h63, hm⟩ := cll_e hm
        refine zx_callV (σ := ρ40) C [.int (p2)] tC_8 k59 i60 Y_X8_kind W_5_14 W_3_80 W_3_81 (c_X8_kind h63) (by decide) (by decide) rfl (Nat.le_of_ble_eq_true rfl) dX10_refuseMove_36 rfl ?_
        refine zx_iconst (v := 2) C dX10_refuseMove_39 (by decide) ?_
        refine zx_icmp_eq C 46 dX10_refuseMove_40 (by decide) (fun c64 => ?_) (fun c64 => ?_)
        · replace hm := ip_e hm c64
          exact zx_lv [0, 2, 3] [(0, .ref (a0)), (2, .int (p1)), (3, .int (p2))] rfl (j_X10_refuseMove_46 C htab hin    hm)
        · replace hm := in_e hm c64
          refine zx_bipush (v := (-3)) C dX10_refuseMove_43 (by decide) ?_
          obtain ⟨rfl, rfl⟩ := ret_e hm
          exact zx_iret C rfl rfl rfl dX10_refuseMove_45
    · replace hm := in_e hm c42
      refine zx_bipush (v := (-9)) C dX10_refuseMove_24 (by decide) ?_
      obtain ⟨rfl, rfl⟩ := ret_e hm
      exact zx_iret C rfl rfl rfl dX10_refuseMove_26
abbrev cX12_putNode : ByteArray := prog_13_method_5_code
def yX12_putNode : MethodName := ⟨"SyncTreeModel", "putNode", "(III)V"⟩
theorem Y_X12_putNode : tY yX12_putNode cX12_putNode 4 none 3 := ⟨W_8_102, W_1_14, ⟨by decide +kernel, by decide +kernel⟩, by decide +kernel⟩
theorem dX12_putNode_0 : decode cX12_putNode 0 = .ok (.aload_n 0, 1) := by decide +kernel
theorem dX12_putNode_1 : decode cX12_putNode 1 = .ok (.iload_n 1, 1) := by decide +kernel
theorem dX12_putNode_2 : decode cX12_putNode 2 = .ok (.bipush 95, 2) := by decide +kernel
theorem dX12_putNode_4 : decode cX12_putNode 4 = .ok (.imul, 1) := by decide +kernel
theorem dX12_putNode_5 : decode cX12_putNode 5 = .ok (.iload_n 2, 1) := by decide +kernel
theorem dX12_putNode_6 : decode cX12_putNode 6 = .ok (.iadd, 1) := by decide +kernel
theorem dX12_putNode_7 : decode cX12_putNode 7 = .ok (.iload_n 3, 1) := by decide +kernel
theorem dX12_putNode_8 : decode cX12_putNode 8 = .ok (.invokevirtual 30, 3) := by decide +kernel
theorem dX12_putNode_11 : decode cX12_putNode 11 = .ok (.aload_n 0, 1) := by decide +kernel
theorem dX12_putNode_12 : decode cX12_putNode 12 = .ok (.iconst 2, 1) := by decide +kernel
theorem dX12_putNode_13 : decode cX12_putNode 13 = .ok (.iload_n 1, 1) := by decide +kernel
theorem dX12_putNode_14 : decode cX12_putNode 14 = .ok (.iconst 2, 1) := by decide +kernel
theorem dX12_putNode_15 : decode cX12_putNode 15 = .ok (.idiv, 1) := by decide +kernel
theorem dX12_putNode_16 : decode cX12_putNode 16 = .ok (.iadd, 1) := by decide +kernel
theorem dX12_putNode_17 : decode cX12_putNode 17 = .ok (.invokevirtual 34, 3) := by decide +kernel
theorem dX12_putNode_20 : decode cX12_putNode 20 = .ok (.return_, 1) := by decide +kernel
def m_X12_putNode (b0 fu : Nat) (a0 : Nat) (p0 : Int32) (p1 : Int32) (p2 : Int32) (σ : tM) : Option ((Unit) × tM) := grw σ (ckO b0 (σ) (a0) 11 (cll (m_X12_put b0 fu (a0) (((p0) * (95)) + (p1)) (p2) (σ)) (fun v3 ρ4 => ckO b0 (ρ4) (a0) 11 (cll (m_X12_touch b0 fu (a0) ((2) + ((p0) / (2))) (ρ4)) (fun v8 ρ9 => some ((), ρ9))))))
set_option maxRecDepth 100000 in
set_option maxHeartbeats 1000000 in
theorem c_X12_putNode {l : Launch} {D : va_G} {aC : Nat → ClassId} {b0 fu : Nat} {a0 : Nat} {p0 : Int32} {p1 : Int32} {p2 : Int32} {σ τ : tM} {v : Unit} (hm : m_X12_putNode b0 fu a0 p0 p1 p2 σ = some (v, τ)) : tMt l D aC b0 yX12_putNode (Cond.code yX12_putNode cX12_putNode 4 none) 3 70 [.ref (a0), .int (p0), .int (p1), .int (p2)] σ (.inl none) τ := by
  unfold m_X12_putNode at hm
  obtain ⟨hg, hm⟩ := grw_e hm
  refine tMt_of (n := 0) rfl (Nat.le_of_ble_eq_true rfl) hg ?_
  intro p e s m below meth c C htab hin
  refine zx_lv [0, 1, 2, 3] [(0, .ref (a0)), (1, .int (p0)), (2, .int (p1)), (3, .int (p2))] rfl ?_
  refine zx_aload_n C dX12_putNode_0 0 rfl ?_
  refine zx_iload_n C dX12_putNode_1 1 rfl ?_
  refine zx_bipush (v := 95) C dX12_putNode_2 (by decide) ?_
  refine zx_imul C dX12_putNode_4 ?_
  refine zx_iload_n C dX12_putNode_5 2 rfl ?_
  refine zx_iadd C dX12_putNode_6 ?_
  refine zx_iload_n C dX12_putNode_7 3 rfl ?_
  obtain ⟨k1, i2, hm⟩ := ckO_e hm
  obtain ⟨v3, ρ4, h5, hm⟩ := cll_e hm
  refine zx_callV (σ := σ) C [.int (((p0) * (95)) + (p1)), .int (p2)] tC_11 k1 i2 Y_X12_put W_8_103 W_8_105 Wp_95 (c_X12_put h5) (by decide) (by decide) rfl (Nat.le_of_ble_eq_true rfl) dX12_putNode_8 rfl ?_
  refine zx_aload_n C dX12_putNode_11 0 rfl ?_
  refine zx_iconst (v := 2) C dX12_putNode_12 (by decide) ?_
  refine zx_iload_n C dX12_putNode_13 1 rfl ?_
  refine zx_iconst (v := 2) C dX12_putNode_14 (by decide) ?_
  refine zx_idiv C dX12_putNode_15 (by decide) ?_
  refine zx_iadd C dX12_putNode_16 ?_
  obtain ⟨k6, i7, hm⟩ := ckO_e hm
  obtain ⟨v8, ρ9, h10, hm⟩ := cll_e hm
  refine zx_callV (σ := ρ4) C [.int ((2) + ((p0) / (2)))] tC_11 k6 i7 Y_X12_touch W_8_107 W_8_109 Wp_96 (c_X12_touch h10) (by decide) (by decide) rfl (Nat.le_of_ble_eq_true rfl) dX12_putNode_17 rfl ?_
  obtain ⟨rfl, rfl⟩ := ret_e hm
  exact zx_vret C rfl rfl rfl dX12_putNode_20
abbrev cX12_act : ByteArray := prog_13_method_9_code
def yX12_act : MethodName := ⟨"SyncTreeModel", "act", "()V"⟩
theorem Y_X12_act : tY yX12_act cX12_act 1 none 0 := ⟨W_7_219, W_1_14, ⟨by decide +kernel, by decide +kernel⟩, by decide +kernel⟩
theorem dX12_act_0 : decode cX12_act 0 = .ok (.aload_n 0, 1) := by decide +kernel
theorem dX12_act_1 : decode cX12_act 1 = .ok (.getfield 44, 3) := by decide +kernel
theorem dX12_act_4 : decode cX12_act 4 = .ok (.ifCond .ne 11, 3) := by decide +kernel
theorem dX12_act_7 : decode cX12_act 7 = .ok (.aload_n 0, 1) := by decide +kernel
theorem dX12_act_8 : decode cX12_act 8 = .ok (.invokevirtual 47, 3) := by decide +kernel
theorem dX12_act_11 : decode cX12_act 11 = .ok (.getstatic 51, 3) := by decide +kernel
theorem dX12_act_14 : decode cX12_act 14 = .ok (.athrow, 1) := by decide +kernel
theorem dX12_act_15 : decode cX12_act 15 = .ok (.aload_n 0, 1) := by decide +kernel
theorem dX12_act_16 : decode cX12_act 16 = .ok (.getfield 44, 3) := by decide +kernel
theorem dX12_act_19 : decode cX12_act 19 = .ok (.ifCond .le 13, 3) := by decide +kernel
theorem dX12_act_22 : decode cX12_act 22 = .ok (.aload_n 0, 1) := by decide +kernel
theorem dX12_act_23 : decode cX12_act 23 = .ok (.dup, 1) := by decide +kernel
theorem dX12_act_24 : decode cX12_act 24 = .ok (.getfield 44, 3) := by decide +kernel
theorem dX12_act_27 : decode cX12_act 27 = .ok (.iconst 1, 1) := by decide +kernel
theorem dX12_act_28 : decode cX12_act 28 = .ok (.isub, 1) := by decide +kernel
theorem dX12_act_29 : decode cX12_act 29 = .ok (.putfield 44, 3) := by decide +kernel
theorem dX12_act_32 : decode cX12_act 32 = .ok (.aload_n 0, 1) := by decide +kernel
theorem dX12_act_33 : decode cX12_act 33 = .ok (.dup, 1) := by decide +kernel
theorem dX12_act_34 : decode cX12_act 34 = .ok (.getfield 55, 3) := by decide +kernel
theorem dX12_act_37 : decode cX12_act 37 = .ok (.iconst 1, 1) := by decide +kernel
theorem dX12_act_38 : decode cX12_act 38 = .ok (.iadd, 1) := by decide +kernel
theorem dX12_act_39 : decode cX12_act 39 = .ok (.putfield 55, 3) := by decide +kernel
theorem dX12_act_42 : decode cX12_act 42 = .ok (.return_, 1) := by decide +kernel
def J_X12_act_32 (b0 fu : Nat)  (x0 : Nat) (σ : tM) : Option (((Unit) ⊕ Unit) × tM) := ckO b0 (σ) (x0) 11 (some (.inl (()), sI (σ) (x0) 20 ((tI (σ) (x0) 20) + (1))))
def m_X12_act (b0 fu : Nat) (a0 : Nat) (σ : tM) : Option (((Unit) ⊕ Unit) × tM) := grw σ (ckO b0 (σ) (a0) 11 (if (tI (σ) (a0) 19) = (0) then cll (m_X12_powerOff b0 fu (a0) (σ)) (fun v7 ρ8 => some (.inr (), ρ8)) else if (tI (σ) (a0) 19) ≤ (0) then J_X12_act_32 b0 fu   (a0) (σ) else J_X12_act_32 b0 fu   (a0) (sI (σ) (a0) 19 ((tI (σ) (a0) 19) - (1)))))
set_option maxRecDepth 100000 in
set_option maxHeartbeats 1000000 in
theorem j_X12_act_32 {p : Program} {l : Launch} {e : Env} {s : State} {m : MethodId} {args : Array Value} {below : List Frame} {meth : Method} {c : Code} {D : va_G} {aC : Nat → ClassId} {b0 fu : Nat} {σ0 τ : tM} {v : (Unit) ⊕ Unit}  (C : tCx p l s m args meth c yX12_act.cls cX12_act 1 none D aC b0 σ0) (htab : ∀ x ∈ c.exceptionTable.toList, False) (hin : meth.name = yX12_act.name)  {x0 : Nat} {σ : tM} (hm : J_X12_act_32 b0 fu  x0 σ = some (v, τ)) : tX p l e s m args below meth c 1 1 21 D aC b0 σ0 (rxV "SyncTreeModel$Off" v) τ 32 [(0, .ref (x0))] [] σ := by
  unfold J_X12_act_32 at hm
  refine zx_aload_n C dX12_act_32 0 rfl ?_
  refine zx_dup C dX12_act_33 rfl ?_
  obtain ⟨k5, i6, hm⟩ := ckO_e hm
  refine zx_get (j := 20) C tC_11 k5 i6 ⟨by decide, Or.inl W_6_239⟩ dX12_act_34 (.int (tI (σ) (x0) 20)) rfl ?_
  refine zx_iconst (v := 1) C dX12_act_37 (by decide) ?_
  refine zx_iadd C dX12_act_38 ?_
  refine zx_put (j := 20) (ρ := sI (σ) (x0) 20 ((tI (σ) (x0) 20) + (1))) C tC_11 k5 i6 ⟨by decide, Or.inl W_6_239⟩ rfl rfl rfl (sI_ok (fun _ => rfl)) dX12_act_39 ?_
  obtain ⟨rfl, rfl⟩ := ret_e hm
  exact zx_vret C rfl rfl rfl dX12_act_42
set_option maxRecDepth 100000 in
set_option maxHeartbeats 1000000 in
theorem c_X12_act {l : Launch} {D : va_G} {aC : Nat → ClassId} {b0 fu : Nat} {a0 : Nat} {σ τ : tM} {v : (Unit) ⊕ Unit} (hm : m_X12_act b0 fu a0 σ = some (v, τ)) : tMt l D aC b0 yX12_act (Cond.code yX12_act cX12_act 1 none) 1 21 [.ref (a0)] σ (rxV "SyncTreeModel$Off" v) τ := by
  unfold m_X12_act at hm
  obtain ⟨hg, hm⟩ := grw_e hm
  refine tMt_of (n := 0) rfl (Nat.le_of_ble_eq_true rfl) hg ?_
  intro p e s m below meth c C htab hin
  refine zx_lv [0] [(0, .ref (a0))] rfl ?_
  refine zx_aload_n C dX12_act_0 0 rfl ?_
  obtain ⟨k1, i2, hm⟩ := ckO_e hm
  refine zx_get (j := 19) C tC_11 k1 i2 ⟨by decide, Or.inl W_6_238⟩ dX12_act_1 (.int (tI (σ) (a0) 19)) rfl ?_
  refine zx_if_ne C 15 dX12_act_4 (by decide) (fun c3 => ?_) (fun c3 => ?_)
  · replace hm := in_e hm c3
    refine zx_aload_n C dX12_act_15 0 rfl ?_
    refine zx_get (j := 19) C tC_11 k1 i2 ⟨by decide, Or.inl W_6_238⟩ dX12_act_16 (.int (tI (σ) (a0) 19)) rfl ?_
    refine zx_if_le C 32 dX12_act_19 (by decide) (fun c4 => ?_) (fun c4 => ?_)
    · replace hm := ip_e hm c4
      exact zx_lv [0] [(0, .ref (a0))] rfl (j_X12_act_32 C htab hin    hm)
    · replace hm := in_e hm c4
      refine zx_aload_n C dX12_act_22 0 rfl ?_
      refine zx_dup C dX12_act_23 rfl ?_
      refine zx_get (j := 19) C tC_11 k1 i2 ⟨by decide, Or.inl W_6_238⟩ dX12_act_24 (.int (tI (σ) (a0) 19)) rfl ?_
      refine zx_iconst (v := 1) C dX12_act_27 (by decide) ?_
      refine zx_isub C dX12_act_28 ?_
      refine zx_put (j := 19) (ρ := sI (σ) (a0) 19 ((tI (σ) (a0) 19) - (1))) C tC_11 k1 i2 ⟨by decide, Or.inl W_6_238⟩ rfl rfl rfl (sI_ok (fun _ => rfl)) dX12_act_29 ?_
      exact zx_lv [0] [(0, .ref (a0))] rfl (j_X12_act_32 C htab hin    hm)
  · replace hm := ip_e hm c3
    refine zx_aload_n C dX12_act_7 0 rfl ?_
    obtain ⟨v7, ρ8, h9, hm⟩ := cll_e hm
    refine zx_callV (σ := σ) C [] tC_11 k1 i2 Y_X12_powerOff W_7_220 W_7_222 Wp_66 (c_X12_powerOff h9) (by decide) (by decide) rfl (Nat.le_of_ble_eq_true rfl) dX12_act_8 rfl ?_
    obtain ⟨rfl, rfl⟩ := ret_e hm
    exact zx_off C htab W_7_183 dX12_act_11 dX12_act_14 rfl rfl
abbrev cX12_version : ByteArray := prog_13_method_13_code
def yX12_version : MethodName := ⟨"SyncTreeModel", "version", "(III)V"⟩
theorem Y_X12_version : tY yX12_version cX12_version 5 none 3 := ⟨W_8_0, W_1_14, ⟨by decide +kernel, by decide +kernel⟩, by decide +kernel⟩
theorem dX12_version_0 : decode cX12_version 0 = .ok (.aload_n 0, 1) := by decide +kernel
theorem dX12_version_1 : decode cX12_version 1 = .ok (.invokevirtual 96, 3) := by decide +kernel
theorem dX12_version_4 : decode cX12_version 4 = .ok (.aload_n 0, 1) := by decide +kernel
theorem dX12_version_5 : decode cX12_version 5 = .ok (.getfield 93, 3) := by decide +kernel
theorem dX12_version_8 : decode cX12_version 8 = .ok (.sipush 256, 3) := by decide +kernel
theorem dX12_version_11 : decode cX12_version 11 = .ok (.if_icmp .ne 7, 3) := by decide +kernel
theorem dX12_version_14 : decode cX12_version 14 = .ok (.aload_n 0, 1) := by decide +kernel
theorem dX12_version_15 : decode cX12_version 15 = .ok (.invokevirtual 99, 3) := by decide +kernel
theorem dX12_version_18 : decode cX12_version 18 = .ok (.aload_n 0, 1) := by decide +kernel
theorem dX12_version_19 : decode cX12_version 19 = .ok (.getfield 87, 3) := by decide +kernel
theorem dX12_version_22 : decode cX12_version 22 = .ok (.aload_n 0, 1) := by decide +kernel
theorem dX12_version_23 : decode cX12_version 23 = .ok (.getfield 93, 3) := by decide +kernel
theorem dX12_version_26 : decode cX12_version 26 = .ok (.iadd, 1) := by decide +kernel
theorem dX12_version_27 : decode cX12_version 27 = .ok (.sipush 256, 3) := by decide +kernel
theorem dX12_version_30 : decode cX12_version 30 = .ok (.irem, 1) := by decide +kernel
theorem dX12_version_31 : decode cX12_version 31 = .ok (.istore 4, 2) := by decide +kernel
theorem dX12_version_33 : decode cX12_version 33 = .ok (.aload_n 0, 1) := by decide +kernel
theorem dX12_version_34 : decode cX12_version 34 = .ok (.getfield 65, 3) := by decide +kernel
theorem dX12_version_37 : decode cX12_version 37 = .ok (.iload 4, 2) := by decide +kernel
theorem dX12_version_39 : decode cX12_version 39 = .ok (.iload_n 1, 1) := by decide +kernel
theorem dX12_version_40 : decode cX12_version 40 = .ok (.iastore, 1) := by decide +kernel
theorem dX12_version_41 : decode cX12_version 41 = .ok (.aload_n 0, 1) := by decide +kernel
theorem dX12_version_42 : decode cX12_version 42 = .ok (.getfield 71, 3) := by decide +kernel
theorem dX12_version_45 : decode cX12_version 45 = .ok (.iload 4, 2) := by decide +kernel
theorem dX12_version_47 : decode cX12_version 47 = .ok (.iload_n 2, 1) := by decide +kernel
theorem dX12_version_48 : decode cX12_version 48 = .ok (.iastore, 1) := by decide +kernel
theorem dX12_version_49 : decode cX12_version 49 = .ok (.aload_n 0, 1) := by decide +kernel
theorem dX12_version_50 : decode cX12_version 50 = .ok (.getfield 77, 3) := by decide +kernel
theorem dX12_version_53 : decode cX12_version 53 = .ok (.iload 4, 2) := by decide +kernel
theorem dX12_version_55 : decode cX12_version 55 = .ok (.iload_n 3, 1) := by decide +kernel
theorem dX12_version_56 : decode cX12_version 56 = .ok (.iastore, 1) := by decide +kernel
theorem dX12_version_57 : decode cX12_version 57 = .ok (.iload_n 2, 1) := by decide +kernel
theorem dX12_version_58 : decode cX12_version 58 = .ok (.iconst 3, 1) := by decide +kernel
theorem dX12_version_59 : decode cX12_version 59 = .ok (.if_icmp .ne 36, 3) := by decide +kernel
theorem dX12_version_62 : decode cX12_version 62 = .ok (.aload_n 0, 1) := by decide +kernel
theorem dX12_version_63 : decode cX12_version 63 = .ok (.getfield 102, 3) := by decide +kernel
theorem dX12_version_66 : decode cX12_version 66 = .ok (.sipush 256, 3) := by decide +kernel
theorem dX12_version_69 : decode cX12_version 69 = .ok (.iload_n 1, 1) := by decide +kernel
theorem dX12_version_70 : decode cX12_version 70 = .ok (.bipush 34, 2) := by decide +kernel
theorem dX12_version_72 : decode cX12_version 72 = .ok (.isub, 1) := by decide +kernel
theorem dX12_version_73 : decode cX12_version 73 = .ok (.aload_n 0, 1) := by decide +kernel
theorem dX12_version_74 : decode cX12_version 74 = .ok (.getfield 38, 3) := by decide +kernel
theorem dX12_version_77 : decode cX12_version 77 = .ok (.isub, 1) := by decide +kernel
theorem dX12_version_78 : decode cX12_version 78 = .ok (.imul, 1) := by decide +kernel
theorem dX12_version_79 : decode cX12_version 79 = .ok (.aload_n 0, 1) := by decide +kernel
theorem dX12_version_80 : decode cX12_version 80 = .ok (.getfield 80, 3) := by decide +kernel
theorem dX12_version_83 : decode cX12_version 83 = .ok (.sipush 256, 3) := by decide +kernel
theorem dX12_version_86 : decode cX12_version 86 = .ok (.iload 4, 2) := by decide +kernel
theorem dX12_version_88 : decode cX12_version 88 = .ok (.imul, 1) := by decide +kernel
theorem dX12_version_89 : decode cX12_version 89 = .ok (.sipush 256, 3) := by decide +kernel
theorem dX12_version_92 : decode cX12_version 92 = .ok (.invokestatic 7, 3) := by decide +kernel
theorem dX12_version_95 : decode cX12_version 95 = .ok (.aload_n 0, 1) := by decide +kernel
theorem dX12_version_96 : decode cX12_version 96 = .ok (.dup, 1) := by decide +kernel
theorem dX12_version_97 : decode cX12_version 97 = .ok (.getfield 93, 3) := by decide +kernel
theorem dX12_version_100 : decode cX12_version 100 = .ok (.iconst 1, 1) := by decide +kernel
theorem dX12_version_101 : decode cX12_version 101 = .ok (.iadd, 1) := by decide +kernel
theorem dX12_version_102 : decode cX12_version 102 = .ok (.putfield 93, 3) := by decide +kernel
theorem dX12_version_105 : decode cX12_version 105 = .ok (.return_, 1) := by decide +kernel
def J_X12_version_95 (b0 fu : Nat)  (x0 : Nat) (σ : tM) : Option (((Unit) ⊕ Unit) × tM) := ckO b0 (σ) (x0) 11 (some (.inl (()), sI (σ) (x0) 16 ((tI (σ) (x0) 16) + (1))))
def J_X12_version_18 (b0 fu : Nat)  (x0 : Nat) (x1 : Int32) (x2 : Int32) (x3 : Int32) (σ : tM) : Option (((Unit) ⊕ Unit) × tM) := ckO b0 (σ) (x0) 11 (ltb ((((tI (σ) (x0) 15) + (tI (σ) (x0) 16)) - ((tI (σ) (x0) 15) + (tI (σ) (x0) 16)) / (256) * (256) : Int32)) (fun y11 => osm (tA (σ) (x0) 11) (fun a12 => ckR b0 (σ) (a12) 0 (fun n16 => ckI (y11) (n16) (osm (tA (sI (σ) (a12) ((y11).toNatClampNeg) (x1)) (x0) 12) (fun a18 => ckR b0 (sI (σ) (a12) ((y11).toNatClampNeg) (x1)) (a18) 0 (fun n22 => ckI (y11) (n22) (osm (tA (sI (sI (σ) (a12) ((y11).toNatClampNeg) (x1)) (a18) ((y11).toNatClampNeg) (x2)) (x0) 13) (fun a24 => ckR b0 (sI (sI (σ) (a12) ((y11).toNatClampNeg) (x1)) (a18) ((y11).toNatClampNeg) (x2)) (a24) 0 (fun n28 => ckI (y11) (n28) (if (x2) = (3) then osm (tA (sI (sI (sI (σ) (a12) ((y11).toNatClampNeg) (x1)) (a18) ((y11).toNatClampNeg) (x2)) (a24) ((y11).toNatClampNeg) (x3)) (x0) 22) (fun a33 => osm (tA (sI (sI (sI (σ) (a12) ((y11).toNatClampNeg) (x1)) (a18) ((y11).toNatClampNeg) (x2)) (a24) ((y11).toNatClampNeg) (x3)) (x0) 14) (fun a35 => ckR b0 (sI (sI (sI (σ) (a12) ((y11).toNatClampNeg) (x1)) (a18) ((y11).toNatClampNeg) (x2)) (a24) ((y11).toNatClampNeg) (x3)) (a33) 1 (fun n39 => ckR b0 (sI (sI (sI (σ) (a12) ((y11).toNatClampNeg) (x1)) (a18) ((y11).toNatClampNeg) (x2)) (a24) ((y11).toNatClampNeg) (x3)) (a35) 1 (fun n42 => ckC ((256) * (((x1) - (34)) - (tI (sI (sI (sI (σ) (a12) ((y11).toNatClampNeg) (x1)) (a18) ((y11).toNatClampNeg) (x2)) (a24) ((y11).toNatClampNeg) (x3)) (x0) 6))) ((256) * (y11)) (256) (n39) (n42) (ckF (tI (sI (sI (sI (σ) (a12) ((y11).toNatClampNeg) (x1)) (a18) ((y11).toNatClampNeg) (x2)) (a24) ((y11).toNatClampNeg) (x3)) (a33)) ((256) * (((x1) - (34)) - (tI (sI (sI (sI (σ) (a12) ((y11).toNatClampNeg) (x1)) (a18) ((y11).toNatClampNeg) (x2)) (a24) ((y11).toNatClampNeg) (x3)) (x0) 6))) (256) (J_X12_version_95 b0 fu   (x0) (sIr (sI (sI (sI (σ) (a12) ((y11).toNatClampNeg) (x1)) (a18) ((y11).toNatClampNeg) (x2)) (a24) ((y11).toNatClampNeg) (x3)) (a35) (va_cpy (tI (sI (sI (sI (σ) (a12) ((y11).toNatClampNeg) (x1)) (a18) ((y11).toNatClampNeg) (x2)) (a24) ((y11).toNatClampNeg) (x3)) (a33)) (tI (sI (sI (sI (σ) (a12) ((y11).toNatClampNeg) (x1)) (a18) ((y11).toNatClampNeg) (x2)) (a24) ((y11).toNatClampNeg) (x3)) (a35)) (((256) * (((x1) - (34)) - (tI (sI (sI (sI (σ) (a12) ((y11).toNatClampNeg) (x1)) (a18) ((y11).toNatClampNeg) (x2)) (a24) ((y11).toNatClampNeg) (x3)) (x0) 6))).toNatClampNeg) (((256) * (y11)).toNatClampNeg) (((256 : Int32)).toNatClampNeg))))))))) else J_X12_version_95 b0 fu   (x0) (sI (sI (sI (σ) (a12) ((y11).toNatClampNeg) (x1)) (a18) ((y11).toNatClampNeg) (x2)) (a24) ((y11).toNatClampNeg) (x3)))))))))))))
def m_X12_version (b0 fu : Nat) (a0 : Nat) (p0 : Int32) (p1 : Int32) (p2 : Int32) (σ : tM) : Option (((Unit) ⊕ Unit) × tM) := grw σ (ckO b0 (σ) (a0) 11 (clx (m_X12_act b0 fu (a0) (σ)) (fun v3 ρ4 => ckO b0 (ρ4) (a0) 11 (if (tI (ρ4) (a0) 16) = (256) then cll (m_X12_keepOldest b0 fu (a0) (ρ4)) (fun v47 ρ48 => J_X12_version_18 b0 fu   (a0) (p0) (p1) (p2) (ρ48)) else J_X12_version_18 b0 fu   (a0) (p0) (p1) (p2) (ρ4)))))
set_option maxRecDepth 100000 in
set_option maxHeartbeats 1000000 in
theorem j_X12_version_95 {p : Program} {l : Launch} {e : Env} {s : State} {m : MethodId} {args : Array Value} {below : List Frame} {meth : Method} {c : Code} {D : va_G} {aC : Nat → ClassId} {b0 fu : Nat} {σ0 τ : tM} {v : (Unit) ⊕ Unit}  (C : tCx p l s m args meth c yX12_version.cls cX12_version 5 none D aC b0 σ0) (htab : ∀ x ∈ c.exceptionTable.toList, False) (hin : meth.name = yX12_version.name)  {x0 : Nat} {σ : tM} (hm : J_X12_version_95 b0 fu  x0 σ = some (v, τ)) : tX p l e s m args below meth c 5 3 68 D aC b0 σ0 (rxV "SyncTreeModel$Off" v) τ 95 [(0, .ref (x0))] [] σ := by
  unfold J_X12_version_95 at hm
  refine zx_aload_n C dX12_version_95 0 rfl ?_
  refine zx_dup C dX12_version_96 rfl ?_
  obtain ⟨k31, i32, hm⟩ := ckO_e hm
  refine zx_get (j := 16) C tC_11 k31 i32 ⟨by decide, Or.inl W_6_235⟩ dX12_version_97 (.int (tI (σ) (x0) 16)) rfl ?_
  refine zx_iconst (v := 1) C dX12_version_100 (by decide) ?_
  refine zx_iadd C dX12_version_101 ?_
  refine zx_put (j := 16) (ρ := sI (σ) (x0) 16 ((tI (σ) (x0) 16) + (1))) C tC_11 k31 i32 ⟨by decide, Or.inl W_6_235⟩ rfl rfl rfl (sI_ok (fun _ => rfl)) dX12_version_102 ?_
  obtain ⟨rfl, rfl⟩ := ret_e hm
  exact zx_vret C rfl rfl rfl dX12_version_105
set_option maxRecDepth 100000 in
set_option maxHeartbeats 1000000 in
theorem j_X12_version_18 {p : Program} {l : Launch} {e : Env} {s : State} {m : MethodId} {args : Array Value} {below : List Frame} {meth : Method} {c : Code} {D : va_G} {aC : Nat → ClassId} {b0 fu : Nat} {σ0 τ : tM} {v : (Unit) ⊕ Unit}  (C : tCx p l s m args meth c yX12_version.cls cX12_version 5 none D aC b0 σ0) (htab : ∀ x ∈ c.exceptionTable.toList, False) (hin : meth.name = yX12_version.name)  {x0 : Nat} {x1 : Int32} {x2 : Int32} {x3 : Int32} {σ : tM} (hm : J_X12_version_18 b0 fu  x0 x1 x2 x3 σ = some (v, τ)) : tX p l e s m args below meth c 5 3 68 D aC b0 σ0 (rxV "SyncTreeModel$Off" v) τ 18 [(0, .ref (x0)), (1, .int (x1)), (2, .int (x2)), (3, .int (x3))] [] σ := by
  unfold J_X12_version_18 at hm
  refine zx_aload_n C dX12_version_18 0 rfl ?_
  obtain ⟨k9, i10, hm⟩ := ckO_e hm
  refine zx_get (j := 15) C tC_11 k9 i10 ⟨by decide, Or.inl W_6_234⟩ dX12_version_19 (.int (tI (σ) (x0) 15)) rfl ?_
  refine zx_aload_n C dX12_version_22 0 rfl ?_
  refine zx_get (j := 16) C tC_11 k9 i10 ⟨by decide, Or.inl W_6_235⟩ dX12_version_23 (.int (tI (σ) (x0) 16)) rfl ?_
  refine zx_iadd C dX12_version_26 ?_
  refine zx_sipush (v := 256) C dX12_version_27 (by decide) ?_
  refine zx_irem C dX12_version_30 (by decide) ?_
  refine zx_topi (fun y11 hy11 => ?_)
  replace hm := ltb_e hm hy11
  refine zx_istore C [(4, .int (y11)), (0, .ref (x0)), (1, .int (x1)), (2, .int (x2)), (3, .int (x3))] dX12_version_31 (by decide) rfl ?_
  refine zx_aload_n C dX12_version_33 1 rfl ?_
  obtain ⟨a12, h13, hm⟩ := osm_e hm
  refine zx_get (j := 11) C tC_11 k9 i10 ⟨by decide, Or.inl W_6_230⟩ dX12_version_34 (.ref a12) (rf_s h13) ?_
  refine zx_iload C dX12_version_37 0 rfl ?_
  refine zx_iload_n C dX12_version_39 2 rfl ?_
  obtain ⟨n16, k14, i15, hm⟩ := ckR_e hm
  obtain ⟨h17, hm⟩ := ckI_e hm
  refine zx_iast C k14 i15 h17 dX12_version_40 ?_
  refine zx_aload_n C dX12_version_41 1 rfl ?_
  obtain ⟨a18, h19, hm⟩ := osm_e hm
  refine zx_get (j := 12) C tC_11 k9 i10 ⟨by decide, Or.inl W_6_231⟩ dX12_version_42 (.ref a18) (rf_s h19) ?_
  refine zx_iload C dX12_version_45 0 rfl ?_
  refine zx_iload_n C dX12_version_47 3 rfl ?_
  obtain ⟨n22, k20, i21, hm⟩ := ckR_e hm
  obtain ⟨h23, hm⟩ := ckI_e hm
  refine zx_iast C k20 i21 h23 dX12_version_48 ?_
  refine zx_aload_n C dX12_version_49 1 rfl ?_
  obtain ⟨a24, h25, hm⟩ := osm_e hm
  refine zx_get (j := 13) C tC_11 k9 i10 ⟨by decide, Or.inl W_6_232⟩ dX12_version_50 (.ref a24) (rf_s h25) ?_
  refine zx_iload C dX12_version_53 0 rfl ?_
  refine zx_iload_n C dX12_version_55 4 rfl ?_
  obtain ⟨n28, k26, i27, hm⟩ := ckR_e hm
  obtain ⟨h29, hm⟩ := ckI_e hm
  refine zx_iast C k26 i27 h29 dX12_version_56 ?_
  refine zx_iload_n C dX12_version_57 3 rfl ?_
  refine zx_iconst (v := 3) C dX12_version_58 (by decide) ?_
  refine zx_icmp_ne C 95 dX12_version_59 (by decide) (fun c30 => ?_) (fun c30 => ?_)
  · replace hm := in_e hm c30
    exact zx_lv [1] [(0, .ref (x0))] rfl (j_X12_version_95 C htab hin    hm)
  · replace hm := ip_e hm c30
    refine zx_aload_n C dX12_version_62 1 rfl ?_
    obtain ⟨a33, h34, hm⟩ := osm_e hm
    refine zx_get (j := 22) C tC_11 k9 i10 ⟨by decide, Or.inl W_7_1⟩ dX12_version_63 (.ref a33) (rf_s h34) ?_
    refine zx_sipush (v := 256) C dX12_version_66 (by decide) ?_
    refine zx_iload_n C dX12_version_69 2 rfl ?_
    refine zx_bipush (v := 34) C dX12_version_70 (by decide) ?_
    refine zx_isub C dX12_version_72 ?_
    refine zx_aload_n C dX12_version_73 1 rfl ?_
    refine zx_get (j := 6) C tC_11 k9 i10 ⟨by decide, Or.inl W_6_225⟩ dX12_version_74 (.int (tI (sI (sI (sI (σ) (a12) ((y11).toNatClampNeg) (x1)) (a18) ((y11).toNatClampNeg) (x2)) (a24) ((y11).toNatClampNeg) (x3)) (x0) 6)) rfl ?_
    refine zx_isub C dX12_version_77 ?_
    refine zx_imul C dX12_version_78 ?_
    refine zx_aload_n C dX12_version_79 1 rfl ?_
    obtain ⟨a35, h36, hm⟩ := osm_e hm
    refine zx_get (j := 14) C tC_11 k9 i10 ⟨by decide, Or.inl W_6_233⟩ dX12_version_80 (.ref a35) (rf_s h36) ?_
    refine zx_sipush (v := 256) C dX12_version_83 (by decide) ?_
    refine zx_iload C dX12_version_86 0 rfl ?_
    refine zx_imul C dX12_version_88 ?_
    refine zx_sipush (v := 256) C dX12_version_89 (by decide) ?_
    obtain ⟨n39, k37, i38, hm⟩ := ckR_e hm
    obtain ⟨n42, k40, i41, hm⟩ := ckR_e hm
    obtain ⟨h43, hm⟩ := ckC_e hm
    obtain ⟨h45, hm⟩ := ckF_e hm
    refine zx_copyB (σ := sI (sI (sI (σ) (a12) ((y11).toNatClampNeg) (x1)) (a18) ((y11).toNatClampNeg) (x2)) (a24) ((y11).toNatClampNeg) (x3)) C W_7_169 W_2_135 W_2_134 W_1_11 k37 i38 k40 i41 h43 h45 (by decide) (by decide) (Nat.le_of_ble_eq_true rfl) dX12_version_92 ?_
    exact zx_lv [1] [(0, .ref (x0))] rfl (j_X12_version_95 C htab hin    hm)
set_option maxRecDepth 100000 in
set_option maxHeartbeats 1000000 in
theorem c_X12_version {l : Launch} {D : va_G} {aC : Nat → ClassId} {b0 fu : Nat} {a0 : Nat} {p0 : Int32} {p1 : Int32} {p2 : Int32} {σ τ : tM} {v : (Unit) ⊕ Unit} (hm : m_X12_version b0 fu a0 p0 p1 p2 σ = some (v, τ)) : tMt l D aC b0 yX12_version (Cond.code yX12_version cX12_version 5 none) 3 68 [.ref (a0), .int (p0), .int (p1), .int (p2)] σ (rxV "SyncTreeModel$Off" v) τ := by
  unfold m_X12_version at hm
  obtain ⟨hg, hm⟩ := grw_e hm
  refine tMt_of (n := 0) rfl (Nat.le_of_ble_eq_true rfl) hg ?_
  intro p e s m below meth c C htab hin
  refine zx_lv [0, 1, 2, 3] [(0, .ref (a0)), (1, .int (p0)), (2, .int (p1)), (3, .int (p2))] rfl ?_
  refine zx_aload_n C dX12_version_0 0 rfl ?_
  obtain ⟨k1, i2, hm⟩ := ckO_e hm
  rcases clx_e hm with ⟨v3, ρ4, h5, hm⟩ | ⟨ρ4, h5, hm⟩
  · refine zx_callV (σ := σ) C [] tC_11 k1 i2 Y_X12_act W_7_216 W_7_218 Wp_65 (c_X12_act h5) (by decide) (by decide) rfl (Nat.le_of_ble_eq_true rfl) dX12_version_1 rfl ?_
    refine zx_aload_n C dX12_version_4 0 rfl ?_
    obtain ⟨k6, i7, hm⟩ := ckO_e hm
    refine zx_get (j := 16) C tC_11 k6 i7 ⟨by decide, Or.inl W_6_235⟩ dX12_version_5 (.int (tI (ρ4) (a0) 16)) rfl ?_
    refine zx_sipush (v := 256) C dX12_version_8 (by decide) ?_
    refine zx_icmp_ne C 18 dX12_version_11 (by decide) (fun c8 => ?_) (fun c8 => ?_)
    · replace hm := in_e hm c8
      exact zx_lv [0, 1, 2, 3] [(0, .ref (a0)), (1, .int (p0)), (2, .int (p1)), (3, .int (p2))] rfl (j_X12_version_18 C htab hin    hm)
    · replace hm := ip_e hm c8
      refine zx_aload_n C dX12_version_14 0 rfl ?_
      obtain ⟨v47, ρ48, h49, hm⟩ := cll_e hm
      refine zx_callV (σ := ρ4) C [] tC_11 k6 i7 Y_X12_keepOldest W_7_224 W_7_226 Wp_67 (c_X12_keepOldest h49) (by decide) (by decide) rfl (Nat.le_of_ble_eq_true rfl) dX12_version_15 rfl ?_
      exact zx_lv [0, 1, 2, 3] [(0, .ref (a0)), (1, .int (p0)), (2, .int (p1)), (3, .int (p2))] rfl (j_X12_version_18 C htab hin    hm)
  · cases hm
    exact zx_outV (σ := σ) C htab [] tC_11 k1 i2 Y_X12_act W_7_216 W_7_218 Wp_65 (c_X12_act h5) rfl (by decide) (by decide) rfl (Nat.le_of_ble_eq_true rfl) dX12_version_1 rfl
abbrev cX12_flushAct : ByteArray := prog_13_method_14_code
def yX12_flushAct : MethodName := ⟨"SyncTreeModel", "flushAct", "()V"⟩
theorem Y_X12_flushAct : tY yX12_flushAct cX12_flushAct 1 none 0 := ⟨W_7_215, W_1_14, ⟨by decide +kernel, by decide +kernel⟩, by decide +kernel⟩
theorem dX12_flushAct_0 : decode cX12_flushAct 0 = .ok (.aload_n 0, 1) := by decide +kernel
theorem dX12_flushAct_1 : decode cX12_flushAct 1 = .ok (.invokevirtual 96, 3) := by decide +kernel
theorem dX12_flushAct_4 : decode cX12_flushAct 4 = .ok (.aload_n 0, 1) := by decide +kernel
theorem dX12_flushAct_5 : decode cX12_flushAct 5 = .ok (.getfield 93, 3) := by decide +kernel
theorem dX12_flushAct_8 : decode cX12_flushAct 8 = .ok (.ifCond .le 10, 3) := by decide +kernel
theorem dX12_flushAct_11 : decode cX12_flushAct 11 = .ok (.aload_n 0, 1) := by decide +kernel
theorem dX12_flushAct_12 : decode cX12_flushAct 12 = .ok (.invokevirtual 99, 3) := by decide +kernel
theorem dX12_flushAct_15 : decode cX12_flushAct 15 = .ok (.goto (-11), 3) := by decide +kernel
theorem dX12_flushAct_18 : decode cX12_flushAct 18 = .ok (.aload_n 0, 1) := by decide +kernel
theorem dX12_flushAct_19 : decode cX12_flushAct 19 = .ok (.dup, 1) := by decide +kernel
theorem dX12_flushAct_20 : decode cX12_flushAct 20 = .ok (.getfield 105, 3) := by decide +kernel
theorem dX12_flushAct_23 : decode cX12_flushAct 23 = .ok (.iconst 1, 1) := by decide +kernel
theorem dX12_flushAct_24 : decode cX12_flushAct 24 = .ok (.iadd, 1) := by decide +kernel
theorem dX12_flushAct_25 : decode cX12_flushAct 25 = .ok (.putfield 105, 3) := by decide +kernel
theorem dX12_flushAct_28 : decode cX12_flushAct 28 = .ok (.return_, 1) := by decide +kernel
def L_X12_flushAct_4 (b0 fu : Nat)  : Nat → Nat → tM → Option (((Unit) ⊕ Unit) × tM)
  | 0, _, _ => none
  | n + 1, x0, σ => ltb (L_X12_flushAct_4 b0 fu  n) (fun rc4 => ckO b0 (σ) (x0) 11 (if (tI (σ) (x0) 16) ≤ (0) then some (.inl (()), sI (σ) (x0) 21 ((tI (σ) (x0) 21) + (1))) else cll (m_X12_keepOldest b0 fu (x0) (σ)) (fun v9 ρ10 => rc4 (x0) (ρ10))))
def m_X12_flushAct (b0 fu : Nat) (a0 : Nat) (σ : tM) : Option (((Unit) ⊕ Unit) × tM) := grw σ (ckO b0 (σ) (a0) 11 (clx (m_X12_act b0 fu (a0) (σ)) (fun v3 ρ4 => L_X12_flushAct_4 b0 fu  (fu) (a0) (ρ4))))
set_option maxRecDepth 100000 in
set_option maxHeartbeats 1000000 in
theorem l_X12_flushAct_4 {p : Program} {l : Launch} {e : Env} {s : State} {m : MethodId} {args : Array Value} {below : List Frame} {meth : Method} {c : Code} {D : va_G} {aC : Nat → ClassId} {b0 fu : Nat} {σ0 τ : tM} {v : (Unit) ⊕ Unit}  (C : tCx p l s m args meth c yX12_flushAct.cls cX12_flushAct 1 none D aC b0 σ0) (htab : ∀ x ∈ c.exceptionTable.toList, False) (hin : meth.name = yX12_flushAct.name)  : ∀ (n : Nat) (x0 : Nat) (σ : tM), L_X12_flushAct_4 b0 fu  n x0 σ = some (v, τ) → tX p l e s m args below meth c 1 3 68 D aC b0 σ0 (rxV "SyncTreeModel$Off" v) τ 4 [(0, .ref (x0))] [] σ := by
  intro n
  induction n with
  | zero => intro x0 σ hm; unfold L_X12_flushAct_4 at hm; cases hm
  | succ n ih =>
    intro x0 σ hm
    unfold L_X12_flushAct_4 at hm
    obtain ⟨rc4, hrc⟩ : ∃ z, z = L_X12_flushAct_4 b0 fu  n := ⟨_, rfl⟩
    replace hm := ltb_e hm hrc
    rw [← hrc] at ih
    have hrc4 := ih
    clear ih hrc
    refine zx_aload_n C dX12_flushAct_4 0 rfl ?_
    obtain ⟨k6, i7, hm⟩ := ckO_e hm
    refine zx_get (j := 16) C tC_11 k6 i7 ⟨by decide, Or.inl W_6_235⟩ dX12_flushAct_5 (.int (tI (σ) (x0) 16)) rfl ?_
    refine zx_if_le C 18 dX12_flushAct_8 (by decide) (fun c8 => ?_) (fun c8 => ?_)
    · replace hm := ip_e hm c8
      refine zx_aload_n C dX12_flushAct_18 0 rfl ?_
      refine zx_dup C dX12_flushAct_19 rfl ?_
      refine zx_get (j := 21) C tC_11 k6 i7 ⟨by decide, Or.inl W_7_0⟩ dX12_flushAct_20 (.int (tI (σ) (x0) 21)) rfl ?_
      refine zx_iconst (v := 1) C dX12_flushAct_23 (by decide) ?_
      refine zx_iadd C dX12_flushAct_24 ?_
      refine zx_put (j := 21) (ρ := sI (σ) (x0) 21 ((tI (σ) (x0) 21) + (1))) C tC_11 k6 i7 ⟨by decide, Or.inl W_7_0⟩ rfl rfl rfl (sI_ok (fun _ => rfl)) dX12_flushAct_25 ?_
      obtain ⟨rfl, rfl⟩ := ret_e hm
      exact zx_vret C rfl rfl rfl dX12_flushAct_28
    · replace hm := in_e hm c8
      refine zx_aload_n C dX12_flushAct_11 0 rfl ?_
      obtain ⟨v9, ρ10, h11, hm⟩ := cll_e hm
      refine zx_callV (σ := σ) C [] tC_11 k6 i7 Y_X12_keepOldest W_7_224 W_7_226 Wp_67 (c_X12_keepOldest h11) (by decide) (by decide) rfl (Nat.le_of_ble_eq_true rfl) dX12_flushAct_12 rfl ?_
      refine zx_goto C 4 dX12_flushAct_15 (by decide) ?_
      exact zx_lv [0] [(0, .ref (x0))] rfl (hrc4 _ _ hm)
set_option maxRecDepth 100000 in
set_option maxHeartbeats 1000000 in
theorem c_X12_flushAct {l : Launch} {D : va_G} {aC : Nat → ClassId} {b0 fu : Nat} {a0 : Nat} {σ τ : tM} {v : (Unit) ⊕ Unit} (hm : m_X12_flushAct b0 fu a0 σ = some (v, τ)) : tMt l D aC b0 yX12_flushAct (Cond.code yX12_flushAct cX12_flushAct 1 none) 3 68 [.ref (a0)] σ (rxV "SyncTreeModel$Off" v) τ := by
  unfold m_X12_flushAct at hm
  obtain ⟨hg, hm⟩ := grw_e hm
  refine tMt_of (n := 0) rfl (Nat.le_of_ble_eq_true rfl) hg ?_
  intro p e s m below meth c C htab hin
  refine zx_lv [0] [(0, .ref (a0))] rfl ?_
  refine zx_aload_n C dX12_flushAct_0 0 rfl ?_
  obtain ⟨k1, i2, hm⟩ := ckO_e hm
  rcases clx_e hm with ⟨v3, ρ4, h5, hm⟩ | ⟨ρ4, h5, hm⟩
  · refine zx_callV (σ := σ) C [] tC_11 k1 i2 Y_X12_act W_7_216 W_7_218 Wp_65 (c_X12_act h5) (by decide) (by decide) rfl (Nat.le_of_ble_eq_true rfl) dX12_flushAct_1 rfl ?_
    exact zx_lv [0] [(0, .ref (a0))] rfl (l_X12_flushAct_4 C htab hin  _ _ _ hm)
  · cases hm
    exact zx_outV (σ := σ) C htab [] tC_11 k1 i2 Y_X12_act W_7_216 W_7_218 Wp_65 (c_X12_act h5) rfl (by decide) (by decide) rfl (Nat.le_of_ble_eq_true rfl) dX12_flushAct_1 rfl
abbrev cX12_flush : ByteArray := prog_13_method_23_code
def yX12_flush : MethodName := ⟨"SyncTreeModel", "flush", "()V"⟩
theorem Y_X12_flush : tY yX12_flush cX12_flush 2 none 0 := ⟨W_7_211, W_1_14, ⟨by decide +kernel, by decide +kernel⟩, by decide +kernel⟩
theorem dX12_flush_0 : decode cX12_flush 0 = .ok (.aload_n 0, 1) := by decide +kernel
theorem dX12_flush_1 : decode cX12_flush 1 = .ok (.invokevirtual 196, 3) := by decide +kernel
theorem dX12_flush_4 : decode cX12_flush 4 = .ok (.aload_n 0, 1) := by decide +kernel
theorem dX12_flush_5 : decode cX12_flush 5 = .ok (.aload_n 0, 1) := by decide +kernel
theorem dX12_flush_6 : decode cX12_flush 6 = .ok (.getfield 122, 3) := by decide +kernel
theorem dX12_flush_9 : decode cX12_flush 9 = .ok (.putfield 199, 3) := by decide +kernel
theorem dX12_flush_12 : decode cX12_flush 12 = .ok (.aload_n 0, 1) := by decide +kernel
theorem dX12_flush_13 : decode cX12_flush 13 = .ok (.aload_n 0, 1) := by decide +kernel
theorem dX12_flush_14 : decode cX12_flush 14 = .ok (.getfield 202, 3) := by decide +kernel
theorem dX12_flush_17 : decode cX12_flush 17 = .ok (.putfield 119, 3) := by decide +kernel
theorem dX12_flush_20 : decode cX12_flush 20 = .ok (.iconst 0, 1) := by decide +kernel
theorem dX12_flush_21 : decode cX12_flush 21 = .ok (.istore_n 1, 1) := by decide +kernel
theorem dX12_flush_22 : decode cX12_flush 22 = .ok (.iload_n 1, 1) := by decide +kernel
theorem dX12_flush_23 : decode cX12_flush 23 = .ok (.aload_n 0, 1) := by decide +kernel
theorem dX12_flush_24 : decode cX12_flush 24 = .ok (.getfield 41, 3) := by decide +kernel
theorem dX12_flush_27 : decode cX12_flush 27 = .ok (.if_icmp .ge 41, 3) := by decide +kernel
theorem dX12_flush_30 : decode cX12_flush 30 = .ok (.aload_n 0, 1) := by decide +kernel
theorem dX12_flush_31 : decode cX12_flush 31 = .ok (.getfield 190, 3) := by decide +kernel
theorem dX12_flush_34 : decode cX12_flush 34 = .ok (.iload_n 1, 1) := by decide +kernel
theorem dX12_flush_35 : decode cX12_flush 35 = .ok (.iaload, 1) := by decide +kernel
theorem dX12_flush_36 : decode cX12_flush 36 = .ok (.iconst 1, 1) := by decide +kernel
theorem dX12_flush_37 : decode cX12_flush 37 = .ok (.if_icmp .le 25, 3) := by decide +kernel
theorem dX12_flush_40 : decode cX12_flush 40 = .ok (.aload_n 0, 1) := by decide +kernel
theorem dX12_flush_41 : decode cX12_flush 41 = .ok (.getfield 190, 3) := by decide +kernel
theorem dX12_flush_44 : decode cX12_flush 44 = .ok (.iload_n 1, 1) := by decide +kernel
theorem dX12_flush_45 : decode cX12_flush 45 = .ok (.iaload, 1) := by decide +kernel
theorem dX12_flush_46 : decode cX12_flush 46 = .ok (.iconst 1, 1) := by decide +kernel
theorem dX12_flush_47 : decode cX12_flush 47 = .ok (.isub, 1) := by decide +kernel
theorem dX12_flush_48 : decode cX12_flush 48 = .ok (.aload_n 0, 1) := by decide +kernel
theorem dX12_flush_49 : decode cX12_flush 49 = .ok (.getfield 199, 3) := by decide +kernel
theorem dX12_flush_52 : decode cX12_flush 52 = .ok (.if_icmp .gt 10, 3) := by decide +kernel
theorem dX12_flush_55 : decode cX12_flush 55 = .ok (.aload_n 0, 1) := by decide +kernel
theorem dX12_flush_56 : decode cX12_flush 56 = .ok (.getfield 190, 3) := by decide +kernel
theorem dX12_flush_59 : decode cX12_flush 59 = .ok (.iload_n 1, 1) := by decide +kernel
theorem dX12_flush_60 : decode cX12_flush 60 = .ok (.iconst 0, 1) := by decide +kernel
theorem dX12_flush_61 : decode cX12_flush 61 = .ok (.iastore, 1) := by decide +kernel
theorem dX12_flush_62 : decode cX12_flush 62 = .ok (.iinc 1 1, 3) := by decide +kernel
theorem dX12_flush_65 : decode cX12_flush 65 = .ok (.goto (-43), 3) := by decide +kernel
theorem dX12_flush_68 : decode cX12_flush 68 = .ok (.aload_n 0, 1) := by decide +kernel
theorem dX12_flush_69 : decode cX12_flush 69 = .ok (.invokevirtual 205, 3) := by decide +kernel
theorem dX12_flush_72 : decode cX12_flush 72 = .ok (.aload_n 0, 1) := by decide +kernel
theorem dX12_flush_73 : decode cX12_flush 73 = .ok (.getfield 208, 3) := by decide +kernel
theorem dX12_flush_76 : decode cX12_flush 76 = .ok (.aload_n 0, 1) := by decide +kernel
theorem dX12_flush_77 : decode cX12_flush 77 = .ok (.getfield 202, 3) := by decide +kernel
theorem dX12_flush_80 : decode cX12_flush 80 = .ok (.if_icmp .le 21, 3) := by decide +kernel
theorem dX12_flush_83 : decode cX12_flush 83 = .ok (.aload_n 0, 1) := by decide +kernel
theorem dX12_flush_84 : decode cX12_flush 84 = .ok (.aload_n 0, 1) := by decide +kernel
theorem dX12_flush_85 : decode cX12_flush 85 = .ok (.getfield 208, 3) := by decide +kernel
theorem dX12_flush_88 : decode cX12_flush 88 = .ok (.putfield 202, 3) := by decide +kernel
theorem dX12_flush_91 : decode cX12_flush 91 = .ok (.aload_n 0, 1) := by decide +kernel
theorem dX12_flush_92 : decode cX12_flush 92 = .ok (.iconst 0, 1) := by decide +kernel
theorem dX12_flush_93 : decode cX12_flush 93 = .ok (.iconst 1, 1) := by decide +kernel
theorem dX12_flush_94 : decode cX12_flush 94 = .ok (.aload_n 0, 1) := by decide +kernel
theorem dX12_flush_95 : decode cX12_flush 95 = .ok (.getfield 202, 3) := by decide +kernel
theorem dX12_flush_98 : decode cX12_flush 98 = .ok (.invokevirtual 183, 3) := by decide +kernel
theorem dX12_flush_101 : decode cX12_flush 101 = .ok (.return_, 1) := by decide +kernel
def J_X12_flush_101 (b0 fu : Nat)   (σ : tM) : Option (((Unit) ⊕ Unit) × tM) := some (.inl (()), σ)
def J_X12_flush_62 (b0 fu : Nat) (rc22 : Nat → Int32 → tM → Option (((Unit) ⊕ Unit) × tM)) (x0 : Nat) (x1 : Int32) (σ : tM) : Option (((Unit) ⊕ Unit) × tM) := ltb ((x1) + Int32.ofInt 1) (fun y28 => rc22 (x0) (y28) (σ))
def L_X12_flush_22 (b0 fu : Nat)  : Nat → Nat → Int32 → tM → Option (((Unit) ⊕ Unit) × tM)
  | 0, _, _, _ => none
  | n + 1, x0, x1, σ => ltb (L_X12_flush_22 b0 fu  n) (fun rc22 => ckO b0 (σ) (x0) 11 (if (tI (σ) (x0) 7) ≤ (x1) then cll (m_X12_forget b0 fu (x0) (σ)) (fun v11 ρ12 => ckO b0 (ρ12) (x0) 11 (if (tI (ρ12) (x0) 30) ≤ (tI (ρ12) (x0) 31) then J_X12_flush_101 b0 fu    (ρ12) else clx (m_X12_version b0 fu (x0) (0) (1) (tI (sI (ρ12) (x0) 31 (tI (ρ12) (x0) 30)) (x0) 31) (sI (ρ12) (x0) 31 (tI (ρ12) (x0) 30))) (fun v17 ρ18 => J_X12_flush_101 b0 fu    (ρ18)))) else osm (tA (σ) (x0) 24) (fun a21 => ckR b0 (σ) (a21) 0 (fun n25 => ckI (x1) (n25) (if (tI (σ) (a21) ((x1).toNatClampNeg)) ≤ (1) then J_X12_flush_62 b0 fu rc22  (x0) (x1) (σ) else osm (tA (σ) (x0) 24) (fun a29 => ckR b0 (σ) (a29) 0 (fun n33 => ckI (x1) (n33) (if (tI (σ) (x0) 29) < ((tI (σ) (a29) ((x1).toNatClampNeg)) - (1)) then J_X12_flush_62 b0 fu rc22  (x0) (x1) (σ) else osm (tA (σ) (x0) 24) (fun a36 => ckR b0 (σ) (a36) 0 (fun n40 => ckI (x1) (n40) (J_X12_flush_62 b0 fu rc22  (x0) (x1) (sI (σ) (a36) ((x1).toNatClampNeg) (0)))))))))))))
def m_X12_flush (b0 fu : Nat) (a0 : Nat) (σ : tM) : Option (((Unit) ⊕ Unit) × tM) := grw σ (ckO b0 (σ) (a0) 11 (clx (m_X12_flushAct b0 fu (a0) (σ)) (fun v3 ρ4 => ckO b0 (ρ4) (a0) 11 (L_X12_flush_22 b0 fu  (fu) (a0) (0) (sI (sI (ρ4) (a0) 29 (tI (ρ4) (a0) 28)) (a0) 32 (tI (sI (ρ4) (a0) 29 (tI (ρ4) (a0) 28)) (a0) 31))))))
set_option maxRecDepth 100000 in
set_option maxHeartbeats 1000000 in
theorem j_X12_flush_101 {p : Program} {l : Launch} {e : Env} {s : State} {m : MethodId} {args : Array Value} {below : List Frame} {meth : Method} {c : Code} {D : va_G} {aC : Nat → ClassId} {b0 fu : Nat} {σ0 τ : tM} {v : (Unit) ⊕ Unit}  (C : tCx p l s m args meth c yX12_flush.cls cX12_flush 2 none D aC b0 σ0) (htab : ∀ x ∈ c.exceptionTable.toList, False) (hin : meth.name = yX12_flush.name)   {σ : tM} (hm : J_X12_flush_101 b0 fu   σ = some (v, τ)) : tX p l e s m args below meth c 2 4 92 D aC b0 σ0 (rxV "SyncTreeModel$Off" v) τ 101 [] [] σ := by
  unfold J_X12_flush_101 at hm
  obtain ⟨rfl, rfl⟩ := ret_e hm
  exact zx_vret C rfl rfl rfl dX12_flush_101
set_option maxRecDepth 100000 in
set_option maxHeartbeats 1000000 in
theorem j_X12_flush_62 {p : Program} {l : Launch} {e : Env} {s : State} {m : MethodId} {args : Array Value} {below : List Frame} {meth : Method} {c : Code} {D : va_G} {aC : Nat → ClassId} {b0 fu : Nat} {σ0 τ : tM} {v : (Unit) ⊕ Unit} {rc22 : Nat → Int32 → tM → Option (((Unit) ⊕ Unit) × tM)} (C : tCx p l s m args meth c yX12_flush.cls cX12_flush 2 none D aC b0 σ0) (htab : ∀ x ∈ c.exceptionTable.toList, False) (hin : meth.name = yX12_flush.name) (hrc22 : ∀ (x0 : Nat) (x1 : Int32) (ρ : tM), rc22 x0 x1 ρ = some (v, τ) → tX p l e s m args below meth c 2 4 92 D aC b0 σ0 (rxV "SyncTreeModel$Off" v) τ 22 [(0, .ref (x0)), (1, .int (x1))] [] ρ) {x0 : Nat} {x1 : Int32} {σ : tM} (hm : J_X12_flush_62 b0 fu rc22 x0 x1 σ = some (v, τ)) : tX p l e s m args below meth c 2 4 92 D aC b0 σ0 (rxV "SyncTreeModel$Off" v) τ 62 [(0, .ref (x0)), (1, .int (x1))] [] σ := by
  unfold J_X12_flush_62 at hm
  obtain ⟨y28, hy28⟩ : ∃ z : Int32, z = (x1) + Int32.ofInt 1 := ⟨_, rfl⟩
  replace hm := ltb_e hm hy28
  refine zx_iinc C [(1, .int (y28)), (0, .ref (x0))] dX12_flush_62 1 rfl hy28.symm (by decide) rfl ?_
  refine zx_goto C 22 dX12_flush_65 (by decide) ?_
  exact zx_lv [1, 0] [(0, .ref (x0)), (1, .int (y28))] rfl (hrc22 _ _ _ hm)
set_option maxRecDepth 100000 in
set_option maxHeartbeats 1000000 in
theorem l_X12_flush_22 {p : Program} {l : Launch} {e : Env} {s : State} {m : MethodId} {args : Array Value} {below : List Frame} {meth : Method} {c : Code} {D : va_G} {aC : Nat → ClassId} {b0 fu : Nat} {σ0 τ : tM} {v : (Unit) ⊕ Unit}  (C : tCx p l s m args meth c yX12_flush.cls cX12_flush 2 none D aC b0 σ0) (htab : ∀ x ∈ c.exceptionTable.toList, False) (hin : meth.name = yX12_flush.name)  : ∀ (n : Nat) (x0 : Nat) (x1 : Int32) (σ : tM), L_X12_flush_22 b0 fu  n x0 x1 σ = some (v, τ) → tX p l e s m args below meth c 2 4 92 D aC b0 σ0 (rxV "SyncTreeModel$Off" v) τ 22 [(0, .ref (x0)), (1, .int (x1))] [] σ := by
  intro n
  induction n with
  | zero => intro x0 x1 σ hm; unfold L_X12_flush_22 at hm; cases hm
  | succ n ih =>
    intro x0 x1 σ hm
    unfold L_X12_flush_22 at hm
    obtain ⟨rc22, hrc⟩ : ∃ z, z = L_X12_flush_22 b0 fu  n := ⟨_, rfl⟩
    replace hm := ltb_e hm hrc
    rw [← hrc] at ih
    have hrc22 := ih
    clear ih hrc
    refine zx_iload_n C dX12_flush_22 1 rfl ?_
    refine zx_aload_n C dX12_flush_23 0 rfl ?_
    obtain ⟨k8, i9, hm⟩ := ckO_e hm
    refine zx_get (j := 7) C tC_11 k8 i9 ⟨by decide, Or.inl W_6_226⟩ dX12_flush_24 (.int (tI (σ) (x0) 7)) rfl ?_
    refine zx_icmp_ge C 68 dX12_flush_27 (by decide) (fun c10 => ?_) (fun c10 => ?_)
    · replace hm := ip_e hm c10
      refine zx_aload_n C dX12_flush_68 0 rfl ?_
      obtain ⟨v11, ρ12, h13, hm⟩ := cll_e hm
      refine zx_callV (σ := σ) C [] tC_11 k8 i9 Y_X12_forget W_7_232 W_7_234 Wp_69 (c_X12_forget h13) (by decide) (by decide) rfl (Nat.le_of_ble_eq_true rfl) dX12_flush_69 rfl ?_
      refine zx_aload_n C dX12_flush_72 0 rfl ?_
      obtain ⟨k14, i15, hm⟩ := ckO_e hm
      refine zx_get (j := 30) C tC_11 k14 i15 ⟨by decide, Or.inl W_7_9⟩ dX12_flush_73 (.int (tI (ρ12) (x0) 30)) rfl ?_
      refine zx_aload_n C dX12_flush_76 0 rfl ?_
      refine zx_get (j := 31) C tC_11 k14 i15 ⟨by decide, Or.inl W_7_10⟩ dX12_flush_77 (.int (tI (ρ12) (x0) 31)) rfl ?_
      refine zx_icmp_le C 101 dX12_flush_80 (by decide) (fun c16 => ?_) (fun c16 => ?_)
      · replace hm := ip_e hm c16
        exact zx_lv [] [] rfl (j_X12_flush_101 C htab hin    hm)
      · replace hm := in_e hm c16
        refine zx_aload_n C dX12_flush_83 0 rfl ?_
        refine zx_aload_n C dX12_flush_84 0 rfl ?_
        refine zx_get (j := 30) C tC_11 k14 i15 ⟨by decide, Or.inl W_7_9⟩ dX12_flush_85 (.int (tI (ρ12) (x0) 30)) rfl ?_
        refine zx_put (j := 31) (ρ := sI (ρ12) (x0) 31 (tI (ρ12) (x0) 30)) C tC_11 k14 i15 ⟨by decide, Or.inl W_7_10⟩ rfl rfl rfl (sI_ok (fun _ => rfl)) dX12_flush_88 ?_
        refine zx_aload_n C dX12_flush_91 0 rfl ?_
        refine zx_iconst (v := 0) C dX12_flush_92 (by decide) ?_
        refine zx_iconst (v := 1) C dX12_flush_93 (by decide) ?_
        refine zx_aload_n C dX12_flush_94 0 rfl ?_
        refine zx_get (j := 31) C tC_11 k14 i15 ⟨by decide, Or.inl W_7_10⟩ dX12_flush_95 (.int (tI (sI (ρ12) (x0) 31 (tI (ρ12) (x0) 30)) (x0) 31)) rfl ?_
        rcases clx_e hm with ⟨v17, ρ18, h19, hm⟩ | ⟨ρ18, h19, hm⟩
        · refine zx_callV (σ := sI (ρ12) (x0) 31 (tI (ρ12) (x0) 30)) C [.int (0), .int (1), .int (tI (sI (ρ12) (x0) 31 (tI (ρ12) (x0) 30)) (x0) 31)] tC_11 k14 i15 Y_X12_version W_7_237 W_7_239 Wp_70 (c_X12_version h19) (by decide) (by decide) rfl (Nat.le_of_ble_eq_true rfl) dX12_flush_98 rfl ?_
          exact zx_lv [] [] rfl (j_X12_flush_101 C htab hin    hm)
        · cases hm
          exact zx_outV (σ := sI (ρ12) (x0) 31 (tI (ρ12) (x0) 30)) C htab [.int (0), .int (1), .int (tI (sI (ρ12) (x0) 31 (tI (ρ12) (x0) 30)) (x0) 31)] tC_11 k14 i15 Y_X12_version W_7_237 W_7_239 Wp_70 (c_X12_version h19) rfl (by decide) (by decide) rfl (Nat.le_of_ble_eq_true rfl) dX12_flush_98 rfl
    · replace hm := in_e hm c10
      refine zx_aload_n C dX12_flush_30 0 rfl ?_
      obtain ⟨a21, h22, hm⟩ := osm_e hm
      refine zx_get (j := 24) C tC_11 k8 i9 ⟨by decide, Or.inl W_7_3⟩ dX12_flush_31 (.ref a21) (rf_s h22) ?_
      refine zx_iload_n C dX12_flush_34 1 rfl ?_
      obtain ⟨n25, k23, i24, hm⟩ := ckR_e hm
      obtain ⟨h26, hm⟩ := ckI_e hm
      refine zx_iald C k23 i24 h26 dX12_flush_35 ?_
      refine zx_iconst (v := 1) C dX12_flush_36 (by decide) ?_
      refine zx_icmp_le C 62 dX12_flush_37 (by decide) (fun c27 => ?_) (fun c27 => ?_)
      · replace hm := ip_e hm c27
        exact zx_lv [0, 1] [(0, .ref (x0)), (1, .int (x1))] rfl (j_X12_flush_62 C htab hin hrc22   hm)
      · replace hm := in_e hm c27
        refine zx_aload_n C dX12_flush_40 0 rfl ?_
        obtain ⟨a29, h30, hm⟩ := osm_e hm
        refine zx_get (j := 24) C tC_11 k8 i9 ⟨by decide, Or.inl W_7_3⟩ dX12_flush_41 (.ref a29) (rf_s h30) ?_
        refine zx_iload_n C dX12_flush_44 1 rfl ?_
        obtain ⟨n33, k31, i32, hm⟩ := ckR_e hm
        obtain ⟨h34, hm⟩ := ckI_e hm
        refine zx_iald C k31 i32 h34 dX12_flush_45 ?_
        refine zx_iconst (v := 1) C dX12_flush_46 (by decide) ?_
        refine zx_isub C dX12_flush_47 ?_
        refine zx_aload_n C dX12_flush_48 0 rfl ?_
        refine zx_get (j := 29) C tC_11 k8 i9 ⟨by decide, Or.inl W_7_8⟩ dX12_flush_49 (.int (tI (σ) (x0) 29)) rfl ?_
        refine zx_icmp_gt C 62 dX12_flush_52 (by decide) (fun c35 => ?_) (fun c35 => ?_)
        · replace hm := ip_e hm c35
          exact zx_lv [0, 1] [(0, .ref (x0)), (1, .int (x1))] rfl (j_X12_flush_62 C htab hin hrc22   hm)
        · replace hm := in_e hm c35
          refine zx_aload_n C dX12_flush_55 0 rfl ?_
          obtain ⟨a36, h37, hm⟩ := osm_e hm
          refine zx_get (j := 24) C tC_11 k8 i9 ⟨by decide, Or.inl W_7_3⟩ dX12_flush_56 (.ref a36) (rf_s h37) ?_
          refine zx_iload_n C dX12_flush_59 1 rfl ?_
          refine zx_iconst (v := 0) C dX12_flush_60 (by decide) ?_
          obtain ⟨n40, k38, i39, hm⟩ := ckR_e hm
          obtain ⟨h41, hm⟩ := ckI_e hm
          refine zx_iast C k38 i39 h41 dX12_flush_61 ?_
          exact zx_lv [0, 1] [(0, .ref (x0)), (1, .int (x1))] rfl (j_X12_flush_62 C htab hin hrc22   hm)
set_option maxRecDepth 100000 in
set_option maxHeartbeats 1000000 in
theorem c_X12_flush {l : Launch} {D : va_G} {aC : Nat → ClassId} {b0 fu : Nat} {a0 : Nat} {σ τ : tM} {v : (Unit) ⊕ Unit} (hm : m_X12_flush b0 fu a0 σ = some (v, τ)) : tMt l D aC b0 yX12_flush (Cond.code yX12_flush cX12_flush 2 none) 4 92 [.ref (a0)] σ (rxV "SyncTreeModel$Off" v) τ := by
  unfold m_X12_flush at hm
  obtain ⟨hg, hm⟩ := grw_e hm
  refine tMt_of (n := 0) rfl (Nat.le_of_ble_eq_true rfl) hg ?_
  intro p e s m below meth c C htab hin
  refine zx_lv [0] [(0, .ref (a0))] rfl ?_
  refine zx_aload_n C dX12_flush_0 0 rfl ?_
  obtain ⟨k1, i2, hm⟩ := ckO_e hm
  rcases clx_e hm with ⟨v3, ρ4, h5, hm⟩ | ⟨ρ4, h5, hm⟩
  · refine zx_callV (σ := σ) C [] tC_11 k1 i2 Y_X12_flushAct W_7_212 W_7_214 Wp_64 (c_X12_flushAct h5) (by decide) (by decide) rfl (Nat.le_of_ble_eq_true rfl) dX12_flush_1 rfl ?_
    refine zx_aload_n C dX12_flush_4 0 rfl ?_
    refine zx_aload_n C dX12_flush_5 0 rfl ?_
    obtain ⟨k6, i7, hm⟩ := ckO_e hm
    refine zx_get (j := 28) C tC_11 k6 i7 ⟨by decide, Or.inl W_7_7⟩ dX12_flush_6 (.int (tI (ρ4) (a0) 28)) rfl ?_
    refine zx_put (j := 29) (ρ := sI (ρ4) (a0) 29 (tI (ρ4) (a0) 28)) C tC_11 k6 i7 ⟨by decide, Or.inl W_7_8⟩ rfl rfl rfl (sI_ok (fun _ => rfl)) dX12_flush_9 ?_
    refine zx_aload_n C dX12_flush_12 0 rfl ?_
    refine zx_aload_n C dX12_flush_13 0 rfl ?_
    refine zx_get (j := 31) C tC_11 k6 i7 ⟨by decide, Or.inl W_7_10⟩ dX12_flush_14 (.int (tI (sI (ρ4) (a0) 29 (tI (ρ4) (a0) 28)) (a0) 31)) rfl ?_
    refine zx_put (j := 32) (ρ := sI (sI (ρ4) (a0) 29 (tI (ρ4) (a0) 28)) (a0) 32 (tI (sI (ρ4) (a0) 29 (tI (ρ4) (a0) 28)) (a0) 31)) C tC_11 k6 i7 ⟨by decide, Or.inl W_7_11⟩ rfl rfl rfl (sI_ok (fun _ => rfl)) dX12_flush_17 ?_
    refine zx_iconst (v := 0) C dX12_flush_20 (by decide) ?_
    refine zx_istore_n C [(1, .int (0)), (0, .ref (a0))] dX12_flush_21 rfl (by decide) rfl ?_
    exact zx_lv [1, 0] [(0, .ref (a0)), (1, .int (0))] rfl (l_X12_flush_22 C htab hin  _ _ _ _ hm)
  · cases hm
    exact zx_outV (σ := σ) C htab [] tC_11 k1 i2 Y_X12_flushAct W_7_212 W_7_214 Wp_64 (c_X12_flushAct h5) rfl (by decide) (by decide) rfl (Nat.le_of_ble_eq_true rfl) dX12_flush_1 rfl
