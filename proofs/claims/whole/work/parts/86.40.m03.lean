abbrev cX12_pointer : ByteArray := prog_13_method_33_code
def yX12_pointer : MethodName := ⟨"SyncTreeModel", "pointer", "(II)I"⟩
theorem Y_X12_pointer : tY yX12_pointer cX12_pointer 3 (some .int) 2 := ⟨W_8_71, W_1_14, ⟨by decide +kernel, by decide +kernel⟩, by decide +kernel⟩
theorem dX12_pointer_0 : decode cX12_pointer 0 = .ok (.aload_n 0, 1) := by decide +kernel
theorem dX12_pointer_1 : decode cX12_pointer 1 = .ok (.getfield 13, 3) := by decide +kernel
theorem dX12_pointer_4 : decode cX12_pointer 4 = .ok (.iload_n 1, 1) := by decide +kernel
theorem dX12_pointer_5 : decode cX12_pointer 5 = .ok (.iconst 2, 1) := by decide +kernel
theorem dX12_pointer_6 : decode cX12_pointer 6 = .ok (.iload_n 2, 1) := by decide +kernel
theorem dX12_pointer_7 : decode cX12_pointer 7 = .ok (.iadd, 1) := by decide +kernel
theorem dX12_pointer_8 : decode cX12_pointer 8 = .ok (.invokestatic 233, 3) := by decide +kernel
theorem dX12_pointer_11 : decode cX12_pointer 11 = .ok (.iaload, 1) := by decide +kernel
theorem dX12_pointer_12 : decode cX12_pointer 12 = .ok (.ireturn, 1) := by decide +kernel
set_option maxRecDepth 100000 in
set_option maxHeartbeats 1000000 in
theorem c_X12_pointer {l : Launch} {D : va_G} {aC : Nat → ClassId} {b0 fu : Nat} {a0 : Nat} {p0 : Int32} {p1 : Int32} {σ τ : tM} {v : Int32} (hm : m_X12_pointer b0 fu a0 p0 p1 σ = some (v, τ)) : tMt l D aC b0 yX12_pointer (Cond.code yX12_pointer cX12_pointer 3 (some .int)) 1 21 [.ref (a0), .int (p0), .int (p1)] σ (.inl (some (.int v))) τ := by
  unfold m_X12_pointer at hm
  obtain ⟨hg, hm⟩ := grw_e hm
  refine tMt_of (n := 0) rfl (Nat.le_of_ble_eq_true rfl) hg ?_
  intro p e s m below meth c C htab hin
  refine zx_lv [0, 1, 2] [(0, .ref (a0)), (1, .int (p0)), (2, .int (p1))] rfl ?_
  refine zx_aload_n C dX12_pointer_0 0 rfl ?_
  obtain ⟨k1, i2, hm⟩ := ckO_e hm
  obtain ⟨a3, h4, hm⟩ := osm_e hm
  refine zx_get (j := 1) C tC_11 k1 i2 ⟨by decide, Or.inl W_6_221⟩ dX12_pointer_1 (.ref a3) (rf_s h4) ?_
  refine zx_iload_n C dX12_pointer_4 1 rfl ?_
  refine zx_iconst (v := 2) C dX12_pointer_5 (by decide) ?_
  refine zx_iload_n C dX12_pointer_6 2 rfl ?_
  refine zx_iadd C dX12_pointer_7 ?_
  obtain ⟨v5, ρ6, h7, hm⟩ := cll_e hm
  refine zx_callS (σ := σ) C [.int (p0), .int ((2) + (p1))] Y_X12_room W_6_209 W_6_210 (c_X12_room h7) (by decide) (by decide) rfl (Nat.le_of_ble_eq_true rfl) dX12_pointer_8 rfl ?_
  obtain ⟨n10, k8, i9, hm⟩ := ckR_e hm
  obtain ⟨h11, hm⟩ := ckI_e hm
  refine zx_iald C k8 i9 h11 dX12_pointer_11 ?_
  obtain ⟨rfl, rfl⟩ := ret_e hm
  exact zx_iret C rfl rfl rfl dX12_pointer_12
abbrev cX12_putPointer : ByteArray := prog_13_method_34_code
def yX12_putPointer : MethodName := ⟨"SyncTreeModel", "putPointer", "(III)V"⟩
theorem Y_X12_putPointer : tY yX12_putPointer cX12_putPointer 4 none 3 := ⟨W_8_130, W_1_14, ⟨by decide +kernel, by decide +kernel⟩, by decide +kernel⟩
theorem dX12_putPointer_0 : decode cX12_putPointer 0 = .ok (.aload_n 0, 1) := by decide +kernel
theorem dX12_putPointer_1 : decode cX12_putPointer 1 = .ok (.iload_n 1, 1) := by decide +kernel
theorem dX12_putPointer_2 : decode cX12_putPointer 2 = .ok (.iconst 2, 1) := by decide +kernel
theorem dX12_putPointer_3 : decode cX12_putPointer 3 = .ok (.iload_n 2, 1) := by decide +kernel
theorem dX12_putPointer_4 : decode cX12_putPointer 4 = .ok (.iadd, 1) := by decide +kernel
theorem dX12_putPointer_5 : decode cX12_putPointer 5 = .ok (.invokestatic 233, 3) := by decide +kernel
theorem dX12_putPointer_8 : decode cX12_putPointer 8 = .ok (.iload_n 3, 1) := by decide +kernel
theorem dX12_putPointer_9 : decode cX12_putPointer 9 = .ok (.invokevirtual 30, 3) := by decide +kernel
theorem dX12_putPointer_12 : decode cX12_putPointer 12 = .ok (.aload_n 0, 1) := by decide +kernel
theorem dX12_putPointer_13 : decode cX12_putPointer 13 = .ok (.aload_n 0, 1) := by decide +kernel
theorem dX12_putPointer_14 : decode cX12_putPointer 14 = .ok (.iload_n 1, 1) := by decide +kernel
theorem dX12_putPointer_15 : decode cX12_putPointer 15 = .ok (.invokevirtual 240, 3) := by decide +kernel
theorem dX12_putPointer_18 : decode cX12_putPointer 18 = .ok (.invokevirtual 34, 3) := by decide +kernel
theorem dX12_putPointer_21 : decode cX12_putPointer 21 = .ok (.return_, 1) := by decide +kernel
set_option maxRecDepth 100000 in
set_option maxHeartbeats 1000000 in
theorem c_X12_putPointer {l : Launch} {D : va_G} {aC : Nat → ClassId} {b0 fu : Nat} {a0 : Nat} {p0 : Int32} {p1 : Int32} {p2 : Int32} {σ τ : tM} {v : Unit} (hm : m_X12_putPointer b0 fu a0 p0 p1 p2 σ = some (v, τ)) : tMt l D aC b0 yX12_putPointer (Cond.code yX12_putPointer cX12_putPointer 4 none) 3 70 [.ref (a0), .int (p0), .int (p1), .int (p2)] σ (.inl none) τ := by
  unfold m_X12_putPointer at hm
  obtain ⟨hg, hm⟩ := grw_e hm
  refine tMt_of (n := 0) rfl (Nat.le_of_ble_eq_true rfl) hg ?_
  intro p e s m below meth c C htab hin
  refine zx_lv [0, 1, 2, 3] [(0, .ref (a0)), (1, .int (p0)), (2, .int (p1)), (3, .int (p2))] rfl ?_
  refine zx_aload_n C dX12_putPointer_0 0 rfl ?_
  refine zx_iload_n C dX12_putPointer_1 1 rfl ?_
  refine zx_iconst (v := 2) C dX12_putPointer_2 (by decide) ?_
  refine zx_iload_n C dX12_putPointer_3 2 rfl ?_
  refine zx_iadd C dX12_putPointer_4 ?_
  obtain ⟨v1, ρ2, h3, hm⟩ := cll_e hm
  refine zx_callS (σ := σ) C [.int (p0), .int ((2) + (p1))] Y_X12_room W_6_209 W_6_210 (c_X12_room h3) (by decide) (by decide) rfl (Nat.le_of_ble_eq_true rfl) dX12_putPointer_5 rfl ?_
  refine zx_iload_n C dX12_putPointer_8 3 rfl ?_
  obtain ⟨k4, i5, hm⟩ := ckO_e hm
  obtain ⟨v6, ρ7, h8, hm⟩ := cll_e hm
  refine zx_callV (σ := ρ2) C [.int (v1), .int (p2)] tC_11 k4 i5 Y_X12_put W_8_103 W_8_105 Wp_95 (c_X12_put h8) (by decide) (by decide) rfl (Nat.le_of_ble_eq_true rfl) dX12_putPointer_9 rfl ?_
  refine zx_aload_n C dX12_putPointer_12 0 rfl ?_
  refine zx_aload_n C dX12_putPointer_13 0 rfl ?_
  refine zx_iload_n C dX12_putPointer_14 1 rfl ?_
  obtain ⟨k9, i10, hm⟩ := ckO_e hm
  obtain ⟨v11, ρ12, h13, hm⟩ := cll_e hm
  refine zx_callV (σ := ρ7) C [.int (p0)] tC_11 k9 i10 Y_X12_numberOf W_8_123 W_8_125 Wp_100 (c_X12_numberOf h13) (by decide) (by decide) rfl (Nat.le_of_ble_eq_true rfl) dX12_putPointer_15 rfl ?_
  obtain ⟨k14, i15, hm⟩ := ckO_e hm
  obtain ⟨v16, ρ17, h18, hm⟩ := cll_e hm
  refine zx_callV (σ := ρ12) C [.int (v11)] tC_11 k14 i15 Y_X12_touch W_8_107 W_8_109 Wp_96 (c_X12_touch h18) (by decide) (by decide) rfl (Nat.le_of_ble_eq_true rfl) dX12_putPointer_18 rfl ?_
  obtain ⟨rfl, rfl⟩ := ret_e hm
  exact zx_vret C rfl rfl rfl dX12_putPointer_21
abbrev cX12_leafOf : ByteArray := prog_13_method_35_code
def yX12_leafOf : MethodName := ⟨"SyncTreeModel", "leafOf", "(II)I"⟩
theorem Y_X12_leafOf : tY yX12_leafOf cX12_leafOf 4 (some .int) 2 := ⟨W_8_67, W_1_14, ⟨by decide +kernel, by decide +kernel⟩, by decide +kernel⟩
theorem dX12_leafOf_0 : decode cX12_leafOf 0 = .ok (.iload_n 2, 1) := by decide +kernel
theorem dX12_leafOf_1 : decode cX12_leafOf 1 = .ok (.bipush 40, 2) := by decide +kernel
theorem dX12_leafOf_3 : decode cX12_leafOf 3 = .ok (.if_icmp .ge 11, 3) := by decide +kernel
theorem dX12_leafOf_6 : decode cX12_leafOf 6 = .ok (.aload_n 0, 1) := by decide +kernel
theorem dX12_leafOf_7 : decode cX12_leafOf 7 = .ok (.iload_n 1, 1) := by decide +kernel
theorem dX12_leafOf_8 : decode cX12_leafOf 8 = .ok (.bipush 93, 2) := by decide +kernel
theorem dX12_leafOf_10 : decode cX12_leafOf 10 = .ok (.invokevirtual 247, 3) := by decide +kernel
theorem dX12_leafOf_13 : decode cX12_leafOf 13 = .ok (.ireturn, 1) := by decide +kernel
theorem dX12_leafOf_14 : decode cX12_leafOf 14 = .ok (.aload_n 0, 1) := by decide +kernel
theorem dX12_leafOf_15 : decode cX12_leafOf 15 = .ok (.iload_n 1, 1) := by decide +kernel
theorem dX12_leafOf_16 : decode cX12_leafOf 16 = .ok (.bipush 94, 2) := by decide +kernel
theorem dX12_leafOf_18 : decode cX12_leafOf 18 = .ok (.invokevirtual 247, 3) := by decide +kernel
theorem dX12_leafOf_21 : decode cX12_leafOf 21 = .ok (.istore_n 3, 1) := by decide +kernel
theorem dX12_leafOf_22 : decode cX12_leafOf 22 = .ok (.iload_n 3, 1) := by decide +kernel
theorem dX12_leafOf_23 : decode cX12_leafOf 23 = .ok (.ifCond .ne 7, 3) := by decide +kernel
theorem dX12_leafOf_26 : decode cX12_leafOf 26 = .ok (.iconst 0, 1) := by decide +kernel
theorem dX12_leafOf_27 : decode cX12_leafOf 27 = .ok (.goto 17, 3) := by decide +kernel
theorem dX12_leafOf_30 : decode cX12_leafOf 30 = .ok (.aload_n 0, 1) := by decide +kernel
theorem dX12_leafOf_31 : decode cX12_leafOf 31 = .ok (.iload_n 3, 1) := by decide +kernel
theorem dX12_leafOf_32 : decode cX12_leafOf 32 = .ok (.iconst 1, 1) := by decide +kernel
theorem dX12_leafOf_33 : decode cX12_leafOf 33 = .ok (.isub, 1) := by decide +kernel
theorem dX12_leafOf_34 : decode cX12_leafOf 34 = .ok (.iload_n 2, 1) := by decide +kernel
theorem dX12_leafOf_35 : decode cX12_leafOf 35 = .ok (.bipush 40, 2) := by decide +kernel
theorem dX12_leafOf_37 : decode cX12_leafOf 37 = .ok (.isub, 1) := by decide +kernel
theorem dX12_leafOf_38 : decode cX12_leafOf 38 = .ok (.bipush 32, 2) := by decide +kernel
theorem dX12_leafOf_40 : decode cX12_leafOf 40 = .ok (.idiv, 1) := by decide +kernel
theorem dX12_leafOf_41 : decode cX12_leafOf 41 = .ok (.invokevirtual 250, 3) := by decide +kernel
theorem dX12_leafOf_44 : decode cX12_leafOf 44 = .ok (.ireturn, 1) := by decide +kernel
set_option maxRecDepth 100000 in
set_option maxHeartbeats 1000000 in
theorem j_X12_leafOf_44 {p : Program} {l : Launch} {e : Env} {s : State} {m : MethodId} {args : Array Value} {below : List Frame} {meth : Method} {c : Code} {D : va_G} {aC : Nat → ClassId} {b0 fu : Nat} {σ0 τ : tM} {v : Int32}  (C : tCx p l s m args meth c yX12_leafOf.cls cX12_leafOf 4 (some .int) D aC b0 σ0) (htab : ∀ x ∈ c.exceptionTable.toList, False) (hin : meth.name = yX12_leafOf.name)  {s0 : Int32} {σ : tM} (hm : J_X12_leafOf_44 b0 fu  s0 σ = some (v, τ)) : tX p l e s m args below meth c 4 2 43 D aC b0 σ0 (.inl (some (.int v))) τ 44 [] [.int (s0)] σ := by
  unfold J_X12_leafOf_44 at hm
  obtain ⟨rfl, rfl⟩ := ret_e hm
  exact zx_iret C rfl rfl rfl dX12_leafOf_44
set_option maxRecDepth 100000 in
set_option maxHeartbeats 1000000 in
theorem c_X12_leafOf {l : Launch} {D : va_G} {aC : Nat → ClassId} {b0 fu : Nat} {a0 : Nat} {p0 : Int32} {p1 : Int32} {σ τ : tM} {v : Int32} (hm : m_X12_leafOf b0 fu a0 p0 p1 σ = some (v, τ)) : tMt l D aC b0 yX12_leafOf (Cond.code yX12_leafOf cX12_leafOf 4 (some .int)) 2 43 [.ref (a0), .int (p0), .int (p1)] σ (.inl (some (.int v))) τ := by
  unfold m_X12_leafOf at hm
  obtain ⟨hg, hm⟩ := grw_e hm
  refine tMt_of (n := 0) rfl (Nat.le_of_ble_eq_true rfl) hg ?_
  intro p e s m below meth c C htab hin
  refine zx_lv [0, 1, 2] [(0, .ref (a0)), (1, .int (p0)), (2, .int (p1))] rfl ?_
  refine zx_iload_n C dX12_leafOf_0 2 rfl ?_
  refine zx_bipush (v := 40) C dX12_leafOf_1 (by decide) ?_
  refine zx_icmp_ge C 14 dX12_leafOf_3 (by decide) (fun c1 => ?_) (fun c1 => ?_)
  · replace hm := ip_e hm c1
    refine zx_aload_n C dX12_leafOf_14 0 rfl ?_
    refine zx_iload_n C dX12_leafOf_15 1 rfl ?_
    refine zx_bipush (v := 94) C dX12_leafOf_16 (by decide) ?_
    obtain ⟨k2, i3, hm⟩ := ckO_e hm
    obtain ⟨v4, ρ5, h6, hm⟩ := cll_e hm
    refine zx_callV (σ := σ) C [.int (p0), .int (94)] tC_11 k2 i3 Y_X12_node W_8_40 W_8_42 Wp_80 (c_X12_node h6) (by decide) (by decide) rfl (Nat.le_of_ble_eq_true rfl) dX12_leafOf_18 rfl ?_
    refine zx_istore_n C [(3, .int (v4)), (0, .ref (a0)), (1, .int (p0)), (2, .int (p1))] dX12_leafOf_21 rfl (by decide) rfl ?_
    refine zx_iload_n C dX12_leafOf_22 0 rfl ?_
    refine zx_if_ne C 30 dX12_leafOf_23 (by decide) (fun c7 => ?_) (fun c7 => ?_)
    · replace hm := in_e hm c7
      refine zx_aload_n C dX12_leafOf_30 1 rfl ?_
      refine zx_iload_n C dX12_leafOf_31 0 rfl ?_
      refine zx_iconst (v := 1) C dX12_leafOf_32 (by decide) ?_
      refine zx_isub C dX12_leafOf_33 ?_
      refine zx_iload_n C dX12_leafOf_34 3 rfl ?_
      refine zx_bipush (v := 40) C dX12_leafOf_35 (by decide) ?_
      refine zx_isub C dX12_leafOf_37 ?_
      refine zx_bipush (v := 32) C dX12_leafOf_38 (by decide) ?_
      refine zx_idiv C dX12_leafOf_40 (by decide) ?_
      obtain ⟨k8, i9, hm⟩ := ckO_e hm
      obtain ⟨v10, ρ11, h12, hm⟩ := cll_e hm
      refine zx_callV (σ := ρ5) C [.int ((v4) - (1)), .int (((p1) - (40)) / (32))] tC_11 k8 i9 Y_X12_pointer W_8_68 W_8_70 Wp_87 (c_X12_pointer h12) (by decide) (by decide) rfl (Nat.le_of_ble_eq_true rfl) dX12_leafOf_41 rfl ?_
      exact zx_lv [] [] rfl (j_X12_leafOf_44 C htab hin    hm)
    · replace hm := ip_e hm c7
      refine zx_iconst (v := 0) C dX12_leafOf_26 (by decide) ?_
      refine zx_goto C 44 dX12_leafOf_27 (by decide) ?_
      exact zx_lv [] [] rfl (j_X12_leafOf_44 C htab hin    hm)
  · replace hm := in_e hm c1
    refine zx_aload_n C dX12_leafOf_6 0 rfl ?_
    refine zx_iload_n C dX12_leafOf_7 1 rfl ?_
    refine zx_bipush (v := 93) C dX12_leafOf_8 (by decide) ?_
    obtain ⟨k14, i15, hm⟩ := ckO_e hm
    obtain ⟨v16, ρ17, h18, hm⟩ := cll_e hm
    refine zx_callV (σ := σ) C [.int (p0), .int (93)] tC_11 k14 i15 Y_X12_node W_8_40 W_8_42 Wp_80 (c_X12_node h18) (by decide) (by decide) rfl (Nat.le_of_ble_eq_true rfl) dX12_leafOf_10 rfl ?_
    obtain ⟨rfl, rfl⟩ := ret_e hm
    exact zx_iret C rfl rfl rfl dX12_leafOf_13
abbrev cX12_placeOf : ByteArray := prog_13_method_36_code
def yX12_placeOf : MethodName := ⟨"SyncTreeModel", "placeOf", "(I)I"⟩
theorem Y_X12_placeOf : tY yX12_placeOf cX12_placeOf 1 (some .int) 1 := ⟨W_8_74, W_1_14, ⟨by decide +kernel, by decide +kernel⟩, by decide +kernel⟩
theorem dX12_placeOf_0 : decode cX12_placeOf 0 = .ok (.iload_n 0, 1) := by decide +kernel
theorem dX12_placeOf_1 : decode cX12_placeOf 1 = .ok (.bipush 40, 2) := by decide +kernel
theorem dX12_placeOf_3 : decode cX12_placeOf 3 = .ok (.if_icmp .ge 10, 3) := by decide +kernel
theorem dX12_placeOf_6 : decode cX12_placeOf 6 = .ok (.iload_n 0, 1) := by decide +kernel
theorem dX12_placeOf_7 : decode cX12_placeOf 7 = .ok (.bipush 8, 2) := by decide +kernel
theorem dX12_placeOf_9 : decode cX12_placeOf 9 = .ok (.isub, 1) := by decide +kernel
theorem dX12_placeOf_10 : decode cX12_placeOf 10 = .ok (.goto 10, 3) := by decide +kernel
theorem dX12_placeOf_13 : decode cX12_placeOf 13 = .ok (.iload_n 0, 1) := by decide +kernel
theorem dX12_placeOf_14 : decode cX12_placeOf 14 = .ok (.bipush 40, 2) := by decide +kernel
theorem dX12_placeOf_16 : decode cX12_placeOf 16 = .ok (.isub, 1) := by decide +kernel
theorem dX12_placeOf_17 : decode cX12_placeOf 17 = .ok (.bipush 32, 2) := by decide +kernel
theorem dX12_placeOf_19 : decode cX12_placeOf 19 = .ok (.irem, 1) := by decide +kernel
theorem dX12_placeOf_20 : decode cX12_placeOf 20 = .ok (.ireturn, 1) := by decide +kernel
set_option maxRecDepth 100000 in
set_option maxHeartbeats 1000000 in
theorem j_X12_placeOf_20 {p : Program} {l : Launch} {e : Env} {s : State} {m : MethodId} {args : Array Value} {below : List Frame} {meth : Method} {c : Code} {D : va_G} {aC : Nat → ClassId} {b0 fu : Nat} {σ0 τ : tM} {v : Int32}  (C : tCx p l s m args meth c yX12_placeOf.cls cX12_placeOf 1 (some .int) D aC b0 σ0) (htab : ∀ x ∈ c.exceptionTable.toList, False) (hin : meth.name = yX12_placeOf.name)  {s0 : Int32} {σ : tM} (hm : J_X12_placeOf_20 b0 fu  s0 σ = some (v, τ)) : tX p l e s m args below meth c 1 0 0 D aC b0 σ0 (.inl (some (.int v))) τ 20 [] [.int (s0)] σ := by
  unfold J_X12_placeOf_20 at hm
  obtain ⟨rfl, rfl⟩ := ret_e hm
  exact zx_iret C rfl rfl rfl dX12_placeOf_20
set_option maxRecDepth 100000 in
set_option maxHeartbeats 1000000 in
theorem c_X12_placeOf {l : Launch} {D : va_G} {aC : Nat → ClassId} {b0 fu : Nat} {p0 : Int32} {σ τ : tM} {v : Int32} (hm : m_X12_placeOf b0 fu p0 σ = some (v, τ)) : tMt l D aC b0 yX12_placeOf (Cond.code yX12_placeOf cX12_placeOf 1 (some .int)) 0 0 [.int (p0)] σ (.inl (some (.int v))) τ := by
  unfold m_X12_placeOf at hm
  obtain ⟨hg, hm⟩ := grw_e hm
  refine tMt_of (n := 0) rfl (Nat.le_of_ble_eq_true rfl) hg ?_
  intro p e s m below meth c C htab hin
  refine zx_lv [0] [(0, .int (p0))] rfl ?_
  refine zx_iload_n C dX12_placeOf_0 0 rfl ?_
  refine zx_bipush (v := 40) C dX12_placeOf_1 (by decide) ?_
  refine zx_icmp_ge C 13 dX12_placeOf_3 (by decide) (fun c1 => ?_) (fun c1 => ?_)
  · replace hm := ip_e hm c1
    refine zx_iload_n C dX12_placeOf_13 0 rfl ?_
    refine zx_bipush (v := 40) C dX12_placeOf_14 (by decide) ?_
    refine zx_isub C dX12_placeOf_16 ?_
    refine zx_bipush (v := 32) C dX12_placeOf_17 (by decide) ?_
    refine zx_irem C dX12_placeOf_19 (by decide) ?_
    exact zx_lv [] [] rfl (j_X12_placeOf_20 C htab hin    hm)
  · replace hm := in_e hm c1
    refine zx_iload_n C dX12_placeOf_6 0 rfl ?_
    refine zx_bipush (v := 8) C dX12_placeOf_7 (by decide) ?_
    refine zx_isub C dX12_placeOf_9 ?_
    refine zx_goto C 20 dX12_placeOf_10 (by decide) ?_
    exact zx_lv [] [] rfl (j_X12_placeOf_20 C htab hin    hm)
abbrev cX12_has : ByteArray := prog_13_method_37_code
def yX12_has : MethodName := ⟨"SyncTreeModel", "has", "(II)I"⟩
theorem Y_X12_has : tY yX12_has cX12_has 4 (some .int) 2 := ⟨W_8_63, W_1_14, ⟨by decide +kernel, by decide +kernel⟩, by decide +kernel⟩
theorem dX12_has_0 : decode cX12_has 0 = .ok (.iload_n 2, 1) := by decide +kernel
theorem dX12_has_1 : decode cX12_has 1 = .ok (.bipush 8, 2) := by decide +kernel
theorem dX12_has_3 : decode cX12_has 3 = .ok (.if_icmp .ge 13, 3) := by decide +kernel
theorem dX12_has_6 : decode cX12_has 6 = .ok (.aload_n 0, 1) := by decide +kernel
theorem dX12_has_7 : decode cX12_has 7 = .ok (.iload_n 1, 1) := by decide +kernel
theorem dX12_has_8 : decode cX12_has 8 = .ok (.bipush 85, 2) := by decide +kernel
theorem dX12_has_10 : decode cX12_has 10 = .ok (.iload_n 2, 1) := by decide +kernel
theorem dX12_has_11 : decode cX12_has 11 = .ok (.iadd, 1) := by decide +kernel
theorem dX12_has_12 : decode cX12_has 12 = .ok (.invokevirtual 247, 3) := by decide +kernel
theorem dX12_has_15 : decode cX12_has 15 = .ok (.ireturn, 1) := by decide +kernel
theorem dX12_has_16 : decode cX12_has 16 = .ok (.aload_n 0, 1) := by decide +kernel
theorem dX12_has_17 : decode cX12_has 17 = .ok (.iload_n 1, 1) := by decide +kernel
theorem dX12_has_18 : decode cX12_has 18 = .ok (.iload_n 2, 1) := by decide +kernel
theorem dX12_has_19 : decode cX12_has 19 = .ok (.invokevirtual 253, 3) := by decide +kernel
theorem dX12_has_22 : decode cX12_has 22 = .ok (.istore_n 3, 1) := by decide +kernel
theorem dX12_has_23 : decode cX12_has 23 = .ok (.iload_n 3, 1) := by decide +kernel
theorem dX12_has_24 : decode cX12_has 24 = .ok (.ifCond .ne 7, 3) := by decide +kernel
theorem dX12_has_27 : decode cX12_has 27 = .ok (.iconst 0, 1) := by decide +kernel
theorem dX12_has_28 : decode cX12_has 28 = .ok (.goto 14, 3) := by decide +kernel
theorem dX12_has_31 : decode cX12_has 31 = .ok (.aload_n 0, 1) := by decide +kernel
theorem dX12_has_32 : decode cX12_has 32 = .ok (.iload_n 3, 1) := by decide +kernel
theorem dX12_has_33 : decode cX12_has 33 = .ok (.iconst 1, 1) := by decide +kernel
theorem dX12_has_34 : decode cX12_has 34 = .ok (.isub, 1) := by decide +kernel
theorem dX12_has_35 : decode cX12_has 35 = .ok (.iload_n 2, 1) := by decide +kernel
theorem dX12_has_36 : decode cX12_has 36 = .ok (.invokestatic 256, 3) := by decide +kernel
theorem dX12_has_39 : decode cX12_has 39 = .ok (.invokevirtual 250, 3) := by decide +kernel
theorem dX12_has_42 : decode cX12_has 42 = .ok (.ireturn, 1) := by decide +kernel
set_option maxRecDepth 100000 in
set_option maxHeartbeats 1000000 in
theorem j_X12_has_42 {p : Program} {l : Launch} {e : Env} {s : State} {m : MethodId} {args : Array Value} {below : List Frame} {meth : Method} {c : Code} {D : va_G} {aC : Nat → ClassId} {b0 fu : Nat} {σ0 τ : tM} {v : Int32}  (C : tCx p l s m args meth c yX12_has.cls cX12_has 4 (some .int) D aC b0 σ0) (htab : ∀ x ∈ c.exceptionTable.toList, False) (hin : meth.name = yX12_has.name)  {s0 : Int32} {σ : tM} (hm : J_X12_has_42 b0 fu  s0 σ = some (v, τ)) : tX p l e s m args below meth c 4 3 66 D aC b0 σ0 (.inl (some (.int v))) τ 42 [] [.int (s0)] σ := by
  unfold J_X12_has_42 at hm
  obtain ⟨rfl, rfl⟩ := ret_e hm
  exact zx_iret C rfl rfl rfl dX12_has_42
set_option maxRecDepth 100000 in
set_option maxHeartbeats 1000000 in
theorem c_X12_has {l : Launch} {D : va_G} {aC : Nat → ClassId} {b0 fu : Nat} {a0 : Nat} {p0 : Int32} {p1 : Int32} {σ τ : tM} {v : Int32} (hm : m_X12_has b0 fu a0 p0 p1 σ = some (v, τ)) : tMt l D aC b0 yX12_has (Cond.code yX12_has cX12_has 4 (some .int)) 3 66 [.ref (a0), .int (p0), .int (p1)] σ (.inl (some (.int v))) τ := by
  unfold m_X12_has at hm
  obtain ⟨hg, hm⟩ := grw_e hm
  refine tMt_of (n := 0) rfl (Nat.le_of_ble_eq_true rfl) hg ?_
  intro p e s m below meth c C htab hin
  refine zx_lv [0, 1, 2] [(0, .ref (a0)), (1, .int (p0)), (2, .int (p1))] rfl ?_
  refine zx_iload_n C dX12_has_0 2 rfl ?_
  refine zx_bipush (v := 8) C dX12_has_1 (by decide) ?_
  refine zx_icmp_ge C 16 dX12_has_3 (by decide) (fun c1 => ?_) (fun c1 => ?_)
  · replace hm := ip_e hm c1
    refine zx_aload_n C dX12_has_16 0 rfl ?_
    refine zx_iload_n C dX12_has_17 1 rfl ?_
    refine zx_iload_n C dX12_has_18 2 rfl ?_
    obtain ⟨k2, i3, hm⟩ := ckO_e hm
    obtain ⟨v4, ρ5, h6, hm⟩ := cll_e hm
    refine zx_callV (σ := σ) C [.int (p0), .int (p1)] tC_11 k2 i3 Y_X12_leafOf W_8_64 W_8_66 Wp_86 (c_X12_leafOf h6) (by decide) (by decide) rfl (Nat.le_of_ble_eq_true rfl) dX12_has_19 rfl ?_
    refine zx_istore_n C [(3, .int (v4)), (0, .ref (a0)), (1, .int (p0)), (2, .int (p1))] dX12_has_22 rfl (by decide) rfl ?_
    refine zx_iload_n C dX12_has_23 0 rfl ?_
    refine zx_if_ne C 31 dX12_has_24 (by decide) (fun c7 => ?_) (fun c7 => ?_)
    · replace hm := in_e hm c7
      refine zx_aload_n C dX12_has_31 1 rfl ?_
      refine zx_iload_n C dX12_has_32 0 rfl ?_
      refine zx_iconst (v := 1) C dX12_has_33 (by decide) ?_
      refine zx_isub C dX12_has_34 ?_
      refine zx_iload_n C dX12_has_35 3 rfl ?_
      obtain ⟨v8, ρ9, h10, hm⟩ := cll_e hm
      refine zx_callS (σ := ρ5) C [.int (p1)] Y_X12_placeOf W_8_72 W_8_73 (c_X12_placeOf h10) (by decide) (by decide) rfl (Nat.le_of_ble_eq_true rfl) dX12_has_36 rfl ?_
      obtain ⟨k11, i12, hm⟩ := ckO_e hm
      obtain ⟨v13, ρ14, h15, hm⟩ := cll_e hm
      refine zx_callV (σ := ρ9) C [.int ((v4) - (1)), .int (v8)] tC_11 k11 i12 Y_X12_pointer W_8_68 W_8_70 Wp_87 (c_X12_pointer h15) (by decide) (by decide) rfl (Nat.le_of_ble_eq_true rfl) dX12_has_39 rfl ?_
      exact zx_lv [] [] rfl (j_X12_has_42 C htab hin    hm)
    · replace hm := ip_e hm c7
      refine zx_iconst (v := 0) C dX12_has_27 (by decide) ?_
      refine zx_goto C 42 dX12_has_28 (by decide) ?_
      exact zx_lv [] [] rfl (j_X12_has_42 C htab hin    hm)
  · replace hm := in_e hm c1
    refine zx_aload_n C dX12_has_6 0 rfl ?_
    refine zx_iload_n C dX12_has_7 1 rfl ?_
    refine zx_bipush (v := 85) C dX12_has_8 (by decide) ?_
    refine zx_iload_n C dX12_has_10 2 rfl ?_
    refine zx_iadd C dX12_has_11 ?_
    obtain ⟨k16, i17, hm⟩ := ckO_e hm
    obtain ⟨v18, ρ19, h20, hm⟩ := cll_e hm
    refine zx_callV (σ := σ) C [.int (p0), .int ((85) + (p1))] tC_11 k16 i17 Y_X12_node W_8_40 W_8_42 Wp_80 (c_X12_node h20) (by decide) (by decide) rfl (Nat.le_of_ble_eq_true rfl) dX12_has_12 rfl ?_
    obtain ⟨rfl, rfl⟩ := ret_e hm
    exact zx_iret C rfl rfl rfl dX12_has_15
abbrev cX12_needs : ByteArray := prog_13_method_38_code
def yX12_needs : MethodName := ⟨"SyncTreeModel", "needs", "(III)I"⟩
theorem Y_X12_needs : tY yX12_needs cX12_needs 10 (some .int) 3 := ⟨W_8_90, W_1_14, ⟨by decide +kernel, by decide +kernel⟩, by decide +kernel⟩
theorem dX12_needs_0 : decode cX12_needs 0 = .ok (.iconst 0, 1) := by decide +kernel
theorem dX12_needs_1 : decode cX12_needs 1 = .ok (.istore 4, 2) := by decide +kernel
theorem dX12_needs_3 : decode cX12_needs 3 = .ok (.iconst (-1), 1) := by decide +kernel
theorem dX12_needs_4 : decode cX12_needs 4 = .ok (.istore 5, 2) := by decide +kernel
theorem dX12_needs_6 : decode cX12_needs 6 = .ok (.aload_n 0, 1) := by decide +kernel
theorem dX12_needs_7 : decode cX12_needs 7 = .ok (.iload_n 1, 1) := by decide +kernel
theorem dX12_needs_8 : decode cX12_needs 8 = .ok (.bipush 93, 2) := by decide +kernel
theorem dX12_needs_10 : decode cX12_needs 10 = .ok (.invokevirtual 247, 3) := by decide +kernel
theorem dX12_needs_13 : decode cX12_needs 13 = .ok (.ifCond .eq 7, 3) := by decide +kernel
theorem dX12_needs_16 : decode cX12_needs 16 = .ok (.iconst 1, 1) := by decide +kernel
theorem dX12_needs_17 : decode cX12_needs 17 = .ok (.goto 4, 3) := by decide +kernel
theorem dX12_needs_20 : decode cX12_needs 20 = .ok (.iconst 0, 1) := by decide +kernel
theorem dX12_needs_21 : decode cX12_needs 21 = .ok (.istore 6, 2) := by decide +kernel
theorem dX12_needs_23 : decode cX12_needs 23 = .ok (.aload_n 0, 1) := by decide +kernel
theorem dX12_needs_24 : decode cX12_needs 24 = .ok (.iload_n 1, 1) := by decide +kernel
theorem dX12_needs_25 : decode cX12_needs 25 = .ok (.bipush 94, 2) := by decide +kernel
theorem dX12_needs_27 : decode cX12_needs 27 = .ok (.invokevirtual 247, 3) := by decide +kernel
theorem dX12_needs_30 : decode cX12_needs 30 = .ok (.ifCond .eq 7, 3) := by decide +kernel
theorem dX12_needs_33 : decode cX12_needs 33 = .ok (.iconst 1, 1) := by decide +kernel
theorem dX12_needs_34 : decode cX12_needs 34 = .ok (.goto 4, 3) := by decide +kernel
theorem dX12_needs_37 : decode cX12_needs 37 = .ok (.iconst 0, 1) := by decide +kernel
theorem dX12_needs_38 : decode cX12_needs 38 = .ok (.istore 7, 2) := by decide +kernel
theorem dX12_needs_40 : decode cX12_needs 40 = .ok (.iload_n 2, 1) := by decide +kernel
theorem dX12_needs_41 : decode cX12_needs 41 = .ok (.istore 8, 2) := by decide +kernel
theorem dX12_needs_43 : decode cX12_needs 43 = .ok (.iload 8, 2) := by decide +kernel
theorem dX12_needs_45 : decode cX12_needs 45 = .ok (.iload_n 3, 1) := by decide +kernel
theorem dX12_needs_46 : decode cX12_needs 46 = .ok (.if_icmp .gt 105, 3) := by decide +kernel
theorem dX12_needs_49 : decode cX12_needs 49 = .ok (.aload_n 0, 1) := by decide +kernel
theorem dX12_needs_50 : decode cX12_needs 50 = .ok (.iload_n 1, 1) := by decide +kernel
theorem dX12_needs_51 : decode cX12_needs 51 = .ok (.iload 8, 2) := by decide +kernel
theorem dX12_needs_53 : decode cX12_needs 53 = .ok (.invokevirtual 259, 3) := by decide +kernel
theorem dX12_needs_56 : decode cX12_needs 56 = .ok (.ifCond .eq 6, 3) := by decide +kernel
theorem dX12_needs_59 : decode cX12_needs 59 = .ok (.goto 86, 3) := by decide +kernel
theorem dX12_needs_62 : decode cX12_needs 62 = .ok (.iinc 4 1, 3) := by decide +kernel
theorem dX12_needs_65 : decode cX12_needs 65 = .ok (.iload 8, 2) := by decide +kernel
theorem dX12_needs_67 : decode cX12_needs 67 = .ok (.bipush 8, 2) := by decide +kernel
theorem dX12_needs_69 : decode cX12_needs 69 = .ok (.if_icmp .lt 21, 3) := by decide +kernel
theorem dX12_needs_72 : decode cX12_needs 72 = .ok (.iload 8, 2) := by decide +kernel
theorem dX12_needs_74 : decode cX12_needs 74 = .ok (.bipush 40, 2) := by decide +kernel
theorem dX12_needs_76 : decode cX12_needs 76 = .ok (.if_icmp .ge 14, 3) := by decide +kernel
theorem dX12_needs_79 : decode cX12_needs 79 = .ok (.iload 6, 2) := by decide +kernel
theorem dX12_needs_81 : decode cX12_needs 81 = .ok (.ifCond .ne 9, 3) := by decide +kernel
theorem dX12_needs_84 : decode cX12_needs 84 = .ok (.iinc 4 1, 3) := by decide +kernel
theorem dX12_needs_87 : decode cX12_needs 87 = .ok (.iconst 1, 1) := by decide +kernel
theorem dX12_needs_88 : decode cX12_needs 88 = .ok (.istore 6, 2) := by decide +kernel
theorem dX12_needs_90 : decode cX12_needs 90 = .ok (.iload 8, 2) := by decide +kernel
theorem dX12_needs_92 : decode cX12_needs 92 = .ok (.bipush 40, 2) := by decide +kernel
theorem dX12_needs_94 : decode cX12_needs 94 = .ok (.if_icmp .ge 6, 3) := by decide +kernel
theorem dX12_needs_97 : decode cX12_needs 97 = .ok (.goto 48, 3) := by decide +kernel
theorem dX12_needs_100 : decode cX12_needs 100 = .ok (.iload 7, 2) := by decide +kernel
theorem dX12_needs_102 : decode cX12_needs 102 = .ok (.ifCond .ne 9, 3) := by decide +kernel
theorem dX12_needs_105 : decode cX12_needs 105 = .ok (.iinc 4 1, 3) := by decide +kernel
theorem dX12_needs_108 : decode cX12_needs 108 = .ok (.iconst 1, 1) := by decide +kernel
theorem dX12_needs_109 : decode cX12_needs 109 = .ok (.istore 7, 2) := by decide +kernel
theorem dX12_needs_111 : decode cX12_needs 111 = .ok (.iload 8, 2) := by decide +kernel
theorem dX12_needs_113 : decode cX12_needs 113 = .ok (.bipush 40, 2) := by decide +kernel
theorem dX12_needs_115 : decode cX12_needs 115 = .ok (.isub, 1) := by decide +kernel
theorem dX12_needs_116 : decode cX12_needs 116 = .ok (.bipush 32, 2) := by decide +kernel
theorem dX12_needs_118 : decode cX12_needs 118 = .ok (.idiv, 1) := by decide +kernel
theorem dX12_needs_119 : decode cX12_needs 119 = .ok (.istore 9, 2) := by decide +kernel
theorem dX12_needs_121 : decode cX12_needs 121 = .ok (.aload_n 0, 1) := by decide +kernel
theorem dX12_needs_122 : decode cX12_needs 122 = .ok (.iload_n 1, 1) := by decide +kernel
theorem dX12_needs_123 : decode cX12_needs 123 = .ok (.iload 8, 2) := by decide +kernel
theorem dX12_needs_125 : decode cX12_needs 125 = .ok (.invokevirtual 253, 3) := by decide +kernel
theorem dX12_needs_128 : decode cX12_needs 128 = .ok (.ifCond .ne 13, 3) := by decide +kernel
theorem dX12_needs_131 : decode cX12_needs 131 = .ok (.iload 9, 2) := by decide +kernel
theorem dX12_needs_133 : decode cX12_needs 133 = .ok (.iload 5, 2) := by decide +kernel
theorem dX12_needs_135 : decode cX12_needs 135 = .ok (.if_icmp .eq 6, 3) := by decide +kernel
theorem dX12_needs_138 : decode cX12_needs 138 = .ok (.iinc 4 1, 3) := by decide +kernel
theorem dX12_needs_141 : decode cX12_needs 141 = .ok (.iload 9, 2) := by decide +kernel
theorem dX12_needs_143 : decode cX12_needs 143 = .ok (.istore 5, 2) := by decide +kernel
theorem dX12_needs_145 : decode cX12_needs 145 = .ok (.iinc 8 1, 3) := by decide +kernel
theorem dX12_needs_148 : decode cX12_needs 148 = .ok (.goto (-105), 3) := by decide +kernel
theorem dX12_needs_151 : decode cX12_needs 151 = .ok (.iload 4, 2) := by decide +kernel
theorem dX12_needs_153 : decode cX12_needs 153 = .ok (.ireturn, 1) := by decide +kernel
set_option maxRecDepth 100000 in
set_option maxHeartbeats 1000000 in
theorem j_X12_needs_145 {p : Program} {l : Launch} {e : Env} {s : State} {m : MethodId} {args : Array Value} {below : List Frame} {meth : Method} {c : Code} {D : va_G} {aC : Nat → ClassId} {b0 fu : Nat} {σ0 τ : tM} {v : Int32} {rc43 : Nat → Int32 → Int32 → Int32 → Int32 → Int32 → Int32 → Int32 → tM → Option ((Int32) × tM)} (C : tCx p l s m args meth c yX12_needs.cls cX12_needs 10 (some .int) D aC b0 σ0) (htab : ∀ x ∈ c.exceptionTable.toList, False) (hin : meth.name = yX12_needs.name) (hrc43 : ∀ (x0 : Nat) (x1 : Int32) (x3 : Int32) (x4 : Int32) (x5 : Int32) (x6 : Int32) (x7 : Int32) (x8 : Int32) (ρ : tM), rc43 x0 x1 x3 x4 x5 x6 x7 x8 ρ = some (v, τ) → tX p l e s m args below meth c 10 4 89 D aC b0 σ0 (.inl (some (.int v))) τ 43 [(0, .ref (x0)), (1, .int (x1)), (3, .int (x3)), (4, .int (x4)), (5, .int (x5)), (6, .int (x6)), (7, .int (x7)), (8, .int (x8))] [] ρ) {x0 : Nat} {x1 : Int32} {x3 : Int32} {x4 : Int32} {x5 : Int32} {x6 : Int32} {x7 : Int32} {x8 : Int32} {σ : tM} (hm : J_X12_needs_145 b0 fu rc43 x0 x1 x3 x4 x5 x6 x7 x8 σ = some (v, τ)) : tX p l e s m args below meth c 10 4 89 D aC b0 σ0 (.inl (some (.int v))) τ 145 [(0, .ref (x0)), (1, .int (x1)), (3, .int (x3)), (4, .int (x4)), (5, .int (x5)), (6, .int (x6)), (7, .int (x7)), (8, .int (x8))] [] σ := by
  unfold J_X12_needs_145 at hm
  obtain ⟨y31, hy31⟩ : ∃ z : Int32, z = (x8) + Int32.ofInt 1 := ⟨_, rfl⟩
  replace hm := ltb_e hm hy31
  refine zx_iinc C [(8, .int (y31)), (0, .ref (x0)), (1, .int (x1)), (3, .int (x3)), (4, .int (x4)), (5, .int (x5)), (6, .int (x6)), (7, .int (x7))] dX12_needs_145 7 rfl hy31.symm (by decide) rfl ?_
  refine zx_goto C 43 dX12_needs_148 (by decide) ?_
  exact zx_lv [1, 2, 3, 4, 5, 6, 7, 0] [(0, .ref (x0)), (1, .int (x1)), (3, .int (x3)), (4, .int (x4)), (5, .int (x5)), (6, .int (x6)), (7, .int (x7)), (8, .int (y31))] rfl (hrc43 _ _ _ _ _ _ _ _ _ hm)
set_option maxRecDepth 100000 in
set_option maxHeartbeats 1000000 in
theorem j_X12_needs_141 {p : Program} {l : Launch} {e : Env} {s : State} {m : MethodId} {args : Array Value} {below : List Frame} {meth : Method} {c : Code} {D : va_G} {aC : Nat → ClassId} {b0 fu : Nat} {σ0 τ : tM} {v : Int32} {rc43 : Nat → Int32 → Int32 → Int32 → Int32 → Int32 → Int32 → Int32 → tM → Option ((Int32) × tM)} (C : tCx p l s m args meth c yX12_needs.cls cX12_needs 10 (some .int) D aC b0 σ0) (htab : ∀ x ∈ c.exceptionTable.toList, False) (hin : meth.name = yX12_needs.name) (hrc43 : ∀ (x0 : Nat) (x1 : Int32) (x3 : Int32) (x4 : Int32) (x5 : Int32) (x6 : Int32) (x7 : Int32) (x8 : Int32) (ρ : tM), rc43 x0 x1 x3 x4 x5 x6 x7 x8 ρ = some (v, τ) → tX p l e s m args below meth c 10 4 89 D aC b0 σ0 (.inl (some (.int v))) τ 43 [(0, .ref (x0)), (1, .int (x1)), (3, .int (x3)), (4, .int (x4)), (5, .int (x5)), (6, .int (x6)), (7, .int (x7)), (8, .int (x8))] [] ρ) {x0 : Nat} {x1 : Int32} {x3 : Int32} {x4 : Int32} {x6 : Int32} {x7 : Int32} {x8 : Int32} {x9 : Int32} {σ : tM} (hm : J_X12_needs_141 b0 fu rc43 x0 x1 x3 x4 x6 x7 x8 x9 σ = some (v, τ)) : tX p l e s m args below meth c 10 4 89 D aC b0 σ0 (.inl (some (.int v))) τ 141 [(0, .ref (x0)), (1, .int (x1)), (3, .int (x3)), (4, .int (x4)), (6, .int (x6)), (7, .int (x7)), (8, .int (x8)), (9, .int (x9))] [] σ := by
  unfold J_X12_needs_141 at hm
  refine zx_iload C dX12_needs_141 7 rfl ?_
  refine zx_istore C [(5, .int (x9)), (0, .ref (x0)), (1, .int (x1)), (3, .int (x3)), (4, .int (x4)), (6, .int (x6)), (7, .int (x7)), (8, .int (x8)), (9, .int (x9))] dX12_needs_143 (by decide) rfl ?_
  exact zx_lv [1, 2, 3, 4, 0, 5, 6, 7] [(0, .ref (x0)), (1, .int (x1)), (3, .int (x3)), (4, .int (x4)), (5, .int (x9)), (6, .int (x6)), (7, .int (x7)), (8, .int (x8))] rfl (j_X12_needs_145 C htab hin hrc43   hm)
set_option maxRecDepth 100000 in
set_option maxHeartbeats 1000000 in
theorem j_X12_needs_111 {p : Program} {l : Launch} {e : Env} {s : State} {m : MethodId} {args : Array Value} {below : List Frame} {meth : Method} {c : Code} {D : va_G} {aC : Nat → ClassId} {b0 fu : Nat} {σ0 τ : tM} {v : Int32} {rc43 : Nat → Int32 → Int32 → Int32 → Int32 → Int32 → Int32 → Int32 → tM → Option ((Int32) × tM)} (C : tCx p l s m args meth c yX12_needs.cls cX12_needs 10 (some .int) D aC b0 σ0) (htab : ∀ x ∈ c.exceptionTable.toList, False) (hin : meth.name = yX12_needs.name) (hrc43 : ∀ (x0 : Nat) (x1 : Int32) (x3 : Int32) (x4 : Int32) (x5 : Int32) (x6 : Int32) (x7 : Int32) (x8 : Int32) (ρ : tM), rc43 x0 x1 x3 x4 x5 x6 x7 x8 ρ = some (v, τ) → tX p l e s m args below meth c 10 4 89 D aC b0 σ0 (.inl (some (.int v))) τ 43 [(0, .ref (x0)), (1, .int (x1)), (3, .int (x3)), (4, .int (x4)), (5, .int (x5)), (6, .int (x6)), (7, .int (x7)), (8, .int (x8))] [] ρ) {x0 : Nat} {x1 : Int32} {x3 : Int32} {x4 : Int32} {x5 : Int32} {x6 : Int32} {x7 : Int32} {x8 : Int32} {σ : tM} (hm : J_X12_needs_111 b0 fu rc43 x0 x1 x3 x4 x5 x6 x7 x8 σ = some (v, τ)) : tX p l e s m args below meth c 10 4 89 D aC b0 σ0 (.inl (some (.int v))) τ 111 [(0, .ref (x0)), (1, .int (x1)), (3, .int (x3)), (4, .int (x4)), (5, .int (x5)), (6, .int (x6)), (7, .int (x7)), (8, .int (x8))] [] σ := by
  unfold J_X12_needs_111 at hm
  refine zx_iload C dX12_needs_111 7 rfl ?_
  refine zx_bipush (v := 40) C dX12_needs_113 (by decide) ?_
  refine zx_isub C dX12_needs_115 ?_
  refine zx_bipush (v := 32) C dX12_needs_116 (by decide) ?_
  refine zx_idiv C dX12_needs_118 (by decide) ?_
  refine zx_topi (fun y24 hy24 => ?_)
  replace hm := ltb_e hm hy24
  refine zx_istore C [(9, .int (y24)), (0, .ref (x0)), (1, .int (x1)), (3, .int (x3)), (4, .int (x4)), (5, .int (x5)), (6, .int (x6)), (7, .int (x7)), (8, .int (x8))] dX12_needs_119 (by decide) rfl ?_
  refine zx_aload_n C dX12_needs_121 1 rfl ?_
  refine zx_iload_n C dX12_needs_122 2 rfl ?_
  refine zx_iload C dX12_needs_123 8 rfl ?_
  obtain ⟨k25, i26, hm⟩ := ckO_e hm
  obtain ⟨v27, ρ28, h29, hm⟩ := cll_e hm
  refine zx_callV (σ := σ) C [.int (x1), .int (x8)] tC_11 k25 i26 Y_X12_leafOf W_8_64 W_8_66 Wp_86 (c_X12_leafOf h29) (by decide) (by decide) rfl (Nat.le_of_ble_eq_true rfl) dX12_needs_125 rfl ?_
  refine zx_if_ne C 141 dX12_needs_128 (by decide) (fun c30 => ?_) (fun c30 => ?_)
  · replace hm := in_e hm c30
    exact zx_lv [1, 2, 3, 4, 6, 7, 8, 0] [(0, .ref (x0)), (1, .int (x1)), (3, .int (x3)), (4, .int (x4)), (6, .int (x6)), (7, .int (x7)), (8, .int (x8)), (9, .int (y24))] rfl (j_X12_needs_141 C htab hin hrc43   hm)
  · replace hm := ip_e hm c30
    refine zx_iload C dX12_needs_131 0 rfl ?_
    refine zx_iload C dX12_needs_133 5 rfl ?_
    refine zx_icmp_eq C 141 dX12_needs_135 (by decide) (fun c32 => ?_) (fun c32 => ?_)
    · replace hm := ip_e hm c32
      exact zx_lv [1, 2, 3, 4, 6, 7, 8, 0] [(0, .ref (x0)), (1, .int (x1)), (3, .int (x3)), (4, .int (x4)), (6, .int (x6)), (7, .int (x7)), (8, .int (x8)), (9, .int (y24))] rfl (j_X12_needs_141 C htab hin hrc43   hm)
    · replace hm := in_e hm c32
      obtain ⟨y33, hy33⟩ : ∃ z : Int32, z = (x4) + Int32.ofInt 1 := ⟨_, rfl⟩
      replace hm := ltb_e hm hy33
      refine zx_iinc C [(4, .int (y33)), (9, .int (y24)), (0, .ref (x0)), (1, .int (x1)), (3, .int (x3)), (5, .int (x5)), (6, .int (x6)), (7, .int (x7)), (8, .int (x8))] dX12_needs_138 4 rfl hy33.symm (by decide) rfl ?_
      exact zx_lv [2, 3, 4, 0, 6, 7, 8, 1] [(0, .ref (x0)), (1, .int (x1)), (3, .int (x3)), (4, .int (y33)), (6, .int (x6)), (7, .int (x7)), (8, .int (x8)), (9, .int (y24))] rfl (j_X12_needs_141 C htab hin hrc43   hm)
set_option maxRecDepth 100000 in
set_option maxHeartbeats 1000000 in
theorem j_X12_needs_90 {p : Program} {l : Launch} {e : Env} {s : State} {m : MethodId} {args : Array Value} {below : List Frame} {meth : Method} {c : Code} {D : va_G} {aC : Nat → ClassId} {b0 fu : Nat} {σ0 τ : tM} {v : Int32} {rc43 : Nat → Int32 → Int32 → Int32 → Int32 → Int32 → Int32 → Int32 → tM → Option ((Int32) × tM)} (C : tCx p l s m args meth c yX12_needs.cls cX12_needs 10 (some .int) D aC b0 σ0) (htab : ∀ x ∈ c.exceptionTable.toList, False) (hin : meth.name = yX12_needs.name) (hrc43 : ∀ (x0 : Nat) (x1 : Int32) (x3 : Int32) (x4 : Int32) (x5 : Int32) (x6 : Int32) (x7 : Int32) (x8 : Int32) (ρ : tM), rc43 x0 x1 x3 x4 x5 x6 x7 x8 ρ = some (v, τ) → tX p l e s m args below meth c 10 4 89 D aC b0 σ0 (.inl (some (.int v))) τ 43 [(0, .ref (x0)), (1, .int (x1)), (3, .int (x3)), (4, .int (x4)), (5, .int (x5)), (6, .int (x6)), (7, .int (x7)), (8, .int (x8))] [] ρ) {x0 : Nat} {x1 : Int32} {x3 : Int32} {x4 : Int32} {x5 : Int32} {x6 : Int32} {x7 : Int32} {x8 : Int32} {σ : tM} (hm : J_X12_needs_90 b0 fu rc43 x0 x1 x3 x4 x5 x6 x7 x8 σ = some (v, τ)) : tX p l e s m args below meth c 10 4 89 D aC b0 σ0 (.inl (some (.int v))) τ 90 [(0, .ref (x0)), (1, .int (x1)), (3, .int (x3)), (4, .int (x4)), (5, .int (x5)), (6, .int (x6)), (7, .int (x7)), (8, .int (x8))] [] σ := by
  unfold J_X12_needs_90 at hm
  refine zx_iload C dX12_needs_90 7 rfl ?_
  refine zx_bipush (v := 40) C dX12_needs_92 (by decide) ?_
  refine zx_icmp_ge C 100 dX12_needs_94 (by decide) (fun c22 => ?_) (fun c22 => ?_)
  · replace hm := ip_e hm c22
    refine zx_iload C dX12_needs_100 6 rfl ?_
    refine zx_if_ne C 111 dX12_needs_102 (by decide) (fun c23 => ?_) (fun c23 => ?_)
    · replace hm := in_e hm c23
      exact zx_lv [0, 1, 2, 3, 4, 5, 6, 7] [(0, .ref (x0)), (1, .int (x1)), (3, .int (x3)), (4, .int (x4)), (5, .int (x5)), (6, .int (x6)), (7, .int (x7)), (8, .int (x8))] rfl (j_X12_needs_111 C htab hin hrc43   hm)
    · replace hm := ip_e hm c23
      obtain ⟨y35, hy35⟩ : ∃ z : Int32, z = (x4) + Int32.ofInt 1 := ⟨_, rfl⟩
      replace hm := ltb_e hm hy35
      refine zx_iinc C [(4, .int (y35)), (0, .ref (x0)), (1, .int (x1)), (3, .int (x3)), (5, .int (x5)), (6, .int (x6)), (7, .int (x7)), (8, .int (x8))] dX12_needs_105 3 rfl hy35.symm (by decide) rfl ?_
      refine zx_iconst (v := 1) C dX12_needs_108 (by decide) ?_
      refine zx_istore C [(7, .int (1)), (4, .int (y35)), (0, .ref (x0)), (1, .int (x1)), (3, .int (x3)), (5, .int (x5)), (6, .int (x6)), (8, .int (x8))] dX12_needs_109 (by decide) rfl ?_
      exact zx_lv [2, 3, 4, 1, 5, 6, 0, 7] [(0, .ref (x0)), (1, .int (x1)), (3, .int (x3)), (4, .int (y35)), (5, .int (x5)), (6, .int (x6)), (7, .int (1)), (8, .int (x8))] rfl (j_X12_needs_111 C htab hin hrc43   hm)
  · replace hm := in_e hm c22
    refine zx_goto C 145 dX12_needs_97 (by decide) ?_
    exact zx_lv [0, 1, 2, 3, 4, 5, 6, 7] [(0, .ref (x0)), (1, .int (x1)), (3, .int (x3)), (4, .int (x4)), (5, .int (x5)), (6, .int (x6)), (7, .int (x7)), (8, .int (x8))] rfl (j_X12_needs_145 C htab hin hrc43   hm)
set_option maxRecDepth 100000 in
set_option maxHeartbeats 1000000 in
theorem l_X12_needs_43 {p : Program} {l : Launch} {e : Env} {s : State} {m : MethodId} {args : Array Value} {below : List Frame} {meth : Method} {c : Code} {D : va_G} {aC : Nat → ClassId} {b0 fu : Nat} {σ0 τ : tM} {v : Int32}  (C : tCx p l s m args meth c yX12_needs.cls cX12_needs 10 (some .int) D aC b0 σ0) (htab : ∀ x ∈ c.exceptionTable.toList, False) (hin : meth.name = yX12_needs.name)  : ∀ (n : Nat) (x0 : Nat) (x1 : Int32) (x3 : Int32) (x4 : Int32) (x5 : Int32) (x6 : Int32) (x7 : Int32) (x8 : Int32) (σ : tM), L_X12_needs_43 b0 fu  n x0 x1 x3 x4 x5 x6 x7 x8 σ = some (v, τ) → tX p l e s m args below meth c 10 4 89 D aC b0 σ0 (.inl (some (.int v))) τ 43 [(0, .ref (x0)), (1, .int (x1)), (3, .int (x3)), (4, .int (x4)), (5, .int (x5)), (6, .int (x6)), (7, .int (x7)), (8, .int (x8))] [] σ := by
  intro n
  induction n with
  | zero => intro x0 x1 x3 x4 x5 x6 x7 x8 σ hm; unfold L_X12_needs_43 at hm; cases hm
  | succ n ih =>
    intro x0 x1 x3 x4 x5 x6 x7 x8 σ hm
    unfold L_X12_needs_43 at hm
    obtain ⟨rc43, hrc⟩ : ∃ z, z = L_X12_needs_43 b0 fu  n := ⟨_, rfl⟩
    replace hm := ltb_e hm hrc
    rw [← hrc] at ih
    have hrc43 := ih
    clear ih hrc
    refine zx_iload C dX12_needs_43 7 rfl ?_
    refine zx_iload_n C dX12_needs_45 2 rfl ?_
    refine zx_icmp_gt C 151 dX12_needs_46 (by decide) (fun c13 => ?_) (fun c13 => ?_)
    · replace hm := ip_e hm c13
      refine zx_iload C dX12_needs_151 3 rfl ?_
      obtain ⟨rfl, rfl⟩ := ret_e hm
      exact zx_iret C rfl rfl rfl dX12_needs_153
    · replace hm := in_e hm c13
      refine zx_aload_n C dX12_needs_49 0 rfl ?_
      refine zx_iload_n C dX12_needs_50 1 rfl ?_
      refine zx_iload C dX12_needs_51 7 rfl ?_
      obtain ⟨k14, i15, hm⟩ := ckO_e hm
      obtain ⟨v16, ρ17, h18, hm⟩ := cll_e hm
      refine zx_callV (σ := σ) C [.int (x1), .int (x8)] tC_11 k14 i15 Y_X12_has W_8_60 W_8_62 Wp_85 (c_X12_has h18) (by decide) (by decide) rfl (Nat.le_of_ble_eq_true rfl) dX12_needs_53 rfl ?_
      refine zx_if_eq C 62 dX12_needs_56 (by decide) (fun c19 => ?_) (fun c19 => ?_)
      · replace hm := ip_e hm c19
        obtain ⟨y20, hy20⟩ : ∃ z : Int32, z = (x4) + Int32.ofInt 1 := ⟨_, rfl⟩
        replace hm := ltb_e hm hy20
        refine zx_iinc C [(4, .int (y20)), (0, .ref (x0)), (1, .int (x1)), (3, .int (x3)), (5, .int (x5)), (6, .int (x6)), (7, .int (x7)), (8, .int (x8))] dX12_needs_62 3 rfl hy20.symm (by decide) rfl ?_
        refine zx_iload C dX12_needs_65 7 rfl ?_
        refine zx_bipush (v := 8) C dX12_needs_67 (by decide) ?_
        refine zx_icmp_lt C 90 dX12_needs_69 (by decide) (fun c21 => ?_) (fun c21 => ?_)
        · replace hm := ip_e hm c21
          exact zx_lv [1, 2, 3, 0, 4, 5, 6, 7] [(0, .ref (x0)), (1, .int (x1)), (3, .int (x3)), (4, .int (y20)), (5, .int (x5)), (6, .int (x6)), (7, .int (x7)), (8, .int (x8))] rfl (j_X12_needs_90 C htab hin hrc43   hm)
        · replace hm := in_e hm c21
          refine zx_iload C dX12_needs_72 7 rfl ?_
          refine zx_bipush (v := 40) C dX12_needs_74 (by decide) ?_
          refine zx_icmp_ge C 90 dX12_needs_76 (by decide) (fun c36 => ?_) (fun c36 => ?_)
          · replace hm := ip_e hm c36
            exact zx_lv [1, 2, 3, 0, 4, 5, 6, 7] [(0, .ref (x0)), (1, .int (x1)), (3, .int (x3)), (4, .int (y20)), (5, .int (x5)), (6, .int (x6)), (7, .int (x7)), (8, .int (x8))] rfl (j_X12_needs_90 C htab hin hrc43   hm)
          · replace hm := in_e hm c36
            refine zx_iload C dX12_needs_79 5 rfl ?_
            refine zx_if_ne C 90 dX12_needs_81 (by decide) (fun c37 => ?_) (fun c37 => ?_)
            · replace hm := in_e hm c37
              exact zx_lv [1, 2, 3, 0, 4, 5, 6, 7] [(0, .ref (x0)), (1, .int (x1)), (3, .int (x3)), (4, .int (y20)), (5, .int (x5)), (6, .int (x6)), (7, .int (x7)), (8, .int (x8))] rfl (j_X12_needs_90 C htab hin hrc43   hm)
            · replace hm := ip_e hm c37
              obtain ⟨y38, hy38⟩ : ∃ z : Int32, z = (y20) + Int32.ofInt 1 := ⟨_, rfl⟩
              replace hm := ltb_e hm hy38
              refine zx_iinc C [(4, .int (y38)), (0, .ref (x0)), (1, .int (x1)), (3, .int (x3)), (5, .int (x5)), (6, .int (x6)), (7, .int (x7)), (8, .int (x8))] dX12_needs_84 0 rfl hy38.symm (by decide) rfl ?_
              refine zx_iconst (v := 1) C dX12_needs_87 (by decide) ?_
              refine zx_istore C [(6, .int (1)), (4, .int (y38)), (0, .ref (x0)), (1, .int (x1)), (3, .int (x3)), (5, .int (x5)), (7, .int (x7)), (8, .int (x8))] dX12_needs_88 (by decide) rfl ?_
              exact zx_lv [2, 3, 4, 1, 5, 0, 6, 7] [(0, .ref (x0)), (1, .int (x1)), (3, .int (x3)), (4, .int (y38)), (5, .int (x5)), (6, .int (1)), (7, .int (x7)), (8, .int (x8))] rfl (j_X12_needs_90 C htab hin hrc43   hm)
      · replace hm := in_e hm c19
        refine zx_goto C 145 dX12_needs_59 (by decide) ?_
        exact zx_lv [0, 1, 2, 3, 4, 5, 6, 7] [(0, .ref (x0)), (1, .int (x1)), (3, .int (x3)), (4, .int (x4)), (5, .int (x5)), (6, .int (x6)), (7, .int (x7)), (8, .int (x8))] rfl (j_X12_needs_145 C htab hin hrc43   hm)
set_option maxRecDepth 100000 in
set_option maxHeartbeats 1000000 in
theorem j_X12_needs_38 {p : Program} {l : Launch} {e : Env} {s : State} {m : MethodId} {args : Array Value} {below : List Frame} {meth : Method} {c : Code} {D : va_G} {aC : Nat → ClassId} {b0 fu : Nat} {σ0 τ : tM} {v : Int32}  (C : tCx p l s m args meth c yX12_needs.cls cX12_needs 10 (some .int) D aC b0 σ0) (htab : ∀ x ∈ c.exceptionTable.toList, False) (hin : meth.name = yX12_needs.name)  {x0 : Nat} {x1 : Int32} {x2 : Int32} {x3 : Int32} {x4 : Int32} {x5 : Int32} {x6 : Int32} {s0 : Int32} {σ : tM} (hm : J_X12_needs_38 b0 fu  x0 x1 x2 x3 x4 x5 x6 s0 σ = some (v, τ)) : tX p l e s m args below meth c 10 4 89 D aC b0 σ0 (.inl (some (.int v))) τ 38 [(0, .ref (x0)), (1, .int (x1)), (2, .int (x2)), (3, .int (x3)), (4, .int (x4)), (5, .int (x5)), (6, .int (x6))] [.int (s0)] σ := by
  unfold J_X12_needs_38 at hm
  refine zx_istore C [(7, .int (s0)), (0, .ref (x0)), (1, .int (x1)), (2, .int (x2)), (3, .int (x3)), (4, .int (x4)), (5, .int (x5)), (6, .int (x6))] dX12_needs_38 (by decide) rfl ?_
  refine zx_iload_n C dX12_needs_40 3 rfl ?_
  refine zx_istore C [(8, .int (x2)), (7, .int (s0)), (0, .ref (x0)), (1, .int (x1)), (2, .int (x2)), (3, .int (x3)), (4, .int (x4)), (5, .int (x5)), (6, .int (x6))] dX12_needs_41 (by decide) rfl ?_
  exact zx_lv [2, 3, 5, 6, 7, 8, 1, 0] [(0, .ref (x0)), (1, .int (x1)), (3, .int (x3)), (4, .int (x4)), (5, .int (x5)), (6, .int (x6)), (7, .int (s0)), (8, .int (x2))] rfl (l_X12_needs_43 C htab hin  _ _ _ _ _ _ _ _ _ _ hm)
set_option maxRecDepth 100000 in
set_option maxHeartbeats 1000000 in
theorem j_X12_needs_21 {p : Program} {l : Launch} {e : Env} {s : State} {m : MethodId} {args : Array Value} {below : List Frame} {meth : Method} {c : Code} {D : va_G} {aC : Nat → ClassId} {b0 fu : Nat} {σ0 τ : tM} {v : Int32}  (C : tCx p l s m args meth c yX12_needs.cls cX12_needs 10 (some .int) D aC b0 σ0) (htab : ∀ x ∈ c.exceptionTable.toList, False) (hin : meth.name = yX12_needs.name)  {x0 : Nat} {x1 : Int32} {x2 : Int32} {x3 : Int32} {x4 : Int32} {x5 : Int32} {s0 : Int32} {σ : tM} (hm : J_X12_needs_21 b0 fu  x0 x1 x2 x3 x4 x5 s0 σ = some (v, τ)) : tX p l e s m args below meth c 10 4 89 D aC b0 σ0 (.inl (some (.int v))) τ 21 [(0, .ref (x0)), (1, .int (x1)), (2, .int (x2)), (3, .int (x3)), (4, .int (x4)), (5, .int (x5))] [.int (s0)] σ := by
  unfold J_X12_needs_21 at hm
  refine zx_istore C [(6, .int (s0)), (0, .ref (x0)), (1, .int (x1)), (2, .int (x2)), (3, .int (x3)), (4, .int (x4)), (5, .int (x5))] dX12_needs_21 (by decide) rfl ?_
  refine zx_aload_n C dX12_needs_23 1 rfl ?_
  refine zx_iload_n C dX12_needs_24 2 rfl ?_
  refine zx_bipush (v := 94) C dX12_needs_25 (by decide) ?_
  obtain ⟨k7, i8, hm⟩ := ckO_e hm
  obtain ⟨v9, ρ10, h11, hm⟩ := cll_e hm
  refine zx_callV (σ := σ) C [.int (x1), .int (94)] tC_11 k7 i8 Y_X12_node W_8_40 W_8_42 Wp_80 (c_X12_node h11) (by decide) (by decide) rfl (Nat.le_of_ble_eq_true rfl) dX12_needs_27 rfl ?_
  refine zx_if_eq C 37 dX12_needs_30 (by decide) (fun c12 => ?_) (fun c12 => ?_)
  · replace hm := ip_e hm c12
    refine zx_iconst (v := 0) C dX12_needs_37 (by decide) ?_
    exact zx_lv [1, 2, 3, 4, 5, 6, 0] [(0, .ref (x0)), (1, .int (x1)), (2, .int (x2)), (3, .int (x3)), (4, .int (x4)), (5, .int (x5)), (6, .int (s0))] rfl (j_X12_needs_38 C htab hin    hm)
  · replace hm := in_e hm c12
    refine zx_iconst (v := 1) C dX12_needs_33 (by decide) ?_
    refine zx_goto C 38 dX12_needs_34 (by decide) ?_
    exact zx_lv [1, 2, 3, 4, 5, 6, 0] [(0, .ref (x0)), (1, .int (x1)), (2, .int (x2)), (3, .int (x3)), (4, .int (x4)), (5, .int (x5)), (6, .int (s0))] rfl (j_X12_needs_38 C htab hin    hm)
set_option maxRecDepth 100000 in
set_option maxHeartbeats 1000000 in
theorem c_X12_needs {l : Launch} {D : va_G} {aC : Nat → ClassId} {b0 fu : Nat} {a0 : Nat} {p0 : Int32} {p1 : Int32} {p2 : Int32} {σ τ : tM} {v : Int32} (hm : m_X12_needs b0 fu a0 p0 p1 p2 σ = some (v, τ)) : tMt l D aC b0 yX12_needs (Cond.code yX12_needs cX12_needs 10 (some .int)) 4 89 [.ref (a0), .int (p0), .int (p1), .int (p2)] σ (.inl (some (.int v))) τ := by
  unfold m_X12_needs at hm
  obtain ⟨hg, hm⟩ := grw_e hm
  refine tMt_of (n := 0) rfl (Nat.le_of_ble_eq_true rfl) hg ?_
  intro p e s m below meth c C htab hin
  refine zx_lv [0, 1, 2, 3] [(0, .ref (a0)), (1, .int (p0)), (2, .int (p1)), (3, .int (p2))] rfl ?_
  refine zx_iconst (v := 0) C dX12_needs_0 (by decide) ?_
  refine zx_istore C [(4, .int (0)), (0, .ref (a0)), (1, .int (p0)), (2, .int (p1)), (3, .int (p2))] dX12_needs_1 (by decide) rfl ?_
  refine zx_iconst (v := (-1)) C dX12_needs_3 (by decide) ?_
  refine zx_istore C [(5, .int ((-1))), (4, .int (0)), (0, .ref (a0)), (1, .int (p0)), (2, .int (p1)), (3, .int (p2))] dX12_needs_4 (by decide) rfl ?_
  refine zx_aload_n C dX12_needs_6 2 rfl ?_
  refine zx_iload_n C dX12_needs_7 3 rfl ?_
  refine zx_bipush (v := 93) C dX12_needs_8 (by decide) ?_
  obtain ⟨k1, i2, hm⟩ := ckO_e hm
  obtain ⟨v3, ρ4, h5, hm⟩ := cll_e hm
  refine zx_callV (σ := σ) C [.int (p0), .int (93)] tC_11 k1 i2 Y_X12_node W_8_40 W_8_42 Wp_80 (c_X12_node h5) (by decide) (by decide) rfl (Nat.le_of_ble_eq_true rfl) dX12_needs_10 rfl ?_
  refine zx_if_eq C 20 dX12_needs_13 (by decide) (fun c6 => ?_) (fun c6 => ?_)
  · replace hm := ip_e hm c6
    refine zx_iconst (v := 0) C dX12_needs_20 (by decide) ?_
    exact zx_lv [2, 3, 4, 5, 1, 0] [(0, .ref (a0)), (1, .int (p0)), (2, .int (p1)), (3, .int (p2)), (4, .int (0)), (5, .int ((-1)))] rfl (j_X12_needs_21 C htab hin    hm)
  · replace hm := in_e hm c6
    refine zx_iconst (v := 1) C dX12_needs_16 (by decide) ?_
    refine zx_goto C 21 dX12_needs_17 (by decide) ?_
    exact zx_lv [2, 3, 4, 5, 1, 0] [(0, .ref (a0)), (1, .int (p0)), (2, .int (p1)), (3, .int (p2)), (4, .int (0)), (5, .int ((-1)))] rfl (j_X12_needs_21 C htab hin    hm)
abbrev cX12_isEmpty : ByteArray := prog_13_method_40_code
def yX12_isEmpty : MethodName := ⟨"SyncTreeModel", "isEmpty", "(I)Z"⟩
theorem Y_X12_isEmpty : tY yX12_isEmpty cX12_isEmpty 3 (some .boolean) 1 := ⟨W_8_178, W_1_14, ⟨by decide +kernel, by decide +kernel⟩, by decide +kernel⟩
theorem dX12_isEmpty_0 : decode cX12_isEmpty 0 = .ok (.iconst 0, 1) := by decide +kernel
theorem dX12_isEmpty_1 : decode cX12_isEmpty 1 = .ok (.istore_n 2, 1) := by decide +kernel
theorem dX12_isEmpty_2 : decode cX12_isEmpty 2 = .ok (.iload_n 2, 1) := by decide +kernel
theorem dX12_isEmpty_3 : decode cX12_isEmpty 3 = .ok (.bipush 32, 2) := by decide +kernel
theorem dX12_isEmpty_5 : decode cX12_isEmpty 5 = .ok (.if_icmp .ge 20, 3) := by decide +kernel
theorem dX12_isEmpty_8 : decode cX12_isEmpty 8 = .ok (.aload_n 0, 1) := by decide +kernel
theorem dX12_isEmpty_9 : decode cX12_isEmpty 9 = .ok (.iload_n 1, 1) := by decide +kernel
theorem dX12_isEmpty_10 : decode cX12_isEmpty 10 = .ok (.iload_n 2, 1) := by decide +kernel
theorem dX12_isEmpty_11 : decode cX12_isEmpty 11 = .ok (.invokevirtual 250, 3) := by decide +kernel
theorem dX12_isEmpty_14 : decode cX12_isEmpty 14 = .ok (.ifCond .eq 5, 3) := by decide +kernel
theorem dX12_isEmpty_17 : decode cX12_isEmpty 17 = .ok (.iconst 0, 1) := by decide +kernel
theorem dX12_isEmpty_18 : decode cX12_isEmpty 18 = .ok (.ireturn, 1) := by decide +kernel
theorem dX12_isEmpty_19 : decode cX12_isEmpty 19 = .ok (.iinc 2 1, 3) := by decide +kernel
theorem dX12_isEmpty_22 : decode cX12_isEmpty 22 = .ok (.goto (-20), 3) := by decide +kernel
theorem dX12_isEmpty_25 : decode cX12_isEmpty 25 = .ok (.iconst 1, 1) := by decide +kernel
theorem dX12_isEmpty_26 : decode cX12_isEmpty 26 = .ok (.ireturn, 1) := by decide +kernel
set_option maxRecDepth 100000 in
set_option maxHeartbeats 1000000 in
theorem l_X12_isEmpty_2 {p : Program} {l : Launch} {e : Env} {s : State} {m : MethodId} {args : Array Value} {below : List Frame} {meth : Method} {c : Code} {D : va_G} {aC : Nat → ClassId} {b0 fu : Nat} {σ0 τ : tM} {v : Int32}  (C : tCx p l s m args meth c yX12_isEmpty.cls cX12_isEmpty 3 (some .boolean) D aC b0 σ0) (htab : ∀ x ∈ c.exceptionTable.toList, False) (hin : meth.name = yX12_isEmpty.name)  : ∀ (n : Nat) (x0 : Nat) (x1 : Int32) (x2 : Int32) (σ : tM), L_X12_isEmpty_2 b0 fu  n x0 x1 x2 σ = some (v, τ) → tX p l e s m args below meth c 3 2 43 D aC b0 σ0 (.inl (some (.int v))) τ 2 [(0, .ref (x0)), (1, .int (x1)), (2, .int (x2))] [] σ := by
  intro n
  induction n with
  | zero => intro x0 x1 x2 σ hm; unfold L_X12_isEmpty_2 at hm; cases hm
  | succ n ih =>
    intro x0 x1 x2 σ hm
    unfold L_X12_isEmpty_2 at hm
    obtain ⟨rc2, hrc⟩ : ∃ z, z = L_X12_isEmpty_2 b0 fu  n := ⟨_, rfl⟩
    replace hm := ltb_e hm hrc
    rw [← hrc] at ih
    have hrc2 := ih
    clear ih hrc
    refine zx_iload_n C dX12_isEmpty_2 2 rfl ?_
    refine zx_bipush (v := 32) C dX12_isEmpty_3 (by decide) ?_
    refine zx_icmp_ge C 25 dX12_isEmpty_5 (by decide) (fun c1 => ?_) (fun c1 => ?_)
    · replace hm := ip_e hm c1
      refine zx_iconst (v := 1) C dX12_isEmpty_25 (by decide) ?_
      obtain ⟨rfl, rfl⟩ := ret_e hm
      exact zx_zret C rfl (by decide) rfl rfl dX12_isEmpty_26
    · replace hm := in_e hm c1
      refine zx_aload_n C dX12_isEmpty_8 0 rfl ?_
      refine zx_iload_n C dX12_isEmpty_9 1 rfl ?_
      refine zx_iload_n C dX12_isEmpty_10 2 rfl ?_
      obtain ⟨k2, i3, hm⟩ := ckO_e hm
      obtain ⟨v4, ρ5, h6, hm⟩ := cll_e hm
      refine zx_callV (σ := σ) C [.int (x1), .int (x2)] tC_11 k2 i3 Y_X12_pointer W_8_68 W_8_70 Wp_87 (c_X12_pointer h6) (by decide) (by decide) rfl (Nat.le_of_ble_eq_true rfl) dX12_isEmpty_11 rfl ?_
      refine zx_if_eq C 19 dX12_isEmpty_14 (by decide) (fun c7 => ?_) (fun c7 => ?_)
      · replace hm := ip_e hm c7
        obtain ⟨y8, hy8⟩ : ∃ z : Int32, z = (x2) + Int32.ofInt 1 := ⟨_, rfl⟩
        replace hm := ltb_e hm hy8
        refine zx_iinc C [(2, .int (y8)), (0, .ref (x0)), (1, .int (x1))] dX12_isEmpty_19 2 rfl hy8.symm (by decide) rfl ?_
        refine zx_goto C 2 dX12_isEmpty_22 (by decide) ?_
        exact zx_lv [1, 2, 0] [(0, .ref (x0)), (1, .int (x1)), (2, .int (y8))] rfl (hrc2 _ _ _ _ hm)
      · replace hm := in_e hm c7
        refine zx_iconst (v := 0) C dX12_isEmpty_17 (by decide) ?_
        obtain ⟨rfl, rfl⟩ := ret_e hm
        exact zx_zret C rfl (by decide) rfl rfl dX12_isEmpty_18
set_option maxRecDepth 100000 in
set_option maxHeartbeats 1000000 in
theorem c_X12_isEmpty {l : Launch} {D : va_G} {aC : Nat → ClassId} {b0 fu : Nat} {a0 : Nat} {p0 : Int32} {σ τ : tM} {v : Int32} (hm : m_X12_isEmpty b0 fu a0 p0 σ = some (v, τ)) : tMt l D aC b0 yX12_isEmpty (Cond.code yX12_isEmpty cX12_isEmpty 3 (some .boolean)) 2 43 [.ref (a0), .int (p0)] σ (.inl (some (.int v))) τ := by
  unfold m_X12_isEmpty at hm
  obtain ⟨hg, hm⟩ := grw_e hm
  refine tMt_of (n := 0) rfl (Nat.le_of_ble_eq_true rfl) hg ?_
  intro p e s m below meth c C htab hin
  refine zx_lv [0, 1] [(0, .ref (a0)), (1, .int (p0))] rfl ?_
  refine zx_iconst (v := 0) C dX12_isEmpty_0 (by decide) ?_
  refine zx_istore_n C [(2, .int (0)), (0, .ref (a0)), (1, .int (p0))] dX12_isEmpty_1 rfl (by decide) rfl ?_
  exact zx_lv [1, 2, 0] [(0, .ref (a0)), (1, .int (p0)), (2, .int (0))] rfl (l_X12_isEmpty_2 C htab hin  _ _ _ _ _ hm)
abbrev cX12_isOpen : ByteArray := prog_13_method_43_code
def yX12_isOpen : MethodName := ⟨"SyncTreeModel", "isOpen", "(I)Z"⟩
theorem Y_X12_isOpen : tY yX12_isOpen cX12_isOpen 3 (some .boolean) 1 := ⟨W_8_190, W_1_14, ⟨by decide +kernel, by decide +kernel⟩, by decide +kernel⟩
theorem dX12_isOpen_0 : decode cX12_isOpen 0 = .ok (.iconst 0, 1) := by decide +kernel
theorem dX12_isOpen_1 : decode cX12_isOpen 1 = .ok (.istore_n 2, 1) := by decide +kernel
theorem dX12_isOpen_2 : decode cX12_isOpen 2 = .ok (.iload_n 2, 1) := by decide +kernel
theorem dX12_isOpen_3 : decode cX12_isOpen 3 = .ok (.bipush 16, 2) := by decide +kernel
theorem dX12_isOpen_5 : decode cX12_isOpen 5 = .ok (.if_icmp .ge 21, 3) := by decide +kernel
theorem dX12_isOpen_8 : decode cX12_isOpen 8 = .ok (.aload_n 0, 1) := by decide +kernel
theorem dX12_isOpen_9 : decode cX12_isOpen 9 = .ok (.getfield 286, 3) := by decide +kernel
theorem dX12_isOpen_12 : decode cX12_isOpen 12 = .ok (.iload_n 2, 1) := by decide +kernel
theorem dX12_isOpen_13 : decode cX12_isOpen 13 = .ok (.iaload, 1) := by decide +kernel
theorem dX12_isOpen_14 : decode cX12_isOpen 14 = .ok (.iload_n 1, 1) := by decide +kernel
theorem dX12_isOpen_15 : decode cX12_isOpen 15 = .ok (.if_icmp .ne 5, 3) := by decide +kernel
theorem dX12_isOpen_18 : decode cX12_isOpen 18 = .ok (.iconst 1, 1) := by decide +kernel
theorem dX12_isOpen_19 : decode cX12_isOpen 19 = .ok (.ireturn, 1) := by decide +kernel
theorem dX12_isOpen_20 : decode cX12_isOpen 20 = .ok (.iinc 2 1, 3) := by decide +kernel
theorem dX12_isOpen_23 : decode cX12_isOpen 23 = .ok (.goto (-21), 3) := by decide +kernel
theorem dX12_isOpen_26 : decode cX12_isOpen 26 = .ok (.iconst 0, 1) := by decide +kernel
theorem dX12_isOpen_27 : decode cX12_isOpen 27 = .ok (.ireturn, 1) := by decide +kernel
set_option maxRecDepth 100000 in
set_option maxHeartbeats 1000000 in
theorem l_X12_isOpen_2 {p : Program} {l : Launch} {e : Env} {s : State} {m : MethodId} {args : Array Value} {below : List Frame} {meth : Method} {c : Code} {D : va_G} {aC : Nat → ClassId} {b0 fu : Nat} {σ0 τ : tM} {v : Int32}  (C : tCx p l s m args meth c yX12_isOpen.cls cX12_isOpen 3 (some .boolean) D aC b0 σ0) (htab : ∀ x ∈ c.exceptionTable.toList, False) (hin : meth.name = yX12_isOpen.name)  : ∀ (n : Nat) (x0 : Nat) (x1 : Int32) (x2 : Int32) (σ : tM), L_X12_isOpen_2 b0 fu  n x0 x1 x2 σ = some (v, τ) → tX p l e s m args below meth c 3 0 0 D aC b0 σ0 (.inl (some (.int v))) τ 2 [(0, .ref (x0)), (1, .int (x1)), (2, .int (x2))] [] σ := by
  intro n
  induction n with
  | zero => intro x0 x1 x2 σ hm; unfold L_X12_isOpen_2 at hm; cases hm
  | succ n ih =>
    intro x0 x1 x2 σ hm
    unfold L_X12_isOpen_2 at hm
    obtain ⟨rc2, hrc⟩ : ∃ z, z = L_X12_isOpen_2 b0 fu  n := ⟨_, rfl⟩
    replace hm := ltb_e hm hrc
    rw [← hrc] at ih
    have hrc2 := ih
    clear ih hrc
    refine zx_iload_n C dX12_isOpen_2 2 rfl ?_
    refine zx_bipush (v := 16) C dX12_isOpen_3 (by decide) ?_
    refine zx_icmp_ge C 26 dX12_isOpen_5 (by decide) (fun c1 => ?_) (fun c1 => ?_)
    · replace hm := ip_e hm c1
      refine zx_iconst (v := 0) C dX12_isOpen_26 (by decide) ?_
      obtain ⟨rfl, rfl⟩ := ret_e hm
      exact zx_zret C rfl (by decide) rfl rfl dX12_isOpen_27
    · replace hm := in_e hm c1
      refine zx_aload_n C dX12_isOpen_8 0 rfl ?_
      obtain ⟨k2, i3, hm⟩ := ckO_e hm
      obtain ⟨a4, h5, hm⟩ := osm_e hm
      refine zx_get (j := 58) C tC_11 k2 i3 ⟨by decide, Or.inl W_7_37⟩ dX12_isOpen_9 (.ref a4) (rf_s h5) ?_
      refine zx_iload_n C dX12_isOpen_12 2 rfl ?_
      obtain ⟨n8, k6, i7, hm⟩ := ckR_e hm
      obtain ⟨h9, hm⟩ := ckI_e hm
      refine zx_iald C k6 i7 h9 dX12_isOpen_13 ?_
      refine zx_iload_n C dX12_isOpen_14 1 rfl ?_
      refine zx_icmp_ne C 20 dX12_isOpen_15 (by decide) (fun c10 => ?_) (fun c10 => ?_)
      · replace hm := in_e hm c10
        obtain ⟨y11, hy11⟩ : ∃ z : Int32, z = (x2) + Int32.ofInt 1 := ⟨_, rfl⟩
        replace hm := ltb_e hm hy11
        refine zx_iinc C [(2, .int (y11)), (0, .ref (x0)), (1, .int (x1))] dX12_isOpen_20 2 rfl hy11.symm (by decide) rfl ?_
        refine zx_goto C 2 dX12_isOpen_23 (by decide) ?_
        exact zx_lv [1, 2, 0] [(0, .ref (x0)), (1, .int (x1)), (2, .int (y11))] rfl (hrc2 _ _ _ _ hm)
      · replace hm := ip_e hm c10
        refine zx_iconst (v := 1) C dX12_isOpen_18 (by decide) ?_
        obtain ⟨rfl, rfl⟩ := ret_e hm
        exact zx_zret C rfl (by decide) rfl rfl dX12_isOpen_19
set_option maxRecDepth 100000 in
set_option maxHeartbeats 1000000 in
theorem c_X12_isOpen {l : Launch} {D : va_G} {aC : Nat → ClassId} {b0 fu : Nat} {a0 : Nat} {p0 : Int32} {σ τ : tM} {v : Int32} (hm : m_X12_isOpen b0 fu a0 p0 σ = some (v, τ)) : tMt l D aC b0 yX12_isOpen (Cond.code yX12_isOpen cX12_isOpen 3 (some .boolean)) 0 0 [.ref (a0), .int (p0)] σ (.inl (some (.int v))) τ := by
  unfold m_X12_isOpen at hm
  obtain ⟨hg, hm⟩ := grw_e hm
  refine tMt_of (n := 0) rfl (Nat.le_of_ble_eq_true rfl) hg ?_
  intro p e s m below meth c C htab hin
  refine zx_lv [0, 1] [(0, .ref (a0)), (1, .int (p0))] rfl ?_
  refine zx_iconst (v := 0) C dX12_isOpen_0 (by decide) ?_
  refine zx_istore_n C [(2, .int (0)), (0, .ref (a0)), (1, .int (p0))] dX12_isOpen_1 rfl (by decide) rfl ?_
  exact zx_lv [1, 2, 0] [(0, .ref (a0)), (1, .int (p0)), (2, .int (0))] rfl (l_X12_isOpen_2 C htab hin  _ _ _ _ _ hm)
abbrev cX12_entryAt : ByteArray := prog_13_method_45_code
def yX12_entryAt : MethodName := ⟨"SyncTreeModel", "entryAt", "(III)I"⟩
theorem Y_X12_entryAt : tY yX12_entryAt cX12_entryAt 4 (some .int) 3 := ⟨W_8_59, W_1_14, ⟨by decide +kernel, by decide +kernel⟩, by decide +kernel⟩
theorem dX12_entryAt_0 : decode cX12_entryAt 0 = .ok (.aload_n 0, 1) := by decide +kernel
theorem dX12_entryAt_1 : decode cX12_entryAt 1 = .ok (.iload_n 1, 1) := by decide +kernel
theorem dX12_entryAt_2 : decode cX12_entryAt 2 = .ok (.iload_n 2, 1) := by decide +kernel
theorem dX12_entryAt_3 : decode cX12_entryAt 3 = .ok (.bipush 8, 2) := by decide +kernel
theorem dX12_entryAt_5 : decode cX12_entryAt 5 = .ok (.idiv, 1) := by decide +kernel
theorem dX12_entryAt_6 : decode cX12_entryAt 6 = .ok (.invokevirtual 259, 3) := by decide +kernel
theorem dX12_entryAt_9 : decode cX12_entryAt 9 = .ok (.iconst 1, 1) := by decide +kernel
theorem dX12_entryAt_10 : decode cX12_entryAt 10 = .ok (.isub, 1) := by decide +kernel
theorem dX12_entryAt_11 : decode cX12_entryAt 11 = .ok (.bipush 34, 2) := by decide +kernel
theorem dX12_entryAt_13 : decode cX12_entryAt 13 = .ok (.iload_n 2, 1) := by decide +kernel
theorem dX12_entryAt_14 : decode cX12_entryAt 14 = .ok (.bipush 8, 2) := by decide +kernel
theorem dX12_entryAt_16 : decode cX12_entryAt 16 = .ok (.irem, 1) := by decide +kernel
theorem dX12_entryAt_17 : decode cX12_entryAt 17 = .ok (.bipush 30, 2) := by decide +kernel
theorem dX12_entryAt_19 : decode cX12_entryAt 19 = .ok (.imul, 1) := by decide +kernel
theorem dX12_entryAt_20 : decode cX12_entryAt 20 = .ok (.iadd, 1) := by decide +kernel
theorem dX12_entryAt_21 : decode cX12_entryAt 21 = .ok (.iload_n 3, 1) := by decide +kernel
theorem dX12_entryAt_22 : decode cX12_entryAt 22 = .ok (.iadd, 1) := by decide +kernel
theorem dX12_entryAt_23 : decode cX12_entryAt 23 = .ok (.invokestatic 233, 3) := by decide +kernel
theorem dX12_entryAt_26 : decode cX12_entryAt 26 = .ok (.ireturn, 1) := by decide +kernel
set_option maxRecDepth 100000 in
set_option maxHeartbeats 1000000 in
theorem c_X12_entryAt {l : Launch} {D : va_G} {aC : Nat → ClassId} {b0 fu : Nat} {a0 : Nat} {p0 : Int32} {p1 : Int32} {p2 : Int32} {σ τ : tM} {v : Int32} (hm : m_X12_entryAt b0 fu a0 p0 p1 p2 σ = some (v, τ)) : tMt l D aC b0 yX12_entryAt (Cond.code yX12_entryAt cX12_entryAt 4 (some .int)) 4 89 [.ref (a0), .int (p0), .int (p1), .int (p2)] σ (.inl (some (.int v))) τ := by
  unfold m_X12_entryAt at hm
  obtain ⟨hg, hm⟩ := grw_e hm
  refine tMt_of (n := 0) rfl (Nat.le_of_ble_eq_true rfl) hg ?_
  intro p e s m below meth c C htab hin
  refine zx_lv [0, 1, 2, 3] [(0, .ref (a0)), (1, .int (p0)), (2, .int (p1)), (3, .int (p2))] rfl ?_
  refine zx_aload_n C dX12_entryAt_0 0 rfl ?_
  refine zx_iload_n C dX12_entryAt_1 1 rfl ?_
  refine zx_iload_n C dX12_entryAt_2 2 rfl ?_
  refine zx_bipush (v := 8) C dX12_entryAt_3 (by decide) ?_
  refine zx_idiv C dX12_entryAt_5 (by decide) ?_
  obtain ⟨k1, i2, hm⟩ := ckO_e hm
  obtain ⟨v3, ρ4, h5, hm⟩ := cll_e hm
  refine zx_callV (σ := σ) C [.int (p0), .int ((p1) / (8))] tC_11 k1 i2 Y_X12_has W_8_60 W_8_62 Wp_85 (c_X12_has h5) (by decide) (by decide) rfl (Nat.le_of_ble_eq_true rfl) dX12_entryAt_6 rfl ?_
  refine zx_iconst (v := 1) C dX12_entryAt_9 (by decide) ?_
  refine zx_isub C dX12_entryAt_10 ?_
  refine zx_bipush (v := 34) C dX12_entryAt_11 (by decide) ?_
  refine zx_iload_n C dX12_entryAt_13 2 rfl ?_
  refine zx_bipush (v := 8) C dX12_entryAt_14 (by decide) ?_
  refine zx_irem C dX12_entryAt_16 (by decide) ?_
  refine zx_bipush (v := 30) C dX12_entryAt_17 (by decide) ?_
  refine zx_imul C dX12_entryAt_19 ?_
  refine zx_iadd C dX12_entryAt_20 ?_
  refine zx_iload_n C dX12_entryAt_21 3 rfl ?_
  refine zx_iadd C dX12_entryAt_22 ?_
  obtain ⟨v6, ρ7, h8, hm⟩ := cll_e hm
  refine zx_callS (σ := ρ4) C [.int ((v3) - (1)), .int (((34) + (((p1) - (p1) / (8) * (8)) * (30))) + (p2))] Y_X12_room W_6_209 W_6_210 (c_X12_room h8) (by decide) (by decide) rfl (Nat.le_of_ble_eq_true rfl) dX12_entryAt_23 rfl ?_
  obtain ⟨rfl, rfl⟩ := ret_e hm
  exact zx_iret C rfl rfl rfl dX12_entryAt_26
abbrev cX12_entryNode : ByteArray := prog_13_method_46_code
def yX12_entryNode : MethodName := ⟨"SyncTreeModel", "entryNode", "(II)I"⟩
theorem Y_X12_entryNode : tY yX12_entryNode cX12_entryNode 3 (some .int) 2 := ⟨W_8_55, W_1_14, ⟨by decide +kernel, by decide +kernel⟩, by decide +kernel⟩
theorem dX12_entryNode_0 : decode cX12_entryNode 0 = .ok (.aload_n 0, 1) := by decide +kernel
theorem dX12_entryNode_1 : decode cX12_entryNode 1 = .ok (.getfield 13, 3) := by decide +kernel
theorem dX12_entryNode_4 : decode cX12_entryNode 4 = .ok (.aload_n 0, 1) := by decide +kernel
theorem dX12_entryNode_5 : decode cX12_entryNode 5 = .ok (.iload_n 1, 1) := by decide +kernel
theorem dX12_entryNode_6 : decode cX12_entryNode 6 = .ok (.iload_n 2, 1) := by decide +kernel
theorem dX12_entryNode_7 : decode cX12_entryNode 7 = .ok (.iconst 0, 1) := by decide +kernel
theorem dX12_entryNode_8 : decode cX12_entryNode 8 = .ok (.invokevirtual 295, 3) := by decide +kernel
theorem dX12_entryNode_11 : decode cX12_entryNode 11 = .ok (.iaload, 1) := by decide +kernel
theorem dX12_entryNode_12 : decode cX12_entryNode 12 = .ok (.ireturn, 1) := by decide +kernel
set_option maxRecDepth 100000 in
set_option maxHeartbeats 1000000 in
theorem c_X12_entryNode {l : Launch} {D : va_G} {aC : Nat → ClassId} {b0 fu : Nat} {a0 : Nat} {p0 : Int32} {p1 : Int32} {σ τ : tM} {v : Int32} (hm : m_X12_entryNode b0 fu a0 p0 p1 σ = some (v, τ)) : tMt l D aC b0 yX12_entryNode (Cond.code yX12_entryNode cX12_entryNode 3 (some .int)) 5 112 [.ref (a0), .int (p0), .int (p1)] σ (.inl (some (.int v))) τ := by
  unfold m_X12_entryNode at hm
  obtain ⟨hg, hm⟩ := grw_e hm
  refine tMt_of (n := 0) rfl (Nat.le_of_ble_eq_true rfl) hg ?_
  intro p e s m below meth c C htab hin
  refine zx_lv [0, 1, 2] [(0, .ref (a0)), (1, .int (p0)), (2, .int (p1))] rfl ?_
  refine zx_aload_n C dX12_entryNode_0 0 rfl ?_
  obtain ⟨k1, i2, hm⟩ := ckO_e hm
  obtain ⟨a3, h4, hm⟩ := osm_e hm
  refine zx_get (j := 1) C tC_11 k1 i2 ⟨by decide, Or.inl W_6_221⟩ dX12_entryNode_1 (.ref a3) (rf_s h4) ?_
  refine zx_aload_n C dX12_entryNode_4 0 rfl ?_
  refine zx_iload_n C dX12_entryNode_5 1 rfl ?_
  refine zx_iload_n C dX12_entryNode_6 2 rfl ?_
  refine zx_iconst (v := 0) C dX12_entryNode_7 (by decide) ?_
  obtain ⟨v5, ρ6, h7, hm⟩ := cll_e hm
  refine zx_callV (σ := σ) C [.int (p0), .int (p1), .int (0)] tC_11 k1 i2 Y_X12_entryAt W_8_56 W_8_58 Wp_84 (c_X12_entryAt h7) (by decide) (by decide) rfl (Nat.le_of_ble_eq_true rfl) dX12_entryNode_8 rfl ?_
  obtain ⟨n10, k8, i9, hm⟩ := ckR_e hm
  obtain ⟨h11, hm⟩ := ckI_e hm
  refine zx_iald C k8 i9 h11 dX12_entryNode_11 ?_
  obtain ⟨rfl, rfl⟩ := ret_e hm
  exact zx_iret C rfl rfl rfl dX12_entryNode_12
abbrev cX12_entries : ByteArray := prog_13_method_47_code
def yX12_entries : MethodName := ⟨"SyncTreeModel", "entries", "(I)I"⟩
theorem Y_X12_entries : tY yX12_entries cX12_entries 2 (some .int) 1 := ⟨W_8_51, W_1_14, ⟨by decide +kernel, by decide +kernel⟩, by decide +kernel⟩
theorem dX12_entries_0 : decode cX12_entries 0 = .ok (.aload_n 0, 1) := by decide +kernel
theorem dX12_entries_1 : decode cX12_entries 1 = .ok (.iload_n 1, 1) := by decide +kernel
theorem dX12_entries_2 : decode cX12_entries 2 = .ok (.iconst 1, 1) := by decide +kernel
theorem dX12_entries_3 : decode cX12_entries 3 = .ok (.invokevirtual 247, 3) := by decide +kernel
theorem dX12_entries_6 : decode cX12_entries 6 = .ok (.sipush 256, 3) := by decide +kernel
theorem dX12_entries_9 : decode cX12_entries 9 = .ok (.idiv, 1) := by decide +kernel
theorem dX12_entries_10 : decode cX12_entries 10 = .ok (.bipush 8, 2) := by decide +kernel
theorem dX12_entries_12 : decode cX12_entries 12 = .ok (.imul, 1) := by decide +kernel
theorem dX12_entries_13 : decode cX12_entries 13 = .ok (.ireturn, 1) := by decide +kernel
set_option maxRecDepth 100000 in
set_option maxHeartbeats 1000000 in
theorem c_X12_entries {l : Launch} {D : va_G} {aC : Nat → ClassId} {b0 fu : Nat} {a0 : Nat} {p0 : Int32} {σ τ : tM} {v : Int32} (hm : m_X12_entries b0 fu a0 p0 σ = some (v, τ)) : tMt l D aC b0 yX12_entries (Cond.code yX12_entries cX12_entries 2 (some .int)) 1 22 [.ref (a0), .int (p0)] σ (.inl (some (.int v))) τ := by
  unfold m_X12_entries at hm
  obtain ⟨hg, hm⟩ := grw_e hm
  refine tMt_of (n := 0) rfl (Nat.le_of_ble_eq_true rfl) hg ?_
  intro p e s m below meth c C htab hin
  refine zx_lv [0, 1] [(0, .ref (a0)), (1, .int (p0))] rfl ?_
  refine zx_aload_n C dX12_entries_0 0 rfl ?_
  refine zx_iload_n C dX12_entries_1 1 rfl ?_
  refine zx_iconst (v := 1) C dX12_entries_2 (by decide) ?_
  obtain ⟨k1, i2, hm⟩ := ckO_e hm
  obtain ⟨v3, ρ4, h5, hm⟩ := cll_e hm
  refine zx_callV (σ := σ) C [.int (p0), .int (1)] tC_11 k1 i2 Y_X12_node W_8_40 W_8_42 Wp_80 (c_X12_node h5) (by decide) (by decide) rfl (Nat.le_of_ble_eq_true rfl) dX12_entries_3 rfl ?_
  refine zx_sipush (v := 256) C dX12_entries_6 (by decide) ?_
  refine zx_idiv C dX12_entries_9 (by decide) ?_
  refine zx_bipush (v := 8) C dX12_entries_10 (by decide) ?_
  refine zx_imul C dX12_entries_12 ?_
  obtain ⟨rfl, rfl⟩ := ret_e hm
  exact zx_iret C rfl rfl rfl dX12_entries_13
abbrev cX12_find : ByteArray := prog_13_method_48_code
def yX12_find : MethodName := ⟨"SyncTreeModel", "find", "(I[BII)I"⟩
theorem Y_X12_find : tY yX12_find cX12_find 9 (some .int) 4 := ⟨W_8_47, W_1_14, ⟨by decide +kernel, by decide +kernel⟩, by decide +kernel⟩
theorem dX12_find_0 : decode cX12_find 0 = .ok (.aload_n 0, 1) := by decide +kernel
theorem dX12_find_1 : decode cX12_find 1 = .ok (.iload_n 1, 1) := by decide +kernel
theorem dX12_find_2 : decode cX12_find 2 = .ok (.invokevirtual 299, 3) := by decide +kernel
theorem dX12_find_5 : decode cX12_find 5 = .ok (.istore 5, 2) := by decide +kernel
theorem dX12_find_7 : decode cX12_find 7 = .ok (.iconst 0, 1) := by decide +kernel
theorem dX12_find_8 : decode cX12_find 8 = .ok (.istore 6, 2) := by decide +kernel
theorem dX12_find_10 : decode cX12_find 10 = .ok (.iload 6, 2) := by decide +kernel
theorem dX12_find_12 : decode cX12_find 12 = .ok (.iload 5, 2) := by decide +kernel
theorem dX12_find_14 : decode cX12_find 14 = .ok (.if_icmp .ge 106, 3) := by decide +kernel
theorem dX12_find_17 : decode cX12_find 17 = .ok (.aload_n 0, 1) := by decide +kernel
theorem dX12_find_18 : decode cX12_find 18 = .ok (.iload_n 1, 1) := by decide +kernel
theorem dX12_find_19 : decode cX12_find 19 = .ok (.iload 6, 2) := by decide +kernel
theorem dX12_find_21 : decode cX12_find 21 = .ok (.invokevirtual 302, 3) := by decide +kernel
theorem dX12_find_24 : decode cX12_find 24 = .ok (.bipush 64, 2) := by decide +kernel
theorem dX12_find_26 : decode cX12_find 26 = .ok (.if_icmp .eq 88, 3) := by decide +kernel
theorem dX12_find_29 : decode cX12_find 29 = .ok (.aload_n 0, 1) := by decide +kernel
theorem dX12_find_30 : decode cX12_find 30 = .ok (.getfield 13, 3) := by decide +kernel
theorem dX12_find_33 : decode cX12_find 33 = .ok (.aload_n 0, 1) := by decide +kernel
theorem dX12_find_34 : decode cX12_find 34 = .ok (.iload_n 1, 1) := by decide +kernel
theorem dX12_find_35 : decode cX12_find 35 = .ok (.iload 6, 2) := by decide +kernel
theorem dX12_find_37 : decode cX12_find 37 = .ok (.iconst 1, 1) := by decide +kernel
theorem dX12_find_38 : decode cX12_find 38 = .ok (.invokevirtual 295, 3) := by decide +kernel
theorem dX12_find_41 : decode cX12_find 41 = .ok (.iaload, 1) := by decide +kernel
theorem dX12_find_42 : decode cX12_find 42 = .ok (.iload 4, 2) := by decide +kernel
theorem dX12_find_44 : decode cX12_find 44 = .ok (.if_icmp .eq 6, 3) := by decide +kernel
theorem dX12_find_47 : decode cX12_find 47 = .ok (.goto 67, 3) := by decide +kernel
theorem dX12_find_50 : decode cX12_find 50 = .ok (.iconst 1, 1) := by decide +kernel
theorem dX12_find_51 : decode cX12_find 51 = .ok (.istore 7, 2) := by decide +kernel
theorem dX12_find_53 : decode cX12_find 53 = .ok (.iconst 0, 1) := by decide +kernel
theorem dX12_find_54 : decode cX12_find 54 = .ok (.istore 8, 2) := by decide +kernel
theorem dX12_find_56 : decode cX12_find 56 = .ok (.iload 8, 2) := by decide +kernel
theorem dX12_find_58 : decode cX12_find 58 = .ok (.iload 4, 2) := by decide +kernel
theorem dX12_find_60 : decode cX12_find 60 = .ok (.if_icmp .ge 46, 3) := by decide +kernel
theorem dX12_find_63 : decode cX12_find 63 = .ok (.iload 7, 2) := by decide +kernel
theorem dX12_find_65 : decode cX12_find 65 = .ok (.ifCond .eq 41, 3) := by decide +kernel
theorem dX12_find_68 : decode cX12_find 68 = .ok (.aload_n 0, 1) := by decide +kernel
theorem dX12_find_69 : decode cX12_find 69 = .ok (.getfield 13, 3) := by decide +kernel
theorem dX12_find_72 : decode cX12_find 72 = .ok (.aload_n 0, 1) := by decide +kernel
theorem dX12_find_73 : decode cX12_find 73 = .ok (.iload_n 1, 1) := by decide +kernel
theorem dX12_find_74 : decode cX12_find 74 = .ok (.iload 6, 2) := by decide +kernel
theorem dX12_find_76 : decode cX12_find 76 = .ok (.iconst 2, 1) := by decide +kernel
theorem dX12_find_77 : decode cX12_find 77 = .ok (.iload 8, 2) := by decide +kernel
theorem dX12_find_79 : decode cX12_find 79 = .ok (.iadd, 1) := by decide +kernel
theorem dX12_find_80 : decode cX12_find 80 = .ok (.invokevirtual 295, 3) := by decide +kernel
theorem dX12_find_83 : decode cX12_find 83 = .ok (.iaload, 1) := by decide +kernel
theorem dX12_find_84 : decode cX12_find 84 = .ok (.aload_n 2, 1) := by decide +kernel
theorem dX12_find_85 : decode cX12_find 85 = .ok (.iload_n 3, 1) := by decide +kernel
theorem dX12_find_86 : decode cX12_find 86 = .ok (.iload 8, 2) := by decide +kernel
theorem dX12_find_88 : decode cX12_find 88 = .ok (.iadd, 1) := by decide +kernel
theorem dX12_find_89 : decode cX12_find 89 = .ok (.baload, 1) := by decide +kernel
theorem dX12_find_90 : decode cX12_find 90 = .ok (.if_icmp .ne 7, 3) := by decide +kernel
theorem dX12_find_93 : decode cX12_find 93 = .ok (.iconst 1, 1) := by decide +kernel
theorem dX12_find_94 : decode cX12_find 94 = .ok (.goto 4, 3) := by decide +kernel
theorem dX12_find_97 : decode cX12_find 97 = .ok (.iconst 0, 1) := by decide +kernel
theorem dX12_find_98 : decode cX12_find 98 = .ok (.istore 7, 2) := by decide +kernel
theorem dX12_find_100 : decode cX12_find 100 = .ok (.iinc 8 1, 3) := by decide +kernel
theorem dX12_find_103 : decode cX12_find 103 = .ok (.goto (-47), 3) := by decide +kernel
theorem dX12_find_106 : decode cX12_find 106 = .ok (.iload 7, 2) := by decide +kernel
theorem dX12_find_108 : decode cX12_find 108 = .ok (.ifCond .eq 6, 3) := by decide +kernel
theorem dX12_find_111 : decode cX12_find 111 = .ok (.iload 6, 2) := by decide +kernel
theorem dX12_find_113 : decode cX12_find 113 = .ok (.ireturn, 1) := by decide +kernel
theorem dX12_find_114 : decode cX12_find 114 = .ok (.iinc 6 1, 3) := by decide +kernel
theorem dX12_find_117 : decode cX12_find 117 = .ok (.goto (-107), 3) := by decide +kernel
theorem dX12_find_120 : decode cX12_find 120 = .ok (.iconst (-1), 1) := by decide +kernel
theorem dX12_find_121 : decode cX12_find 121 = .ok (.ireturn, 1) := by decide +kernel
set_option maxRecDepth 100000 in
set_option maxHeartbeats 1000000 in
theorem j_X12_find_114 {p : Program} {l : Launch} {e : Env} {s : State} {m : MethodId} {args : Array Value} {below : List Frame} {meth : Method} {c : Code} {D : va_G} {aC : Nat → ClassId} {b0 fu : Nat} {σ0 τ : tM} {v : Int32} {rc10 : Nat → Int32 → Nat → Int32 → Int32 → Int32 → Int32 → tM → Option ((Int32) × tM)} (C : tCx p l s m args meth c yX12_find.cls cX12_find 9 (some .int) D aC b0 σ0) (htab : ∀ x ∈ c.exceptionTable.toList, False) (hin : meth.name = yX12_find.name) (hrc10 : ∀ (x0 : Nat) (x1 : Int32) (x2 : Nat) (x3 : Int32) (x4 : Int32) (x5 : Int32) (x6 : Int32) (ρ : tM), rc10 x0 x1 x2 x3 x4 x5 x6 ρ = some (v, τ) → tX p l e s m args below meth c 9 6 134 D aC b0 σ0 (.inl (some (.int v))) τ 10 [(0, .ref (x0)), (1, .int (x1)), (2, .ref (x2)), (3, .int (x3)), (4, .int (x4)), (5, .int (x5)), (6, .int (x6))] [] ρ) {x0 : Nat} {x1 : Int32} {x2 : Nat} {x3 : Int32} {x4 : Int32} {x5 : Int32} {x6 : Int32} {σ : tM} (hm : J_X12_find_114 b0 fu rc10 x0 x1 x2 x3 x4 x5 x6 σ = some (v, τ)) : tX p l e s m args below meth c 9 6 134 D aC b0 σ0 (.inl (some (.int v))) τ 114 [(0, .ref (x0)), (1, .int (x1)), (2, .ref (x2)), (3, .int (x3)), (4, .int (x4)), (5, .int (x5)), (6, .int (x6))] [] σ := by
  unfold J_X12_find_114 at hm
  obtain ⟨y13, hy13⟩ : ∃ z : Int32, z = (x6) + Int32.ofInt 1 := ⟨_, rfl⟩
  replace hm := ltb_e hm hy13
  refine zx_iinc C [(6, .int (y13)), (0, .ref (x0)), (1, .int (x1)), (2, .ref (x2)), (3, .int (x3)), (4, .int (x4)), (5, .int (x5))] dX12_find_114 6 rfl hy13.symm (by decide) rfl ?_
  refine zx_goto C 10 dX12_find_117 (by decide) ?_
  exact zx_lv [1, 2, 3, 4, 5, 6, 0] [(0, .ref (x0)), (1, .int (x1)), (2, .ref (x2)), (3, .int (x3)), (4, .int (x4)), (5, .int (x5)), (6, .int (y13))] rfl (hrc10 _ _ _ _ _ _ _ _ hm)
set_option maxRecDepth 100000 in
set_option maxHeartbeats 1000000 in
theorem j_X12_find_106 {p : Program} {l : Launch} {e : Env} {s : State} {m : MethodId} {args : Array Value} {below : List Frame} {meth : Method} {c : Code} {D : va_G} {aC : Nat → ClassId} {b0 fu : Nat} {σ0 τ : tM} {v : Int32} {rc10 : Nat → Int32 → Nat → Int32 → Int32 → Int32 → Int32 → tM → Option ((Int32) × tM)} (C : tCx p l s m args meth c yX12_find.cls cX12_find 9 (some .int) D aC b0 σ0) (htab : ∀ x ∈ c.exceptionTable.toList, False) (hin : meth.name = yX12_find.name) (hrc10 : ∀ (x0 : Nat) (x1 : Int32) (x2 : Nat) (x3 : Int32) (x4 : Int32) (x5 : Int32) (x6 : Int32) (ρ : tM), rc10 x0 x1 x2 x3 x4 x5 x6 ρ = some (v, τ) → tX p l e s m args below meth c 9 6 134 D aC b0 σ0 (.inl (some (.int v))) τ 10 [(0, .ref (x0)), (1, .int (x1)), (2, .ref (x2)), (3, .int (x3)), (4, .int (x4)), (5, .int (x5)), (6, .int (x6))] [] ρ) {x0 : Nat} {x1 : Int32} {x2 : Nat} {x3 : Int32} {x4 : Int32} {x5 : Int32} {x6 : Int32} {x7 : Int32} {σ : tM} (hm : J_X12_find_106 b0 fu rc10 x0 x1 x2 x3 x4 x5 x6 x7 σ = some (v, τ)) : tX p l e s m args below meth c 9 6 134 D aC b0 σ0 (.inl (some (.int v))) τ 106 [(0, .ref (x0)), (1, .int (x1)), (2, .ref (x2)), (3, .int (x3)), (4, .int (x4)), (5, .int (x5)), (6, .int (x6)), (7, .int (x7))] [] σ := by
  unfold J_X12_find_106 at hm
  refine zx_iload C dX12_find_106 7 rfl ?_
  refine zx_if_eq C 114 dX12_find_108 (by decide) (fun c27 => ?_) (fun c27 => ?_)
  · replace hm := ip_e hm c27
    exact zx_lv [0, 1, 2, 3, 4, 5, 6] [(0, .ref (x0)), (1, .int (x1)), (2, .ref (x2)), (3, .int (x3)), (4, .int (x4)), (5, .int (x5)), (6, .int (x6))] rfl (j_X12_find_114 C htab hin hrc10   hm)
  · replace hm := in_e hm c27
    refine zx_iload C dX12_find_111 6 rfl ?_
    obtain ⟨rfl, rfl⟩ := ret_e hm
    exact zx_iret C rfl rfl rfl dX12_find_113
set_option maxRecDepth 100000 in
set_option maxHeartbeats 1000000 in
theorem j_X12_find_98 {p : Program} {l : Launch} {e : Env} {s : State} {m : MethodId} {args : Array Value} {below : List Frame} {meth : Method} {c : Code} {D : va_G} {aC : Nat → ClassId} {b0 fu : Nat} {σ0 τ : tM} {v : Int32} {rc10 : Nat → Int32 → Nat → Int32 → Int32 → Int32 → Int32 → tM → Option ((Int32) × tM)} {rc56 : Nat → Int32 → Nat → Int32 → Int32 → Int32 → Int32 → Int32 → Int32 → tM → Option ((Int32) × tM)} (C : tCx p l s m args meth c yX12_find.cls cX12_find 9 (some .int) D aC b0 σ0) (htab : ∀ x ∈ c.exceptionTable.toList, False) (hin : meth.name = yX12_find.name) (hrc10 : ∀ (x0 : Nat) (x1 : Int32) (x2 : Nat) (x3 : Int32) (x4 : Int32) (x5 : Int32) (x6 : Int32) (ρ : tM), rc10 x0 x1 x2 x3 x4 x5 x6 ρ = some (v, τ) → tX p l e s m args below meth c 9 6 134 D aC b0 σ0 (.inl (some (.int v))) τ 10 [(0, .ref (x0)), (1, .int (x1)), (2, .ref (x2)), (3, .int (x3)), (4, .int (x4)), (5, .int (x5)), (6, .int (x6))] [] ρ) (hrc56 : ∀ (x0 : Nat) (x1 : Int32) (x2 : Nat) (x3 : Int32) (x4 : Int32) (x5 : Int32) (x6 : Int32) (x7 : Int32) (x8 : Int32) (ρ : tM), rc56 x0 x1 x2 x3 x4 x5 x6 x7 x8 ρ = some (v, τ) → tX p l e s m args below meth c 9 6 134 D aC b0 σ0 (.inl (some (.int v))) τ 56 [(0, .ref (x0)), (1, .int (x1)), (2, .ref (x2)), (3, .int (x3)), (4, .int (x4)), (5, .int (x5)), (6, .int (x6)), (7, .int (x7)), (8, .int (x8))] [] ρ) {x0 : Nat} {x1 : Int32} {x2 : Nat} {x3 : Int32} {x4 : Int32} {x5 : Int32} {x6 : Int32} {x8 : Int32} {s0 : Int32} {σ : tM} (hm : J_X12_find_98 b0 fu rc10 rc56 x0 x1 x2 x3 x4 x5 x6 x8 s0 σ = some (v, τ)) : tX p l e s m args below meth c 9 6 134 D aC b0 σ0 (.inl (some (.int v))) τ 98 [(0, .ref (x0)), (1, .int (x1)), (2, .ref (x2)), (3, .int (x3)), (4, .int (x4)), (5, .int (x5)), (6, .int (x6)), (8, .int (x8))] [.int (s0)] σ := by
  unfold J_X12_find_98 at hm
  refine zx_istore C [(7, .int (s0)), (0, .ref (x0)), (1, .int (x1)), (2, .ref (x2)), (3, .int (x3)), (4, .int (x4)), (5, .int (x5)), (6, .int (x6)), (8, .int (x8))] dX12_find_98 (by decide) rfl ?_
  obtain ⟨y45, hy45⟩ : ∃ z : Int32, z = (x8) + Int32.ofInt 1 := ⟨_, rfl⟩
  replace hm := ltb_e hm hy45
  refine zx_iinc C [(8, .int (y45)), (7, .int (s0)), (0, .ref (x0)), (1, .int (x1)), (2, .ref (x2)), (3, .int (x3)), (4, .int (x4)), (5, .int (x5)), (6, .int (x6))] dX12_find_100 8 rfl hy45.symm (by decide) rfl ?_
  refine zx_goto C 56 dX12_find_103 (by decide) ?_
  exact zx_lv [2, 3, 4, 5, 6, 7, 8, 1, 0] [(0, .ref (x0)), (1, .int (x1)), (2, .ref (x2)), (3, .int (x3)), (4, .int (x4)), (5, .int (x5)), (6, .int (x6)), (7, .int (s0)), (8, .int (y45))] rfl (hrc56 _ _ _ _ _ _ _ _ _ _ hm)
set_option maxRecDepth 100000 in
set_option maxHeartbeats 1000000 in
theorem l_X12_find_56 {p : Program} {l : Launch} {e : Env} {s : State} {m : MethodId} {args : Array Value} {below : List Frame} {meth : Method} {c : Code} {D : va_G} {aC : Nat → ClassId} {b0 fu : Nat} {σ0 τ : tM} {v : Int32} {rc10 : Nat → Int32 → Nat → Int32 → Int32 → Int32 → Int32 → tM → Option ((Int32) × tM)} (C : tCx p l s m args meth c yX12_find.cls cX12_find 9 (some .int) D aC b0 σ0) (htab : ∀ x ∈ c.exceptionTable.toList, False) (hin : meth.name = yX12_find.name) (hrc10 : ∀ (x0 : Nat) (x1 : Int32) (x2 : Nat) (x3 : Int32) (x4 : Int32) (x5 : Int32) (x6 : Int32) (ρ : tM), rc10 x0 x1 x2 x3 x4 x5 x6 ρ = some (v, τ) → tX p l e s m args below meth c 9 6 134 D aC b0 σ0 (.inl (some (.int v))) τ 10 [(0, .ref (x0)), (1, .int (x1)), (2, .ref (x2)), (3, .int (x3)), (4, .int (x4)), (5, .int (x5)), (6, .int (x6))] [] ρ) : ∀ (n : Nat) (x0 : Nat) (x1 : Int32) (x2 : Nat) (x3 : Int32) (x4 : Int32) (x5 : Int32) (x6 : Int32) (x7 : Int32) (x8 : Int32) (σ : tM), L_X12_find_56 b0 fu rc10 n x0 x1 x2 x3 x4 x5 x6 x7 x8 σ = some (v, τ) → tX p l e s m args below meth c 9 6 134 D aC b0 σ0 (.inl (some (.int v))) τ 56 [(0, .ref (x0)), (1, .int (x1)), (2, .ref (x2)), (3, .int (x3)), (4, .int (x4)), (5, .int (x5)), (6, .int (x6)), (7, .int (x7)), (8, .int (x8))] [] σ := by
  intro n
  induction n with
  | zero => intro x0 x1 x2 x3 x4 x5 x6 x7 x8 σ hm; unfold L_X12_find_56 at hm; cases hm
  | succ n ih =>
    intro x0 x1 x2 x3 x4 x5 x6 x7 x8 σ hm
    unfold L_X12_find_56 at hm
    obtain ⟨rc56, hrc⟩ : ∃ z, z = L_X12_find_56 b0 fu rc10 n := ⟨_, rfl⟩
    replace hm := ltb_e hm hrc
    rw [← hrc] at ih
    have hrc56 := ih
    clear ih hrc
    refine zx_iload C dX12_find_56 8 rfl ?_
    refine zx_iload C dX12_find_58 4 rfl ?_
    refine zx_icmp_ge C 106 dX12_find_60 (by decide) (fun c26 => ?_) (fun c26 => ?_)
    · replace hm := ip_e hm c26
      exact zx_lv [0, 1, 2, 3, 4, 5, 6, 7] [(0, .ref (x0)), (1, .int (x1)), (2, .ref (x2)), (3, .int (x3)), (4, .int (x4)), (5, .int (x5)), (6, .int (x6)), (7, .int (x7))] rfl (j_X12_find_106 C htab hin hrc10   hm)
    · replace hm := in_e hm c26
      refine zx_iload C dX12_find_63 7 rfl ?_
      refine zx_if_eq C 106 dX12_find_65 (by decide) (fun c28 => ?_) (fun c28 => ?_)
      · replace hm := ip_e hm c28
        exact zx_lv [0, 1, 2, 3, 4, 5, 6, 7] [(0, .ref (x0)), (1, .int (x1)), (2, .ref (x2)), (3, .int (x3)), (4, .int (x4)), (5, .int (x5)), (6, .int (x6)), (7, .int (x7))] rfl (j_X12_find_106 C htab hin hrc10   hm)
      · replace hm := in_e hm c28
        refine zx_aload_n C dX12_find_68 0 rfl ?_
        obtain ⟨k29, i30, hm⟩ := ckO_e hm
        obtain ⟨a31, h32, hm⟩ := osm_e hm
        refine zx_get (j := 1) C tC_11 k29 i30 ⟨by decide, Or.inl W_6_221⟩ dX12_find_69 (.ref a31) (rf_s h32) ?_
        refine zx_aload_n C dX12_find_72 0 rfl ?_
        refine zx_iload_n C dX12_find_73 1 rfl ?_
        refine zx_iload C dX12_find_74 6 rfl ?_
        refine zx_iconst (v := 2) C dX12_find_76 (by decide) ?_
        refine zx_iload C dX12_find_77 8 rfl ?_
        refine zx_iadd C dX12_find_79 ?_
        obtain ⟨v33, ρ34, h35, hm⟩ := cll_e hm
        refine zx_callV (σ := σ) C [.int (x1), .int (x6), .int ((2) + (x8))] tC_11 k29 i30 Y_X12_entryAt W_8_56 W_8_58 Wp_84 (c_X12_entryAt h35) (by decide) (by decide) rfl (Nat.le_of_ble_eq_true rfl) dX12_find_80 rfl ?_
        obtain ⟨n38, k36, i37, hm⟩ := ckR_e hm
        obtain ⟨h39, hm⟩ := ckI_e hm
        refine zx_iald C k36 i37 h39 dX12_find_83 ?_
        refine zx_aload_n C dX12_find_84 2 rfl ?_
        refine zx_iload_n C dX12_find_85 3 rfl ?_
        refine zx_iload C dX12_find_86 8 rfl ?_
        refine zx_iadd C dX12_find_88 ?_
        obtain ⟨n42, k40, i41, hm⟩ := ckR_e hm
        obtain ⟨h43, hm⟩ := ckI_e hm
        refine zx_bald C k40 i41 h43 dX12_find_89 ?_
        refine zx_icmp_ne C 97 dX12_find_90 (by decide) (fun c44 => ?_) (fun c44 => ?_)
        · replace hm := in_e hm c44
          refine zx_iconst (v := 0) C dX12_find_97 (by decide) ?_
          exact zx_lv [0, 1, 2, 3, 4, 5, 6, 8] [(0, .ref (x0)), (1, .int (x1)), (2, .ref (x2)), (3, .int (x3)), (4, .int (x4)), (5, .int (x5)), (6, .int (x6)), (8, .int (x8))] rfl (j_X12_find_98 C htab hin hrc10 hrc56   hm)
        · replace hm := ip_e hm c44
          refine zx_iconst (v := 1) C dX12_find_93 (by decide) ?_
          refine zx_goto C 98 dX12_find_94 (by decide) ?_
          exact zx_lv [0, 1, 2, 3, 4, 5, 6, 8] [(0, .ref (x0)), (1, .int (x1)), (2, .ref (x2)), (3, .int (x3)), (4, .int (x4)), (5, .int (x5)), (6, .int (x6)), (8, .int (x8))] rfl (j_X12_find_98 C htab hin hrc10 hrc56   hm)
set_option maxRecDepth 100000 in
set_option maxHeartbeats 1000000 in
theorem l_X12_find_10 {p : Program} {l : Launch} {e : Env} {s : State} {m : MethodId} {args : Array Value} {below : List Frame} {meth : Method} {c : Code} {D : va_G} {aC : Nat → ClassId} {b0 fu : Nat} {σ0 τ : tM} {v : Int32}  (C : tCx p l s m args meth c yX12_find.cls cX12_find 9 (some .int) D aC b0 σ0) (htab : ∀ x ∈ c.exceptionTable.toList, False) (hin : meth.name = yX12_find.name)  : ∀ (n : Nat) (x0 : Nat) (x1 : Int32) (x2 : Nat) (x3 : Int32) (x4 : Int32) (x5 : Int32) (x6 : Int32) (σ : tM), L_X12_find_10 b0 fu  n x0 x1 x2 x3 x4 x5 x6 σ = some (v, τ) → tX p l e s m args below meth c 9 6 134 D aC b0 σ0 (.inl (some (.int v))) τ 10 [(0, .ref (x0)), (1, .int (x1)), (2, .ref (x2)), (3, .int (x3)), (4, .int (x4)), (5, .int (x5)), (6, .int (x6))] [] σ := by
  intro n
  induction n with
  | zero => intro x0 x1 x2 x3 x4 x5 x6 σ hm; unfold L_X12_find_10 at hm; cases hm
  | succ n ih =>
    intro x0 x1 x2 x3 x4 x5 x6 σ hm
    unfold L_X12_find_10 at hm
    obtain ⟨rc10, hrc⟩ : ∃ z, z = L_X12_find_10 b0 fu  n := ⟨_, rfl⟩
    replace hm := ltb_e hm hrc
    rw [← hrc] at ih
    have hrc10 := ih
    clear ih hrc
    refine zx_iload C dX12_find_10 6 rfl ?_
    refine zx_iload C dX12_find_12 5 rfl ?_
    refine zx_icmp_ge C 120 dX12_find_14 (by decide) (fun c6 => ?_) (fun c6 => ?_)
    · replace hm := ip_e hm c6
      refine zx_iconst (v := (-1)) C dX12_find_120 (by decide) ?_
      obtain ⟨rfl, rfl⟩ := ret_e hm
      exact zx_iret C rfl rfl rfl dX12_find_121
    · replace hm := in_e hm c6
      refine zx_aload_n C dX12_find_17 0 rfl ?_
      refine zx_iload_n C dX12_find_18 1 rfl ?_
      refine zx_iload C dX12_find_19 6 rfl ?_
      obtain ⟨k7, i8, hm⟩ := ckO_e hm
      obtain ⟨v9, ρ10, h11, hm⟩ := cll_e hm
      refine zx_callV (σ := σ) C [.int (x1), .int (x6)] tC_11 k7 i8 Y_X12_entryNode W_8_52 W_8_54 Wp_83 (c_X12_entryNode h11) (by decide) (by decide) rfl (Nat.le_of_ble_eq_true rfl) dX12_find_21 rfl ?_
      refine zx_bipush (v := 64) C dX12_find_24 (by decide) ?_
      refine zx_icmp_eq C 114 dX12_find_26 (by decide) (fun c12 => ?_) (fun c12 => ?_)
      · replace hm := ip_e hm c12
        exact zx_lv [0, 1, 2, 3, 4, 5, 6] [(0, .ref (x0)), (1, .int (x1)), (2, .ref (x2)), (3, .int (x3)), (4, .int (x4)), (5, .int (x5)), (6, .int (x6))] rfl (j_X12_find_114 C htab hin hrc10   hm)
      · replace hm := in_e hm c12
        refine zx_aload_n C dX12_find_29 0 rfl ?_
        obtain ⟨k14, i15, hm⟩ := ckO_e hm
        obtain ⟨a16, h17, hm⟩ := osm_e hm
        refine zx_get (j := 1) C tC_11 k14 i15 ⟨by decide, Or.inl W_6_221⟩ dX12_find_30 (.ref a16) (rf_s h17) ?_
        refine zx_aload_n C dX12_find_33 0 rfl ?_
        refine zx_iload_n C dX12_find_34 1 rfl ?_
        refine zx_iload C dX12_find_35 6 rfl ?_
        refine zx_iconst (v := 1) C dX12_find_37 (by decide) ?_
        obtain ⟨v18, ρ19, h20, hm⟩ := cll_e hm
        refine zx_callV (σ := ρ10) C [.int (x1), .int (x6), .int (1)] tC_11 k14 i15 Y_X12_entryAt W_8_56 W_8_58 Wp_84 (c_X12_entryAt h20) (by decide) (by decide) rfl (Nat.le_of_ble_eq_true rfl) dX12_find_38 rfl ?_
        obtain ⟨n23, k21, i22, hm⟩ := ckR_e hm
        obtain ⟨h24, hm⟩ := ckI_e hm
        refine zx_iald C k21 i22 h24 dX12_find_41 ?_
        refine zx_iload C dX12_find_42 4 rfl ?_
        refine zx_icmp_eq C 50 dX12_find_44 (by decide) (fun c25 => ?_) (fun c25 => ?_)
        · replace hm := ip_e hm c25
          refine zx_iconst (v := 1) C dX12_find_50 (by decide) ?_
          refine zx_istore C [(7, .int (1)), (0, .ref (x0)), (1, .int (x1)), (2, .ref (x2)), (3, .int (x3)), (4, .int (x4)), (5, .int (x5)), (6, .int (x6))] dX12_find_51 (by decide) rfl ?_
          refine zx_iconst (v := 0) C dX12_find_53 (by decide) ?_
          refine zx_istore C [(8, .int (0)), (7, .int (1)), (0, .ref (x0)), (1, .int (x1)), (2, .ref (x2)), (3, .int (x3)), (4, .int (x4)), (5, .int (x5)), (6, .int (x6))] dX12_find_54 (by decide) rfl ?_
          exact zx_lv [2, 3, 4, 5, 6, 7, 8, 1, 0] [(0, .ref (x0)), (1, .int (x1)), (2, .ref (x2)), (3, .int (x3)), (4, .int (x4)), (5, .int (x5)), (6, .int (x6)), (7, .int (1)), (8, .int (0))] rfl (l_X12_find_56 C htab hin hrc10 _ _ _ _ _ _ _ _ _ _ _ hm)
        · replace hm := in_e hm c25
          refine zx_goto C 114 dX12_find_47 (by decide) ?_
          exact zx_lv [0, 1, 2, 3, 4, 5, 6] [(0, .ref (x0)), (1, .int (x1)), (2, .ref (x2)), (3, .int (x3)), (4, .int (x4)), (5, .int (x5)), (6, .int (x6))] rfl (j_X12_find_114 C htab hin hrc10   hm)
set_option maxRecDepth 100000 in
set_option maxHeartbeats 1000000 in
theorem c_X12_find {l : Launch} {D : va_G} {aC : Nat → ClassId} {b0 fu : Nat} {a0 : Nat} {p0 : Int32} {p1 : Nat} {p2 : Int32} {p3 : Int32} {σ τ : tM} {v : Int32} (hm : m_X12_find b0 fu a0 p0 p1 p2 p3 σ = some (v, τ)) : tMt l D aC b0 yX12_find (Cond.code yX12_find cX12_find 9 (some .int)) 6 134 [.ref (a0), .int (p0), .ref (p1), .int (p2), .int (p3)] σ (.inl (some (.int v))) τ := by
  unfold m_X12_find at hm
  obtain ⟨hg, hm⟩ := grw_e hm
  refine tMt_of (n := 0) rfl (Nat.le_of_ble_eq_true rfl) hg ?_
  intro p e s m below meth c C htab hin
  refine zx_lv [0, 1, 2, 3, 4] [(0, .ref (a0)), (1, .int (p0)), (2, .ref (p1)), (3, .int (p2)), (4, .int (p3))] rfl ?_
  refine zx_aload_n C dX12_find_0 0 rfl ?_
  refine zx_iload_n C dX12_find_1 1 rfl ?_
  obtain ⟨k1, i2, hm⟩ := ckO_e hm
  obtain ⟨v3, ρ4, h5, hm⟩ := cll_e hm
  refine zx_callV (σ := σ) C [.int (p0)] tC_11 k1 i2 Y_X12_entries W_8_48 W_8_50 Wp_82 (c_X12_entries h5) (by decide) (by decide) rfl (Nat.le_of_ble_eq_true rfl) dX12_find_2 rfl ?_
  refine zx_istore C [(5, .int (v3)), (0, .ref (a0)), (1, .int (p0)), (2, .ref (p1)), (3, .int (p2)), (4, .int (p3))] dX12_find_5 (by decide) rfl ?_
  refine zx_iconst (v := 0) C dX12_find_7 (by decide) ?_
  refine zx_istore C [(6, .int (0)), (5, .int (v3)), (0, .ref (a0)), (1, .int (p0)), (2, .ref (p1)), (3, .int (p2)), (4, .int (p3))] dX12_find_8 (by decide) rfl ?_
  exact zx_lv [2, 3, 4, 5, 6, 1, 0] [(0, .ref (a0)), (1, .int (p0)), (2, .ref (p1)), (3, .int (p2)), (4, .int (p3)), (5, .int (v3)), (6, .int (0))] rfl (l_X12_find_10 C htab hin  _ _ _ _ _ _ _ _ _ hm)
