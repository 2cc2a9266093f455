abbrev cL_byteAt : ByteArray := method_15_code
def yL_byteAt : MethodName := ⟨"SyncTreeLaw", "byteAt", "(LSyncTree;II[J)I"⟩
theorem Y_L_byteAt : tYH yL_byteAt cL_byteAt 5 (some .int) [(0, 10, 13, 13)] 4 := ⟨W_5_184, W_1_0, ⟨by decide +kernel, by decide +kernel⟩, by decide +kernel⟩
theorem dL_byteAt_0 : decode cL_byteAt 0 = .ok (.aload_n 3, 1) := by decide +kernel
theorem dL_byteAt_1 : decode cL_byteAt 1 = .ok (.iconst 0, 1) := by decide +kernel
theorem dL_byteAt_2 : decode cL_byteAt 2 = .ok (.aload_n 0, 1) := by decide +kernel
theorem dL_byteAt_3 : decode cL_byteAt 3 = .ok (.iload_n 1, 1) := by decide +kernel
theorem dL_byteAt_4 : decode cL_byteAt 4 = .ok (.iload_n 2, 1) := by decide +kernel
theorem dL_byteAt_5 : decode cL_byteAt 5 = .ok (.invokevirtual 52, 3) := by decide +kernel
theorem dL_byteAt_8 : decode cL_byteAt 8 = .ok (.i2l, 1) := by decide +kernel
theorem dL_byteAt_9 : decode cL_byteAt 9 = .ok (.lastore, 1) := by decide +kernel
theorem dL_byteAt_10 : decode cL_byteAt 10 = .ok (.goto 7, 3) := by decide +kernel
theorem dL_byteAt_13 : decode cL_byteAt 13 = .ok (.astore 4, 2) := by decide +kernel
theorem dL_byteAt_15 : decode cL_byteAt 15 = .ok (.iconst 1, 1) := by decide +kernel
theorem dL_byteAt_16 : decode cL_byteAt 16 = .ok (.ireturn, 1) := by decide +kernel
theorem dL_byteAt_17 : decode cL_byteAt 17 = .ok (.iconst 0, 1) := by decide +kernel
theorem dL_byteAt_18 : decode cL_byteAt 18 = .ok (.ireturn, 1) := by decide +kernel
set_option maxRecDepth 100000 in
set_option maxHeartbeats 1000000 in
theorem c_L_byteAt {l : Launch} {D : va_G} {aC : Nat → ClassId} {b0 fu : Nat} {p0 : Nat} {p1 : Int32} {p2 : Int32} {p3 : Nat} {σ τ : tM} {v : Int32} (hm : m_L_byteAt b0 fu p0 p1 p2 p3 σ = some (v, τ)) : tMt l D aC b0 yL_byteAt (Cond.codeWith yL_byteAt cL_byteAt 5 (some .int) [(0, 10, 13, 13)]) 8 133 [.ref (p0), .int (p1), .int (p2), .ref (p3)] σ (.inl (some (.int v))) τ := by
  unfold m_L_byteAt at hm
  obtain ⟨hg, hm⟩ := grw_e hm
  refine tMt_ofH rfl (Nat.le_of_ble_eq_true rfl) hg ?_
  intro p e s m below meth c C htab hin
  refine zx_lv [0, 1, 2, 3] [(0, .ref (p0)), (1, .int (p1)), (2, .int (p2)), (3, .ref (p3))] rfl ?_
  refine zx_aload_n C dL_byteAt_0 3 rfl ?_
  refine zx_iconst (v := 0) C dL_byteAt_1 (by decide) ?_
  refine zx_aload_n C dL_byteAt_2 0 rfl ?_
  refine zx_iload_n C dL_byteAt_3 1 rfl ?_
  refine zx_iload_n C dL_byteAt_4 2 rfl ?_
  obtain ⟨k1, i2, hm⟩ := ckO_e hm
  rcases cly_e hm with ⟨v3, ρ4, h5, hm⟩ | ⟨ρ11, h5, hm⟩
  · refine zx_callV (σ := σ) C [.int (p1), .int (p2)] tC_10 k1 i2 Y_X10_byteAt W_5_185 W_5_186 W_5_187 (c_X10_byteAt h5) (by decide) (by decide) rfl (Nat.le_of_ble_eq_true rfl) dL_byteAt_5 rfl ?_
    refine zx_i2l C dL_byteAt_8 ?_
    obtain ⟨n8, k6, i7, hm⟩ := ckR_e hm
    obtain ⟨h9, hm⟩ := ckI_e hm
    refine zx_last C k6 i7 h9 dL_byteAt_9 ?_
    refine zx_goto C 17 dL_byteAt_10 (by decide) ?_
    refine zx_iconst (v := 0) C dL_byteAt_17 (by decide) ?_
    obtain ⟨rfl, rfl⟩ := ret_e hm
    exact zx_iret C rfl rfl rfl dL_byteAt_18
  · refine zx_catchV (σ := σ) (x9 := { startPc := 0, endPc := 10, handlerPc := 13, catchType := 13 }) C (tableOf []) (tableOf []) htab (by decide) (by decide) (by decide) (E := "java/lang/IllegalStateException") W_3_103 W_3_118 [.int (p1), .int (p2)] tC_10 k1 i2 Y_X10_byteAt W_5_185 W_5_186 W_5_187 (c_X10_byteAt h5) (by decide) (by decide) rfl (Nat.le_of_ble_eq_true rfl) dL_byteAt_5 rfl (fun q10 => ?_)
    refine zx_astore C [(4, .ref (q10)), (0, .ref (p0)), (1, .int (p1)), (2, .int (p2)), (3, .ref (p3))] dL_byteAt_13 (by decide) rfl ?_
    refine zx_iconst (v := 1) C dL_byteAt_15 (by decide) ?_
    obtain ⟨rfl, rfl⟩ := ret_e hm
    exact zx_iret C rfl rfl rfl dL_byteAt_16
abbrev cL_sum : ByteArray := method_16_code
def yL_sum : MethodName := ⟨"SyncTreeLaw", "sum", "(LSyncTree;III[J)I"⟩
theorem Y_L_sum : tYH yL_sum cL_sum 6 (some .int) [(0, 11, 14, 13)] 5 := ⟨W_5_195, W_1_0, ⟨by decide +kernel, by decide +kernel⟩, by decide +kernel⟩
theorem dL_sum_0 : decode cL_sum 0 = .ok (.aload 4, 2) := by decide +kernel
theorem dL_sum_2 : decode cL_sum 2 = .ok (.iconst 0, 1) := by decide +kernel
theorem dL_sum_3 : decode cL_sum 3 = .ok (.aload_n 0, 1) := by decide +kernel
theorem dL_sum_4 : decode cL_sum 4 = .ok (.iload_n 1, 1) := by decide +kernel
theorem dL_sum_5 : decode cL_sum 5 = .ok (.iload_n 2, 1) := by decide +kernel
theorem dL_sum_6 : decode cL_sum 6 = .ok (.iload_n 3, 1) := by decide +kernel
theorem dL_sum_7 : decode cL_sum 7 = .ok (.invokevirtual 55, 3) := by decide +kernel
theorem dL_sum_10 : decode cL_sum 10 = .ok (.lastore, 1) := by decide +kernel
theorem dL_sum_11 : decode cL_sum 11 = .ok (.goto 7, 3) := by decide +kernel
theorem dL_sum_14 : decode cL_sum 14 = .ok (.astore 5, 2) := by decide +kernel
theorem dL_sum_16 : decode cL_sum 16 = .ok (.iconst 1, 1) := by decide +kernel
theorem dL_sum_17 : decode cL_sum 17 = .ok (.ireturn, 1) := by decide +kernel
theorem dL_sum_18 : decode cL_sum 18 = .ok (.iconst 0, 1) := by decide +kernel
theorem dL_sum_19 : decode cL_sum 19 = .ok (.ireturn, 1) := by decide +kernel
set_option maxRecDepth 100000 in
set_option maxHeartbeats 1000000 in
theorem c_L_sum {l : Launch} {D : va_G} {aC : Nat → ClassId} {b0 fu : Nat} {p0 : Nat} {p1 : Int32} {p2 : Int32} {p3 : Int32} {p4 : Nat} {σ τ : tM} {v : Int32} (hm : m_L_sum b0 fu p0 p1 p2 p3 p4 σ = some (v, τ)) : tMt l D aC b0 yL_sum (Cond.codeWith yL_sum cL_sum 6 (some .int) [(0, 11, 14, 13)]) 8 136 [.ref (p0), .int (p1), .int (p2), .int (p3), .ref (p4)] σ (.inl (some (.int v))) τ := by
  unfold m_L_sum at hm
  obtain ⟨hg, hm⟩ := grw_e hm
  refine tMt_ofH rfl (Nat.le_of_ble_eq_true rfl) hg ?_
  intro p e s m below meth c C htab hin
  refine zx_lv [0, 1, 2, 3, 4] [(0, .ref (p0)), (1, .int (p1)), (2, .int (p2)), (3, .int (p3)), (4, .ref (p4))] rfl ?_
  refine zx_aload C dL_sum_0 4 rfl ?_
  refine zx_iconst (v := 0) C dL_sum_2 (by decide) ?_
  refine zx_aload_n C dL_sum_3 0 rfl ?_
  refine zx_iload_n C dL_sum_4 1 rfl ?_
  refine zx_iload_n C dL_sum_5 2 rfl ?_
  refine zx_iload_n C dL_sum_6 3 rfl ?_
  obtain ⟨k1, i2, hm⟩ := ckO_e hm
  rcases cly_e hm with ⟨v3, ρ4, h5, hm⟩ | ⟨ρ11, h5, hm⟩
  · refine zx_callV (σ := σ) C [.int (p1), .int (p2), .int (p3)] tC_10 k1 i2 Y_X10_sum W_5_196 W_5_197 W_5_198 (c_X10_sum h5) (by decide) (by decide) rfl (Nat.le_of_ble_eq_true rfl) dL_sum_7 rfl ?_
    obtain ⟨n8, k6, i7, hm⟩ := ckR_e hm
    obtain ⟨h9, hm⟩ := ckI_e hm
    refine zx_last C k6 i7 h9 dL_sum_10 ?_
    refine zx_goto C 18 dL_sum_11 (by decide) ?_
    refine zx_iconst (v := 0) C dL_sum_18 (by decide) ?_
    obtain ⟨rfl, rfl⟩ := ret_e hm
    exact zx_iret C rfl rfl rfl dL_sum_19
  · refine zx_catchV (σ := σ) (x9 := { startPc := 0, endPc := 11, handlerPc := 14, catchType := 13 }) C (tableOf []) (tableOf []) htab (by decide) (by decide) (by decide) (E := "java/lang/IllegalStateException") W_3_103 W_3_118 [.int (p1), .int (p2), .int (p3)] tC_10 k1 i2 Y_X10_sum W_5_196 W_5_197 W_5_198 (c_X10_sum h5) (by decide) (by decide) rfl (Nat.le_of_ble_eq_true rfl) dL_sum_7 rfl (fun q10 => ?_)
    refine zx_astore C [(5, .ref (q10)), (0, .ref (p0)), (1, .int (p1)), (2, .int (p2)), (3, .int (p3)), (4, .ref (p4))] dL_sum_14 (by decide) rfl ?_
    refine zx_iconst (v := 1) C dL_sum_16 (by decide) ?_
    obtain ⟨rfl, rfl⟩ := ret_e hm
    exact zx_iret C rfl rfl rfl dL_sum_17
abbrev cL_blockOf : ByteArray := method_21_code
def yL_blockOf : MethodName := ⟨"SyncTreeLaw", "blockOf", "(LSyncTree;II[J)I"⟩
theorem Y_L_blockOf : tYH yL_blockOf cL_blockOf 5 (some .int) [(0, 10, 13, 13)] 4 := ⟨W_6_20, W_1_0, ⟨by decide +kernel, by decide +kernel⟩, by decide +kernel⟩
theorem dL_blockOf_0 : decode cL_blockOf 0 = .ok (.aload_n 3, 1) := by decide +kernel
theorem dL_blockOf_1 : decode cL_blockOf 1 = .ok (.iconst 0, 1) := by decide +kernel
theorem dL_blockOf_2 : decode cL_blockOf 2 = .ok (.aload_n 0, 1) := by decide +kernel
theorem dL_blockOf_3 : decode cL_blockOf 3 = .ok (.iload_n 1, 1) := by decide +kernel
theorem dL_blockOf_4 : decode cL_blockOf 4 = .ok (.iload_n 2, 1) := by decide +kernel
theorem dL_blockOf_5 : decode cL_blockOf 5 = .ok (.invokevirtual 72, 3) := by decide +kernel
theorem dL_blockOf_8 : decode cL_blockOf 8 = .ok (.i2l, 1) := by decide +kernel
theorem dL_blockOf_9 : decode cL_blockOf 9 = .ok (.lastore, 1) := by decide +kernel
theorem dL_blockOf_10 : decode cL_blockOf 10 = .ok (.goto 7, 3) := by decide +kernel
theorem dL_blockOf_13 : decode cL_blockOf 13 = .ok (.astore 4, 2) := by decide +kernel
theorem dL_blockOf_15 : decode cL_blockOf 15 = .ok (.iconst 1, 1) := by decide +kernel
theorem dL_blockOf_16 : decode cL_blockOf 16 = .ok (.ireturn, 1) := by decide +kernel
theorem dL_blockOf_17 : decode cL_blockOf 17 = .ok (.iconst 0, 1) := by decide +kernel
theorem dL_blockOf_18 : decode cL_blockOf 18 = .ok (.ireturn, 1) := by decide +kernel
set_option maxRecDepth 100000 in
set_option maxHeartbeats 1000000 in
theorem c_L_blockOf {l : Launch} {D : va_G} {aC : Nat → ClassId} {b0 fu : Nat} {p0 : Nat} {p1 : Int32} {p2 : Int32} {p3 : Nat} {σ τ : tM} {v : Int32} (hm : m_L_blockOf b0 fu p0 p1 p2 p3 σ = some (v, τ)) : tMt l D aC b0 yL_blockOf (Cond.codeWith yL_blockOf cL_blockOf 5 (some .int) [(0, 10, 13, 13)]) 8 134 [.ref (p0), .int (p1), .int (p2), .ref (p3)] σ (.inl (some (.int v))) τ := by
  unfold m_L_blockOf at hm
  obtain ⟨hg, hm⟩ := grw_e hm
  refine tMt_ofH rfl (Nat.le_of_ble_eq_true rfl) hg ?_
  intro p e s m below meth c C htab hin
  refine zx_lv [0, 1, 2, 3] [(0, .ref (p0)), (1, .int (p1)), (2, .int (p2)), (3, .ref (p3))] rfl ?_
  refine zx_aload_n C dL_blockOf_0 3 rfl ?_
  refine zx_iconst (v := 0) C dL_blockOf_1 (by decide) ?_
  refine zx_aload_n C dL_blockOf_2 0 rfl ?_
  refine zx_iload_n C dL_blockOf_3 1 rfl ?_
  refine zx_iload_n C dL_blockOf_4 2 rfl ?_
  obtain ⟨k1, i2, hm⟩ := ckO_e hm
  rcases cly_e hm with ⟨v3, ρ4, h5, hm⟩ | ⟨ρ11, h5, hm⟩
  · refine zx_callV (σ := σ) C [.int (p1), .int (p2)] tC_10 k1 i2 Y_X10_blockOf W_6_21 W_6_22 W_6_23 (c_X10_blockOf h5) (by decide) (by decide) rfl (Nat.le_of_ble_eq_true rfl) dL_blockOf_5 rfl ?_
    refine zx_i2l C dL_blockOf_8 ?_
    obtain ⟨n8, k6, i7, hm⟩ := ckR_e hm
    obtain ⟨h9, hm⟩ := ckI_e hm
    refine zx_last C k6 i7 h9 dL_blockOf_9 ?_
    refine zx_goto C 17 dL_blockOf_10 (by decide) ?_
    refine zx_iconst (v := 0) C dL_blockOf_17 (by decide) ?_
    obtain ⟨rfl, rfl⟩ := ret_e hm
    exact zx_iret C rfl rfl rfl dL_blockOf_18
  · refine zx_catchV (σ := σ) (x9 := { startPc := 0, endPc := 10, handlerPc := 13, catchType := 13 }) C (tableOf []) (tableOf []) htab (by decide) (by decide) (by decide) (E := "java/lang/IllegalStateException") W_3_103 W_3_118 [.int (p1), .int (p2)] tC_10 k1 i2 Y_X10_blockOf W_6_21 W_6_22 W_6_23 (c_X10_blockOf h5) (by decide) (by decide) rfl (Nat.le_of_ble_eq_true rfl) dL_blockOf_5 rfl (fun q10 => ?_)
    refine zx_astore C [(4, .ref (q10)), (0, .ref (p0)), (1, .int (p1)), (2, .int (p2)), (3, .ref (p3))] dL_blockOf_13 (by decide) rfl ?_
    refine zx_iconst (v := 1) C dL_blockOf_15 (by decide) ?_
    obtain ⟨rfl, rfl⟩ := ret_e hm
    exact zx_iret C rfl rfl rfl dL_blockOf_16
abbrev cL_crash : ByteArray := method_28_code
def yL_crash : MethodName := ⟨"SyncTreeLaw", "crash", "(LSyncTree;[J)I"⟩
theorem Y_L_crash : tYH yL_crash cL_crash 3 (some .int) [(0, 8, 11, 13)] 2 := ⟨W_6_104, W_1_0, ⟨by decide +kernel, by decide +kernel⟩, by decide +kernel⟩
theorem dL_crash_0 : decode cL_crash 0 = .ok (.aload_n 1, 1) := by decide +kernel
theorem dL_crash_1 : decode cL_crash 1 = .ok (.iconst 0, 1) := by decide +kernel
theorem dL_crash_2 : decode cL_crash 2 = .ok (.aload_n 0, 1) := by decide +kernel
theorem dL_crash_3 : decode cL_crash 3 = .ok (.invokevirtual 93, 3) := by decide +kernel
theorem dL_crash_6 : decode cL_crash 6 = .ok (.i2l, 1) := by decide +kernel
theorem dL_crash_7 : decode cL_crash 7 = .ok (.lastore, 1) := by decide +kernel
theorem dL_crash_8 : decode cL_crash 8 = .ok (.goto 6, 3) := by decide +kernel
theorem dL_crash_11 : decode cL_crash 11 = .ok (.astore_n 2, 1) := by decide +kernel
theorem dL_crash_12 : decode cL_crash 12 = .ok (.iconst 1, 1) := by decide +kernel
theorem dL_crash_13 : decode cL_crash 13 = .ok (.ireturn, 1) := by decide +kernel
theorem dL_crash_14 : decode cL_crash 14 = .ok (.iconst 0, 1) := by decide +kernel
theorem dL_crash_15 : decode cL_crash 15 = .ok (.ireturn, 1) := by decide +kernel
set_option maxRecDepth 100000 in
set_option maxHeartbeats 1000000 in
theorem c_L_crash {l : Launch} {D : va_G} {aC : Nat → ClassId} {b0 fu : Nat} {p0 : Nat} {p1 : Nat} {σ τ : tM} {v : Int32} (hm : m_L_crash b0 fu p0 p1 σ = some (v, τ)) : tMt l D aC b0 yL_crash (Cond.codeWith yL_crash cL_crash 3 (some .int) [(0, 8, 11, 13)]) 8 130 [.ref (p0), .ref (p1)] σ (.inl (some (.int v))) τ := by
  unfold m_L_crash at hm
  obtain ⟨hg, hm⟩ := grw_e hm
  refine tMt_ofH rfl (Nat.le_of_ble_eq_true rfl) hg ?_
  intro p e s m below meth c C htab hin
  refine zx_lv [0, 1] [(0, .ref (p0)), (1, .ref (p1))] rfl ?_
  refine zx_aload_n C dL_crash_0 1 rfl ?_
  refine zx_iconst (v := 0) C dL_crash_1 (by decide) ?_
  refine zx_aload_n C dL_crash_2 0 rfl ?_
  obtain ⟨k1, i2, hm⟩ := ckO_e hm
  rcases cly_e hm with ⟨v3, ρ4, h5, hm⟩ | ⟨ρ11, h5, hm⟩
  · refine zx_callV (σ := σ) C [] tC_10 k1 i2 Y_X10_crash W_6_105 W_6_106 W_6_107 (c_X10_crash h5) (by decide) (by decide) rfl (Nat.le_of_ble_eq_true rfl) dL_crash_3 rfl ?_
    refine zx_i2l C dL_crash_6 ?_
    obtain ⟨n8, k6, i7, hm⟩ := ckR_e hm
    obtain ⟨h9, hm⟩ := ckI_e hm
    refine zx_last C k6 i7 h9 dL_crash_7 ?_
    refine zx_goto C 14 dL_crash_8 (by decide) ?_
    refine zx_iconst (v := 0) C dL_crash_14 (by decide) ?_
    obtain ⟨rfl, rfl⟩ := ret_e hm
    exact zx_iret C rfl rfl rfl dL_crash_15
  · refine zx_catchV (σ := σ) (x9 := { startPc := 0, endPc := 8, handlerPc := 11, catchType := 13 }) C (tableOf []) (tableOf []) htab (by decide) (by decide) (by decide) (E := "java/lang/IllegalStateException") W_3_103 W_3_118 [] tC_10 k1 i2 Y_X10_crash W_6_105 W_6_106 W_6_107 (c_X10_crash h5) (by decide) (by decide) rfl (Nat.le_of_ble_eq_true rfl) dL_crash_3 rfl (fun q10 => ?_)
    refine zx_astore_n C [(2, .ref (q10)), (0, .ref (p0)), (1, .ref (p1))] dL_crash_11 rfl (by decide) rfl ?_
    refine zx_iconst (v := 1) C dL_crash_12 (by decide) ?_
    obtain ⟨rfl, rfl⟩ := ret_e hm
    exact zx_iret C rfl rfl rfl dL_crash_13
abbrev cX12_writeBack : ByteArray := prog_13_method_105_code
def yX12_writeBack : MethodName := ⟨"SyncTreeModel", "writeBack", "(I)I"⟩
theorem Y_X12_writeBack : tYH yX12_writeBack cX12_writeBack 3 (some .int) [(5, 24, 25, 425)] 1 := ⟨W_9_63, W_1_14, ⟨by decide +kernel, by decide +kernel⟩, by decide +kernel⟩
theorem dX12_writeBack_0 : decode cX12_writeBack 0 = .ok (.aload_n 0, 1) := by decide +kernel
theorem dX12_writeBack_1 : decode cX12_writeBack 1 = .ok (.iconst 0, 1) := by decide +kernel
theorem dX12_writeBack_2 : decode cX12_writeBack 2 = .ok (.putfield 3, 3) := by decide +kernel
theorem dX12_writeBack_5 : decode cX12_writeBack 5 = .ok (.aload_n 0, 1) := by decide +kernel
theorem dX12_writeBack_6 : decode cX12_writeBack 6 = .ok (.invokevirtual 403, 3) := by decide +kernel
theorem dX12_writeBack_9 : decode cX12_writeBack 9 = .ok (.iload_n 1, 1) := by decide +kernel
theorem dX12_writeBack_10 : decode cX12_writeBack 10 = .ok (.ifCond .ge 8, 3) := by decide +kernel
theorem dX12_writeBack_13 : decode cX12_writeBack 13 = .ok (.bipush (-9), 2) := by decide +kernel
theorem dX12_writeBack_15 : decode cX12_writeBack 15 = .ok (.goto 9, 3) := by decide +kernel
theorem dX12_writeBack_18 : decode cX12_writeBack 18 = .ok (.aload_n 0, 1) := by decide +kernel
theorem dX12_writeBack_19 : decode cX12_writeBack 19 = .ok (.iconst (-1), 1) := by decide +kernel
theorem dX12_writeBack_20 : decode cX12_writeBack 20 = .ok (.iload_n 1, 1) := by decide +kernel
theorem dX12_writeBack_21 : decode cX12_writeBack 21 = .ok (.invokevirtual 465, 3) := by decide +kernel
theorem dX12_writeBack_24 : decode cX12_writeBack 24 = .ok (.ireturn, 1) := by decide +kernel
theorem dX12_writeBack_25 : decode cX12_writeBack 25 = .ok (.astore_n 2, 1) := by decide +kernel
theorem dX12_writeBack_26 : decode cX12_writeBack 26 = .ok (.aload_n 0, 1) := by decide +kernel
theorem dX12_writeBack_27 : decode cX12_writeBack 27 = .ok (.invokevirtual 427, 3) := by decide +kernel
theorem dX12_writeBack_30 : decode cX12_writeBack 30 = .ok (.ireturn, 1) := by decide +kernel
set_option maxRecDepth 100000 in
set_option maxHeartbeats 1000000 in
theorem j_X12_writeBack_24 {p : Program} {l : Launch} {e : Env} {s : State} {m : MethodId} {args : Array Value} {below : List Frame} {meth : Method} {c : Code} {D : va_G} {aC : Nat → ClassId} {b0 fu : Nat} {σ0 τ : tM} {v : Int32}  (C : tCx p l s m args meth c yX12_writeBack.cls cX12_writeBack 3 (some .int) D aC b0 σ0) (htab : c.exceptionTable.toList = tableOf [(5, 24, 25, 425)]) (hin : meth.name = yX12_writeBack.name)  {s0 : Int32} {σ : tM} (hm : J_X12_writeBack_24 b0 fu  s0 σ = some (v, τ)) : tX p l e s m args below meth c 3 5 117 D aC b0 σ0 (.inl (some (.int v))) τ 24 [] [.int (s0)] σ := by
  unfold J_X12_writeBack_24 at hm
  obtain ⟨rfl, rfl⟩ := ret_e hm
  exact zx_iret C rfl rfl rfl dX12_writeBack_24
set_option maxRecDepth 100000 in
set_option maxHeartbeats 1000000 in
theorem c_X12_writeBack {l : Launch} {D : va_G} {aC : Nat → ClassId} {b0 fu : Nat} {a0 : Nat} {p0 : Int32} {σ τ : tM} {v : Int32} (hm : m_X12_writeBack b0 fu a0 p0 σ = some (v, τ)) : tMt l D aC b0 yX12_writeBack (Cond.codeWith yX12_writeBack cX12_writeBack 3 (some .int) [(5, 24, 25, 425)]) 5 117 [.ref (a0), .int (p0)] σ (.inl (some (.int v))) τ := by
  unfold m_X12_writeBack at hm
  obtain ⟨hg, hm⟩ := grw_e hm
  refine tMt_ofH rfl (Nat.le_of_ble_eq_true rfl) hg ?_
  intro p e s m below meth c C htab hin
  refine zx_lv [0, 1] [(0, .ref (a0)), (1, .int (p0))] rfl ?_
  refine zx_aload_n C dX12_writeBack_0 0 rfl ?_
  refine zx_iconst (v := 0) C dX12_writeBack_1 (by decide) ?_
  obtain ⟨k1, i2, hm⟩ := ckO_e hm
  refine zx_put (j := 0) (ρ := sI (σ) (a0) 0 (0)) C tC_11 k1 i2 ⟨by decide, Or.inl W_6_220⟩ rfl rfl rfl (sI_ok (fun _ => rfl)) dX12_writeBack_2 ?_
  refine zx_aload_n C dX12_writeBack_5 0 rfl ?_
  rcases cly_e hm with ⟨v3, ρ4, h5, hm⟩ | ⟨ρ20, h5, hm⟩
  · refine zx_callV (σ := sI (σ) (a0) 0 (0)) C [] tC_11 k1 i2 Y_X12_up W_7_179 W_7_181 Wp_57 (c_X12_up h5) (by decide) (by decide) rfl (Nat.le_of_ble_eq_true rfl) dX12_writeBack_6 rfl ?_
    refine zx_iload_n C dX12_writeBack_9 1 rfl ?_
    refine zx_if_ge C 18 dX12_writeBack_10 (by decide) (fun c6 => ?_) (fun c6 => ?_)
    · replace hm := ip_e hm c6
      refine zx_aload_n C dX12_writeBack_18 0 rfl ?_
      refine zx_iconst (v := (-1)) C dX12_writeBack_19 (by decide) ?_
      refine zx_iload_n C dX12_writeBack_20 1 rfl ?_
      obtain ⟨k7, i8, hm⟩ := ckO_e hm
      rcases cly_e hm with ⟨v9, ρ10, h11, hm⟩ | ⟨ρ13, h11, hm⟩
      · refine zx_callV (σ := ρ4) C [.int ((-1)), .int (p0)] tC_11 k7 i8 Y_X12_writeDirty W_9_44 W_9_46 Wp_120 (c_X12_writeDirty h11) (by decide) (by decide) rfl (Nat.le_of_ble_eq_true rfl) dX12_writeBack_21 rfl ?_
        exact zx_lv [] [] rfl (j_X12_writeBack_24 C htab hin    hm)
      · refine zx_catchV (σ := ρ4) (x9 := { startPc := 5, endPc := 24, handlerPc := 25, catchType := 425 }) C (tableOf []) (tableOf []) htab (by decide) (by decide) (by decide) (E := "SyncTreeModel$Off") W_7_174 W_9_132 [.int ((-1)), .int (p0)] tC_11 k7 i8 Y_X12_writeDirty W_9_44 W_9_46 Wp_120 (c_X12_writeDirty h11) (by decide) (by decide) rfl (Nat.le_of_ble_eq_true rfl) dX12_writeBack_21 rfl (fun q12 => ?_)
        refine zx_astore_n C [(2, .ref (q12)), (0, .ref (a0)), (1, .int (p0))] dX12_writeBack_25 rfl (by decide) rfl ?_
        refine zx_aload_n C dX12_writeBack_26 1 rfl ?_
        obtain ⟨k14, i15, hm⟩ := ckO_e hm
        obtain ⟨v16, ρ17, h18, hm⟩ := cll_e hm
        refine zx_callV (σ := ρ13) C [] tC_11 k14 i15 Y_X12_off W_8_135 W_8_137 Wp_103 (c_X12_off h18) (by decide) (by decide) rfl (Nat.le_of_ble_eq_true rfl) dX12_writeBack_27 rfl ?_
        obtain ⟨rfl, rfl⟩ := ret_e hm
        exact zx_iret C rfl rfl rfl dX12_writeBack_30
    · replace hm := in_e hm c6
      refine zx_bipush (v := (-9)) C dX12_writeBack_13 (by decide) ?_
      refine zx_goto C 24 dX12_writeBack_15 (by decide) ?_
      exact zx_lv [] [] rfl (j_X12_writeBack_24 C htab hin    hm)
  · refine zx_catchV (σ := sI (σ) (a0) 0 (0)) (x9 := { startPc := 5, endPc := 24, handlerPc := 25, catchType := 425 }) C (tableOf []) (tableOf []) htab (by decide) (by decide) (by decide) (E := "SyncTreeModel$Off") W_7_174 W_9_132 [] tC_11 k1 i2 Y_X12_up W_7_179 W_7_181 Wp_57 (c_X12_up h5) (by decide) (by decide) rfl (Nat.le_of_ble_eq_true rfl) dX12_writeBack_6 rfl (fun q19 => ?_)
    refine zx_astore_n C [(2, .ref (q19)), (0, .ref (a0)), (1, .int (p0))] dX12_writeBack_25 rfl (by decide) rfl ?_
    refine zx_aload_n C dX12_writeBack_26 1 rfl ?_
    obtain ⟨k21, i22, hm⟩ := ckO_e hm
    obtain ⟨v23, ρ24, h25, hm⟩ := cll_e hm
    refine zx_callV (σ := ρ20) C [] tC_11 k21 i22 Y_X12_off W_8_135 W_8_137 Wp_103 (c_X12_off h25) (by decide) (by decide) rfl (Nat.le_of_ble_eq_true rfl) dX12_writeBack_27 rfl ?_
    obtain ⟨rfl, rfl⟩ := ret_e hm
    exact zx_iret C rfl rfl rfl dX12_writeBack_30
abbrev cX12_apply : ByteArray := prog_13_method_106_code
def yX12_apply : MethodName := ⟨"SyncTreeModel", "apply", "(I)I"⟩
theorem Y_X12_apply : tYH yX12_apply cX12_apply 3 (some .int) [(5, 15, 46, 425), (16, 45, 46, 425)] 1 := ⟨W_9_67, W_1_14, ⟨by decide +kernel, by decide +kernel⟩, by decide +kernel⟩
theorem dX12_apply_0 : decode cX12_apply 0 = .ok (.aload_n 0, 1) := by decide +kernel
theorem dX12_apply_1 : decode cX12_apply 1 = .ok (.iconst 0, 1) := by decide +kernel
theorem dX12_apply_2 : decode cX12_apply 2 = .ok (.putfield 3, 3) := by decide +kernel
theorem dX12_apply_5 : decode cX12_apply 5 = .ok (.aload_n 0, 1) := by decide +kernel
theorem dX12_apply_6 : decode cX12_apply 6 = .ok (.invokevirtual 403, 3) := by decide +kernel
theorem dX12_apply_9 : decode cX12_apply 9 = .ok (.iload_n 1, 1) := by decide +kernel
theorem dX12_apply_10 : decode cX12_apply 10 = .ok (.ifCond .ge 6, 3) := by decide +kernel
theorem dX12_apply_13 : decode cX12_apply 13 = .ok (.bipush (-9), 2) := by decide +kernel
theorem dX12_apply_15 : decode cX12_apply 15 = .ok (.ireturn, 1) := by decide +kernel
theorem dX12_apply_16 : decode cX12_apply 16 = .ok (.iconst 0, 1) := by decide +kernel
theorem dX12_apply_17 : decode cX12_apply 17 = .ok (.istore_n 2, 1) := by decide +kernel
theorem dX12_apply_18 : decode cX12_apply 18 = .ok (.iload_n 2, 1) := by decide +kernel
theorem dX12_apply_19 : decode cX12_apply 19 = .ok (.iload_n 1, 1) := by decide +kernel
theorem dX12_apply_20 : decode cX12_apply 20 = .ok (.if_icmp .ge 24, 3) := by decide +kernel
theorem dX12_apply_23 : decode cX12_apply 23 = .ok (.aload_n 0, 1) := by decide +kernel
theorem dX12_apply_24 : decode cX12_apply 24 = .ok (.getfield 208, 3) := by decide +kernel
theorem dX12_apply_27 : decode cX12_apply 27 = .ok (.aload_n 0, 1) := by decide +kernel
theorem dX12_apply_28 : decode cX12_apply 28 = .ok (.getfield 199, 3) := by decide +kernel
theorem dX12_apply_31 : decode cX12_apply 31 = .ok (.if_icmp .ge 13, 3) := by decide +kernel
theorem dX12_apply_34 : decode cX12_apply 34 = .ok (.aload_n 0, 1) := by decide +kernel
theorem dX12_apply_35 : decode cX12_apply 35 = .ok (.invokevirtual 227, 3) := by decide +kernel
theorem dX12_apply_38 : decode cX12_apply 38 = .ok (.iinc 2 1, 3) := by decide +kernel
theorem dX12_apply_41 : decode cX12_apply 41 = .ok (.goto (-23), 3) := by decide +kernel
theorem dX12_apply_44 : decode cX12_apply 44 = .ok (.iload_n 2, 1) := by decide +kernel
theorem dX12_apply_45 : decode cX12_apply 45 = .ok (.ireturn, 1) := by decide +kernel
theorem dX12_apply_46 : decode cX12_apply 46 = .ok (.astore_n 2, 1) := by decide +kernel
theorem dX12_apply_47 : decode cX12_apply 47 = .ok (.aload_n 0, 1) := by decide +kernel
theorem dX12_apply_48 : decode cX12_apply 48 = .ok (.invokevirtual 427, 3) := by decide +kernel
theorem dX12_apply_51 : decode cX12_apply 51 = .ok (.ireturn, 1) := by decide +kernel
set_option maxRecDepth 100000 in
set_option maxHeartbeats 1000000 in
theorem j_X12_apply_44 {p : Program} {l : Launch} {e : Env} {s : State} {m : MethodId} {args : Array Value} {below : List Frame} {meth : Method} {c : Code} {D : va_G} {aC : Nat → ClassId} {b0 fu : Nat} {σ0 τ : tM} {v : Int32}  (C : tCx p l s m args meth c yX12_apply.cls cX12_apply 3 (some .int) D aC b0 σ0) (htab : c.exceptionTable.toList = tableOf [(5, 15, 46, 425), (16, 45, 46, 425)]) (hin : meth.name = yX12_apply.name)  {x2 : Int32} {σ : tM} (hm : J_X12_apply_44 b0 fu  x2 σ = some (v, τ)) : tX p l e s m args below meth c 3 5 118 D aC b0 σ0 (.inl (some (.int v))) τ 44 [(2, .int (x2))] [] σ := by
  unfold J_X12_apply_44 at hm
  refine zx_iload_n C dX12_apply_44 0 rfl ?_
  obtain ⟨rfl, rfl⟩ := ret_e hm
  exact zx_iret C rfl rfl rfl dX12_apply_45
set_option maxRecDepth 100000 in
set_option maxHeartbeats 1000000 in
theorem l_X12_apply_18 {p : Program} {l : Launch} {e : Env} {s : State} {m : MethodId} {args : Array Value} {below : List Frame} {meth : Method} {c : Code} {D : va_G} {aC : Nat → ClassId} {b0 fu : Nat} {σ0 τ : tM} {v : Int32}  (C : tCx p l s m args meth c yX12_apply.cls cX12_apply 3 (some .int) D aC b0 σ0) (htab : c.exceptionTable.toList = tableOf [(5, 15, 46, 425), (16, 45, 46, 425)]) (hin : meth.name = yX12_apply.name)  : ∀ (n : Nat) (x0 : Nat) (x1 : Int32) (x2 : Int32) (σ : tM), L_X12_apply_18 b0 fu  n x0 x1 x2 σ = some (v, τ) → tX p l e s m args below meth c 3 5 118 D aC b0 σ0 (.inl (some (.int v))) τ 18 [(0, .ref (x0)), (1, .int (x1)), (2, .int (x2))] [] σ := by
  intro n
  induction n with
  | zero => intro x0 x1 x2 σ hm; unfold L_X12_apply_18 at hm; cases hm
  | succ n ih =>
    intro x0 x1 x2 σ hm
    unfold L_X12_apply_18 at hm
    obtain ⟨rc18, hrc⟩ : ∃ z, z = L_X12_apply_18 b0 fu  n := ⟨_, rfl⟩
    replace hm := ltb_e hm hrc
    rw [← hrc] at ih
    have hrc18 := ih
    clear ih hrc
    refine zx_iload_n C dX12_apply_18 2 rfl ?_
    refine zx_iload_n C dX12_apply_19 1 rfl ?_
    refine zx_icmp_ge C 44 dX12_apply_20 (by decide) (fun c7 => ?_) (fun c7 => ?_)
    · replace hm := ip_e hm c7
      exact zx_lv [2] [(2, .int (x2))] rfl (j_X12_apply_44 C htab hin    hm)
    · replace hm := in_e hm c7
      refine zx_aload_n C dX12_apply_23 0 rfl ?_
      obtain ⟨k8, i9, hm⟩ := ckO_e hm
      refine zx_get (j := 30) C tC_11 k8 i9 ⟨by decide, Or.inl W_7_9⟩ dX12_apply_24 (.int (tI (σ) (x0) 30)) rfl ?_
      refine zx_aload_n C dX12_apply_27 0 rfl ?_
      refine zx_get (j := 29) C tC_11 k8 i9 ⟨by decide, Or.inl W_7_8⟩ dX12_apply_28 (.int (tI (σ) (x0) 29)) rfl ?_
      refine zx_icmp_ge C 44 dX12_apply_31 (by decide) (fun c10 => ?_) (fun c10 => ?_)
      · replace hm := ip_e hm c10
        exact zx_lv [2] [(2, .int (x2))] rfl (j_X12_apply_44 C htab hin    hm)
      · replace hm := in_e hm c10
        refine zx_aload_n C dX12_apply_34 0 rfl ?_
        rcases cly_e hm with ⟨v11, ρ12, h13, hm⟩ | ⟨ρ16, h13, hm⟩
        · refine zx_callV (σ := σ) C [] tC_11 k8 i9 Y_X12_applyOne W_8_1 W_8_3 Wp_71 (c_X12_applyOne h13) (by decide) (by decide) rfl (Nat.le_of_ble_eq_true rfl) dX12_apply_35 rfl ?_
          obtain ⟨y14, hy14⟩ : ∃ z : Int32, z = (x2) + Int32.ofInt 1 := ⟨_, rfl⟩
          replace hm := ltb_e hm hy14
          refine zx_iinc C [(2, .int (y14)), (0, .ref (x0)), (1, .int (x1))] dX12_apply_38 2 rfl hy14.symm (by decide) rfl ?_
          refine zx_goto C 18 dX12_apply_41 (by decide) ?_
          exact zx_lv [1, 2, 0] [(0, .ref (x0)), (1, .int (x1)), (2, .int (y14))] rfl (hrc18 _ _ _ _ hm)
        · refine zx_catchV (σ := σ) (x9 := { startPc := 16, endPc := 45, handlerPc := 46, catchType := 425 }) C (tableOf [(5, 15, 46, 425)]) (tableOf []) htab (by decide) (by decide) (by decide) (E := "SyncTreeModel$Off") W_7_174 W_9_132 [] tC_11 k8 i9 Y_X12_applyOne W_8_1 W_8_3 Wp_71 (c_X12_applyOne h13) (by decide) (by decide) rfl (Nat.le_of_ble_eq_true rfl) dX12_apply_35 rfl (fun q15 => ?_)
          refine zx_astore_n C [(2, .ref (q15)), (0, .ref (x0)), (1, .int (x1))] dX12_apply_46 rfl (by decide) rfl ?_
          refine zx_aload_n C dX12_apply_47 1 rfl ?_
          obtain ⟨k17, i18, hm⟩ := ckO_e hm
          obtain ⟨v19, ρ20, h21, hm⟩ := cll_e hm
          refine zx_callV (σ := ρ16) C [] tC_11 k17 i18 Y_X12_off W_8_135 W_8_137 Wp_103 (c_X12_off h21) (by decide) (by decide) rfl (Nat.le_of_ble_eq_true rfl) dX12_apply_48 rfl ?_
          obtain ⟨rfl, rfl⟩ := ret_e hm
          exact zx_iret C rfl rfl rfl dX12_apply_51
set_option maxRecDepth 100000 in
set_option maxHeartbeats 1000000 in
theorem c_X12_apply {l : Launch} {D : va_G} {aC : Nat → ClassId} {b0 fu : Nat} {a0 : Nat} {p0 : Int32} {σ τ : tM} {v : Int32} (hm : m_X12_apply b0 fu a0 p0 σ = some (v, τ)) : tMt l D aC b0 yX12_apply (Cond.codeWith yX12_apply cX12_apply 3 (some .int) [(5, 15, 46, 425), (16, 45, 46, 425)]) 5 118 [.ref (a0), .int (p0)] σ (.inl (some (.int v))) τ := by
  unfold m_X12_apply at hm
  obtain ⟨hg, hm⟩ := grw_e hm
  refine tMt_ofH rfl (Nat.le_of_ble_eq_true rfl) hg ?_
  intro p e s m below meth c C htab hin
  refine zx_lv [0, 1] [(0, .ref (a0)), (1, .int (p0))] rfl ?_
  refine zx_aload_n C dX12_apply_0 0 rfl ?_
  refine zx_iconst (v := 0) C dX12_apply_1 (by decide) ?_
  obtain ⟨k1, i2, hm⟩ := ckO_e hm
  refine zx_put (j := 0) (ρ := sI (σ) (a0) 0 (0)) C tC_11 k1 i2 ⟨by decide, Or.inl W_6_220⟩ rfl rfl rfl (sI_ok (fun _ => rfl)) dX12_apply_2 ?_
  refine zx_aload_n C dX12_apply_5 0 rfl ?_
  rcases cly_e hm with ⟨v3, ρ4, h5, hm⟩ | ⟨ρ23, h5, hm⟩
  · refine zx_callV (σ := sI (σ) (a0) 0 (0)) C [] tC_11 k1 i2 Y_X12_up W_7_179 W_7_181 Wp_57 (c_X12_up h5) (by decide) (by decide) rfl (Nat.le_of_ble_eq_true rfl) dX12_apply_6 rfl ?_
    refine zx_iload_n C dX12_apply_9 1 rfl ?_
    refine zx_if_ge C 16 dX12_apply_10 (by decide) (fun c6 => ?_) (fun c6 => ?_)
    · replace hm := ip_e hm c6
      refine zx_iconst (v := 0) C dX12_apply_16 (by decide) ?_
      refine zx_istore_n C [(2, .int (0)), (0, .ref (a0)), (1, .int (p0))] dX12_apply_17 rfl (by decide) rfl ?_
      exact zx_lv [1, 2, 0] [(0, .ref (a0)), (1, .int (p0)), (2, .int (0))] rfl (l_X12_apply_18 C htab hin  _ _ _ _ _ hm)
    · replace hm := in_e hm c6
      refine zx_bipush (v := (-9)) C dX12_apply_13 (by decide) ?_
      obtain ⟨rfl, rfl⟩ := ret_e hm
      exact zx_iret C rfl rfl rfl dX12_apply_15
  · refine zx_catchV (σ := sI (σ) (a0) 0 (0)) (x9 := { startPc := 5, endPc := 15, handlerPc := 46, catchType := 425 }) C (tableOf []) (tableOf [(16, 45, 46, 425)]) htab (by decide) (by decide) (by decide) (E := "SyncTreeModel$Off") W_7_174 W_9_132 [] tC_11 k1 i2 Y_X12_up W_7_179 W_7_181 Wp_57 (c_X12_up h5) (by decide) (by decide) rfl (Nat.le_of_ble_eq_true rfl) dX12_apply_6 rfl (fun q22 => ?_)
    refine zx_astore_n C [(2, .ref (q22)), (0, .ref (a0)), (1, .int (p0))] dX12_apply_46 rfl (by decide) rfl ?_
    refine zx_aload_n C dX12_apply_47 1 rfl ?_
    obtain ⟨k24, i25, hm⟩ := ckO_e hm
    obtain ⟨v26, ρ27, h28, hm⟩ := cll_e hm
    refine zx_callV (σ := ρ23) C [] tC_11 k24 i25 Y_X12_off W_8_135 W_8_137 Wp_103 (c_X12_off h28) (by decide) (by decide) rfl (Nat.le_of_ble_eq_true rfl) dX12_apply_48 rfl ?_
    obtain ⟨rfl, rfl⟩ := ret_e hm
    exact zx_iret C rfl rfl rfl dX12_apply_51
abbrev cX12_create : ByteArray := prog_13_method_74_code
def yX12_create : MethodName := ⟨"SyncTreeModel", "create", "()I"⟩
theorem Y_X12_create : tYH yX12_create cX12_create 2 (some .int) [(5, 14, 15, 425)] 0 := ⟨W_7_173, W_1_14, ⟨by decide +kernel, by decide +kernel⟩, by decide +kernel⟩
theorem dX12_create_0 : decode cX12_create 0 = .ok (.aload_n 0, 1) := by decide +kernel
theorem dX12_create_1 : decode cX12_create 1 = .ok (.iconst 0, 1) := by decide +kernel
theorem dX12_create_2 : decode cX12_create 2 = .ok (.putfield 3, 3) := by decide +kernel
theorem dX12_create_5 : decode cX12_create 5 = .ok (.aload_n 0, 1) := by decide +kernel
theorem dX12_create_6 : decode cX12_create 6 = .ok (.invokevirtual 419, 3) := by decide +kernel
theorem dX12_create_9 : decode cX12_create 9 = .ok (.aload_n 0, 1) := by decide +kernel
theorem dX12_create_10 : decode cX12_create 10 = .ok (.iconst 1, 1) := by decide +kernel
theorem dX12_create_11 : decode cX12_create 11 = .ok (.invokevirtual 422, 3) := by decide +kernel
theorem dX12_create_14 : decode cX12_create 14 = .ok (.ireturn, 1) := by decide +kernel
theorem dX12_create_15 : decode cX12_create 15 = .ok (.astore_n 1, 1) := by decide +kernel
theorem dX12_create_16 : decode cX12_create 16 = .ok (.aload_n 0, 1) := by decide +kernel
theorem dX12_create_17 : decode cX12_create 17 = .ok (.invokevirtual 427, 3) := by decide +kernel
theorem dX12_create_20 : decode cX12_create 20 = .ok (.ireturn, 1) := by decide +kernel
set_option maxRecDepth 100000 in
set_option maxHeartbeats 1000000 in
theorem c_X12_create {l : Launch} {D : va_G} {aC : Nat → ClassId} {b0 fu : Nat} {a0 : Nat} {σ τ : tM} {v : Int32} (hm : m_X12_create b0 fu a0 σ = some (v, τ)) : tMt l D aC b0 yX12_create (Cond.codeWith yX12_create cX12_create 2 (some .int) [(5, 14, 15, 425)]) 10 242 [.ref (a0)] σ (.inl (some (.int v))) τ := by
  unfold m_X12_create at hm
  obtain ⟨hg, hm⟩ := grw_e hm
  refine tMt_ofH rfl (Nat.le_of_ble_eq_true rfl) hg ?_
  intro p e s m below meth c C htab hin
  refine zx_lv [0] [(0, .ref (a0))] rfl ?_
  refine zx_aload_n C dX12_create_0 0 rfl ?_
  refine zx_iconst (v := 0) C dX12_create_1 (by decide) ?_
  obtain ⟨k1, i2, hm⟩ := ckO_e hm
  refine zx_put (j := 0) (ρ := sI (σ) (a0) 0 (0)) C tC_11 k1 i2 ⟨by decide, Or.inl W_6_220⟩ rfl rfl rfl (sI_ok (fun _ => rfl)) dX12_create_2 ?_
  refine zx_aload_n C dX12_create_5 0 rfl ?_
  rcases cly_e hm with ⟨v3, ρ4, h5, hm⟩ | ⟨ρ12, h5, hm⟩
  · refine zx_callV (σ := sI (σ) (a0) 0 (0)) C [] tC_11 k1 i2 Y_X12_upAhead W_7_175 W_7_177 Wp_56 (c_X12_upAhead h5) (by decide) (by decide) rfl (Nat.le_of_ble_eq_true rfl) dX12_create_6 rfl ?_
    refine zx_aload_n C dX12_create_9 0 rfl ?_
    refine zx_iconst (v := 1) C dX12_create_10 (by decide) ?_
    obtain ⟨k6, i7, hm⟩ := ckO_e hm
    obtain ⟨v8, ρ9, h10, hm⟩ := cll_e hm
    refine zx_callV (σ := ρ4) C [.int (1)] tC_11 k6 i7 Y_X12_make W_8_20 W_8_22 Wp_75 (c_X12_make h10) (by decide) (by decide) rfl (Nat.le_of_ble_eq_true rfl) dX12_create_11 rfl ?_
    obtain ⟨rfl, rfl⟩ := ret_e hm
    exact zx_iret C rfl rfl rfl dX12_create_14
  · refine zx_catchV (σ := sI (σ) (a0) 0 (0)) (x9 := { startPc := 5, endPc := 14, handlerPc := 15, catchType := 425 }) C (tableOf []) (tableOf []) htab (by decide) (by decide) (by decide) (E := "SyncTreeModel$Off") W_7_174 W_9_132 [] tC_11 k1 i2 Y_X12_upAhead W_7_175 W_7_177 Wp_56 (c_X12_upAhead h5) (by decide) (by decide) rfl (Nat.le_of_ble_eq_true rfl) dX12_create_6 rfl (fun q11 => ?_)
    refine zx_astore_n C [(1, .ref (q11)), (0, .ref (a0))] dX12_create_15 rfl (by decide) rfl ?_
    refine zx_aload_n C dX12_create_16 1 rfl ?_
    obtain ⟨k13, i14, hm⟩ := ckO_e hm
    obtain ⟨v15, ρ16, h17, hm⟩ := cll_e hm
    refine zx_callV (σ := ρ12) C [] tC_11 k13 i14 Y_X12_off W_8_135 W_8_137 Wp_103 (c_X12_off h17) (by decide) (by decide) rfl (Nat.le_of_ble_eq_true rfl) dX12_create_17 rfl ?_
    obtain ⟨rfl, rfl⟩ := ret_e hm
    exact zx_iret C rfl rfl rfl dX12_create_20
abbrev cX12_mkdir : ByteArray := prog_13_method_75_code
def yX12_mkdir : MethodName := ⟨"SyncTreeModel", "mkdir", "()I"⟩
theorem Y_X12_mkdir : tYH yX12_mkdir cX12_mkdir 2 (some .int) [(5, 14, 15, 425)] 0 := ⟨W_8_142, W_1_14, ⟨by decide +kernel, by decide +kernel⟩, by decide +kernel⟩
theorem dX12_mkdir_0 : decode cX12_mkdir 0 = .ok (.aload_n 0, 1) := by decide +kernel
theorem dX12_mkdir_1 : decode cX12_mkdir 1 = .ok (.iconst 0, 1) := by decide +kernel
theorem dX12_mkdir_2 : decode cX12_mkdir 2 = .ok (.putfield 3, 3) := by decide +kernel
theorem dX12_mkdir_5 : decode cX12_mkdir 5 = .ok (.aload_n 0, 1) := by decide +kernel
theorem dX12_mkdir_6 : decode cX12_mkdir 6 = .ok (.invokevirtual 419, 3) := by decide +kernel
theorem dX12_mkdir_9 : decode cX12_mkdir 9 = .ok (.aload_n 0, 1) := by decide +kernel
theorem dX12_mkdir_10 : decode cX12_mkdir 10 = .ok (.iconst 2, 1) := by decide +kernel
theorem dX12_mkdir_11 : decode cX12_mkdir 11 = .ok (.invokevirtual 422, 3) := by decide +kernel
theorem dX12_mkdir_14 : decode cX12_mkdir 14 = .ok (.ireturn, 1) := by decide +kernel
theorem dX12_mkdir_15 : decode cX12_mkdir 15 = .ok (.astore_n 1, 1) := by decide +kernel
theorem dX12_mkdir_16 : decode cX12_mkdir 16 = .ok (.aload_n 0, 1) := by decide +kernel
theorem dX12_mkdir_17 : decode cX12_mkdir 17 = .ok (.invokevirtual 427, 3) := by decide +kernel
theorem dX12_mkdir_20 : decode cX12_mkdir 20 = .ok (.ireturn, 1) := by decide +kernel
set_option maxRecDepth 100000 in
set_option maxHeartbeats 1000000 in
theorem c_X12_mkdir {l : Launch} {D : va_G} {aC : Nat → ClassId} {b0 fu : Nat} {a0 : Nat} {σ τ : tM} {v : Int32} (hm : m_X12_mkdir b0 fu a0 σ = some (v, τ)) : tMt l D aC b0 yX12_mkdir (Cond.codeWith yX12_mkdir cX12_mkdir 2 (some .int) [(5, 14, 15, 425)]) 10 242 [.ref (a0)] σ (.inl (some (.int v))) τ := by
  unfold m_X12_mkdir at hm
  obtain ⟨hg, hm⟩ := grw_e hm
  refine tMt_ofH rfl (Nat.le_of_ble_eq_true rfl) hg ?_
  intro p e s m below meth c C htab hin
  refine zx_lv [0] [(0, .ref (a0))] rfl ?_
  refine zx_aload_n C dX12_mkdir_0 0 rfl ?_
  refine zx_iconst (v := 0) C dX12_mkdir_1 (by decide) ?_
  obtain ⟨k1, i2, hm⟩ := ckO_e hm
  refine zx_put (j := 0) (ρ := sI (σ) (a0) 0 (0)) C tC_11 k1 i2 ⟨by decide, Or.inl W_6_220⟩ rfl rfl rfl (sI_ok (fun _ => rfl)) dX12_mkdir_2 ?_
  refine zx_aload_n C dX12_mkdir_5 0 rfl ?_
  rcases cly_e hm with ⟨v3, ρ4, h5, hm⟩ | ⟨ρ12, h5, hm⟩
  · refine zx_callV (σ := sI (σ) (a0) 0 (0)) C [] tC_11 k1 i2 Y_X12_upAhead W_7_175 W_7_177 Wp_56 (c_X12_upAhead h5) (by decide) (by decide) rfl (Nat.le_of_ble_eq_true rfl) dX12_mkdir_6 rfl ?_
    refine zx_aload_n C dX12_mkdir_9 0 rfl ?_
    refine zx_iconst (v := 2) C dX12_mkdir_10 (by decide) ?_
    obtain ⟨k6, i7, hm⟩ := ckO_e hm
    obtain ⟨v8, ρ9, h10, hm⟩ := cll_e hm
    refine zx_callV (σ := ρ4) C [.int (2)] tC_11 k6 i7 Y_X12_make W_8_20 W_8_22 Wp_75 (c_X12_make h10) (by decide) (by decide) rfl (Nat.le_of_ble_eq_true rfl) dX12_mkdir_11 rfl ?_
    obtain ⟨rfl, rfl⟩ := ret_e hm
    exact zx_iret C rfl rfl rfl dX12_mkdir_14
  · refine zx_catchV (σ := sI (σ) (a0) 0 (0)) (x9 := { startPc := 5, endPc := 14, handlerPc := 15, catchType := 425 }) C (tableOf []) (tableOf []) htab (by decide) (by decide) (by decide) (E := "SyncTreeModel$Off") W_7_174 W_9_132 [] tC_11 k1 i2 Y_X12_upAhead W_7_175 W_7_177 Wp_56 (c_X12_upAhead h5) (by decide) (by decide) rfl (Nat.le_of_ble_eq_true rfl) dX12_mkdir_6 rfl (fun q11 => ?_)
    refine zx_astore_n C [(1, .ref (q11)), (0, .ref (a0))] dX12_mkdir_15 rfl (by decide) rfl ?_
    refine zx_aload_n C dX12_mkdir_16 1 rfl ?_
    obtain ⟨k13, i14, hm⟩ := ckO_e hm
    obtain ⟨v15, ρ16, h17, hm⟩ := cll_e hm
    refine zx_callV (σ := ρ12) C [] tC_11 k13 i14 Y_X12_off W_8_135 W_8_137 Wp_103 (c_X12_off h17) (by decide) (by decide) rfl (Nat.le_of_ble_eq_true rfl) dX12_mkdir_17 rfl ?_
    obtain ⟨rfl, rfl⟩ := ret_e hm
    exact zx_iret C rfl rfl rfl dX12_mkdir_20
abbrev cX12_symlink : ByteArray := prog_13_method_76_code
def yX12_symlink : MethodName := ⟨"SyncTreeModel", "symlink", "()I"⟩
theorem Y_X12_symlink : tYH yX12_symlink cX12_symlink 3 (some .int) [(5, 32, 93, 425), (33, 44, 93, 425), (45, 92, 93, 425)] 0 := ⟨W_8_146, W_1_14, ⟨by decide +kernel, by decide +kernel⟩, by decide +kernel⟩
theorem dX12_symlink_0 : decode cX12_symlink 0 = .ok (.aload_n 0, 1) := by decide +kernel
theorem dX12_symlink_1 : decode cX12_symlink 1 = .ok (.iconst 0, 1) := by decide +kernel
theorem dX12_symlink_2 : decode cX12_symlink 2 = .ok (.putfield 3, 3) := by decide +kernel
theorem dX12_symlink_5 : decode cX12_symlink 5 = .ok (.aload_n 0, 1) := by decide +kernel
theorem dX12_symlink_6 : decode cX12_symlink 6 = .ok (.invokevirtual 419, 3) := by decide +kernel
theorem dX12_symlink_9 : decode cX12_symlink 9 = .ok (.aload_n 0, 1) := by decide +kernel
theorem dX12_symlink_10 : decode cX12_symlink 10 = .ok (.getfield 346, 3) := by decide +kernel
theorem dX12_symlink_13 : decode cX12_symlink 13 = .ok (.iconst 1, 1) := by decide +kernel
theorem dX12_symlink_14 : decode cX12_symlink 14 = .ok (.iaload, 1) := by decide +kernel
theorem dX12_symlink_15 : decode cX12_symlink 15 = .ok (.iconst 1, 1) := by decide +kernel
theorem dX12_symlink_16 : decode cX12_symlink 16 = .ok (.if_icmp .lt 14, 3) := by decide +kernel
theorem dX12_symlink_19 : decode cX12_symlink 19 = .ok (.aload_n 0, 1) := by decide +kernel
theorem dX12_symlink_20 : decode cX12_symlink 20 = .ok (.getfield 346, 3) := by decide +kernel
theorem dX12_symlink_23 : decode cX12_symlink 23 = .ok (.iconst 1, 1) := by decide +kernel
theorem dX12_symlink_24 : decode cX12_symlink 24 = .ok (.iaload, 1) := by decide +kernel
theorem dX12_symlink_25 : decode cX12_symlink 25 = .ok (.bipush 80, 2) := by decide +kernel
theorem dX12_symlink_27 : decode cX12_symlink 27 = .ok (.if_icmp .le 6, 3) := by decide +kernel
theorem dX12_symlink_30 : decode cX12_symlink 30 = .ok (.bipush (-9), 2) := by decide +kernel
theorem dX12_symlink_32 : decode cX12_symlink 32 = .ok (.ireturn, 1) := by decide +kernel
theorem dX12_symlink_33 : decode cX12_symlink 33 = .ok (.aload_n 0, 1) := by decide +kernel
theorem dX12_symlink_34 : decode cX12_symlink 34 = .ok (.iconst 3, 1) := by decide +kernel
theorem dX12_symlink_35 : decode cX12_symlink 35 = .ok (.invokevirtual 422, 3) := by decide +kernel
theorem dX12_symlink_38 : decode cX12_symlink 38 = .ok (.istore_n 1, 1) := by decide +kernel
theorem dX12_symlink_39 : decode cX12_symlink 39 = .ok (.iload_n 1, 1) := by decide +kernel
theorem dX12_symlink_40 : decode cX12_symlink 40 = .ok (.ifCond .ge 5, 3) := by decide +kernel
theorem dX12_symlink_43 : decode cX12_symlink 43 = .ok (.iload_n 1, 1) := by decide +kernel
theorem dX12_symlink_44 : decode cX12_symlink 44 = .ok (.ireturn, 1) := by decide +kernel
theorem dX12_symlink_45 : decode cX12_symlink 45 = .ok (.aload_n 0, 1) := by decide +kernel
theorem dX12_symlink_46 : decode cX12_symlink 46 = .ok (.iload_n 1, 1) := by decide +kernel
theorem dX12_symlink_47 : decode cX12_symlink 47 = .ok (.iconst 4, 1) := by decide +kernel
theorem dX12_symlink_48 : decode cX12_symlink 48 = .ok (.aload_n 0, 1) := by decide +kernel
theorem dX12_symlink_49 : decode cX12_symlink 49 = .ok (.getfield 346, 3) := by decide +kernel
theorem dX12_symlink_52 : decode cX12_symlink 52 = .ok (.iconst 1, 1) := by decide +kernel
theorem dX12_symlink_53 : decode cX12_symlink 53 = .ok (.iaload, 1) := by decide +kernel
theorem dX12_symlink_54 : decode cX12_symlink 54 = .ok (.invokevirtual 266, 3) := by decide +kernel
theorem dX12_symlink_57 : decode cX12_symlink 57 = .ok (.iconst 0, 1) := by decide +kernel
theorem dX12_symlink_58 : decode cX12_symlink 58 = .ok (.istore_n 2, 1) := by decide +kernel
theorem dX12_symlink_59 : decode cX12_symlink 59 = .ok (.iload_n 2, 1) := by decide +kernel
theorem dX12_symlink_60 : decode cX12_symlink 60 = .ok (.aload_n 0, 1) := by decide +kernel
theorem dX12_symlink_61 : decode cX12_symlink 61 = .ok (.getfield 346, 3) := by decide +kernel
theorem dX12_symlink_64 : decode cX12_symlink 64 = .ok (.iconst 1, 1) := by decide +kernel
theorem dX12_symlink_65 : decode cX12_symlink 65 = .ok (.iaload, 1) := by decide +kernel
theorem dX12_symlink_66 : decode cX12_symlink 66 = .ok (.if_icmp .ge 25, 3) := by decide +kernel
theorem dX12_symlink_69 : decode cX12_symlink 69 = .ok (.aload_n 0, 1) := by decide +kernel
theorem dX12_symlink_70 : decode cX12_symlink 70 = .ok (.iload_n 1, 1) := by decide +kernel
theorem dX12_symlink_71 : decode cX12_symlink 71 = .ok (.iconst 5, 1) := by decide +kernel
theorem dX12_symlink_72 : decode cX12_symlink 72 = .ok (.iload_n 2, 1) := by decide +kernel
theorem dX12_symlink_73 : decode cX12_symlink 73 = .ok (.iadd, 1) := by decide +kernel
theorem dX12_symlink_74 : decode cX12_symlink 74 = .ok (.aload_n 0, 1) := by decide +kernel
theorem dX12_symlink_75 : decode cX12_symlink 75 = .ok (.getfield 323, 3) := by decide +kernel
theorem dX12_symlink_78 : decode cX12_symlink 78 = .ok (.iconst 1, 1) := by decide +kernel
theorem dX12_symlink_79 : decode cX12_symlink 79 = .ok (.aaload, 1) := by decide +kernel
theorem dX12_symlink_80 : decode cX12_symlink 80 = .ok (.iload_n 2, 1) := by decide +kernel
theorem dX12_symlink_81 : decode cX12_symlink 81 = .ok (.baload, 1) := by decide +kernel
theorem dX12_symlink_82 : decode cX12_symlink 82 = .ok (.invokevirtual 266, 3) := by decide +kernel
theorem dX12_symlink_85 : decode cX12_symlink 85 = .ok (.iinc 2 1, 3) := by decide +kernel
theorem dX12_symlink_88 : decode cX12_symlink 88 = .ok (.goto (-29), 3) := by decide +kernel
theorem dX12_symlink_91 : decode cX12_symlink 91 = .ok (.iload_n 1, 1) := by decide +kernel
theorem dX12_symlink_92 : decode cX12_symlink 92 = .ok (.ireturn, 1) := by decide +kernel
theorem dX12_symlink_93 : decode cX12_symlink 93 = .ok (.astore_n 1, 1) := by decide +kernel
theorem dX12_symlink_94 : decode cX12_symlink 94 = .ok (.aload_n 0, 1) := by decide +kernel
theorem dX12_symlink_95 : decode cX12_symlink 95 = .ok (.invokevirtual 427, 3) := by decide +kernel
theorem dX12_symlink_98 : decode cX12_symlink 98 = .ok (.ireturn, 1) := by decide +kernel
set_option maxRecDepth 100000 in
set_option maxHeartbeats 1000000 in
theorem j_X12_symlink_30 {p : Program} {l : Launch} {e : Env} {s : State} {m : MethodId} {args : Array Value} {below : List Frame} {meth : Method} {c : Code} {D : va_G} {aC : Nat → ClassId} {b0 fu : Nat} {σ0 τ : tM} {v : Int32}  (C : tCx p l s m args meth c yX12_symlink.cls cX12_symlink 3 (some .int) D aC b0 σ0) (htab : c.exceptionTable.toList = tableOf [(5, 32, 93, 425), (33, 44, 93, 425), (45, 92, 93, 425)]) (hin : meth.name = yX12_symlink.name)   {σ : tM} (hm : J_X12_symlink_30 b0 fu   σ = some (v, τ)) : tX p l e s m args below meth c 3 10 242 D aC b0 σ0 (.inl (some (.int v))) τ 30 [] [] σ := by
  unfold J_X12_symlink_30 at hm
  refine zx_bipush (v := (-9)) C dX12_symlink_30 (by decide) ?_
  obtain ⟨rfl, rfl⟩ := ret_e hm
  exact zx_iret C rfl rfl rfl dX12_symlink_32
set_option maxRecDepth 100000 in
set_option maxHeartbeats 1000000 in
theorem l_X12_symlink_59 {p : Program} {l : Launch} {e : Env} {s : State} {m : MethodId} {args : Array Value} {below : List Frame} {meth : Method} {c : Code} {D : va_G} {aC : Nat → ClassId} {b0 fu : Nat} {σ0 τ : tM} {v : Int32}  (C : tCx p l s m args meth c yX12_symlink.cls cX12_symlink 3 (some .int) D aC b0 σ0) (htab : c.exceptionTable.toList = tableOf [(5, 32, 93, 425), (33, 44, 93, 425), (45, 92, 93, 425)]) (hin : meth.name = yX12_symlink.name)  : ∀ (n : Nat) (x0 : Nat) (x1 : Int32) (x2 : Int32) (σ : tM), L_X12_symlink_59 b0 fu  n x0 x1 x2 σ = some (v, τ) → tX p l e s m args below meth c 3 10 242 D aC b0 σ0 (.inl (some (.int v))) τ 59 [(0, .ref (x0)), (1, .int (x1)), (2, .int (x2))] [] σ := by
  intro n
  induction n with
  | zero => intro x0 x1 x2 σ hm; unfold L_X12_symlink_59 at hm; cases hm
  | succ n ih =>
    intro x0 x1 x2 σ hm
    unfold L_X12_symlink_59 at hm
    obtain ⟨rc59, hrc⟩ : ∃ z, z = L_X12_symlink_59 b0 fu  n := ⟨_, rfl⟩
    replace hm := ltb_e hm hrc
    rw [← hrc] at ih
    have hrc59 := ih
    clear ih hrc
    refine zx_iload_n C dX12_symlink_59 2 rfl ?_
    refine zx_aload_n C dX12_symlink_60 0 rfl ?_
    obtain ⟨k37, i38, hm⟩ := ckO_e hm
    obtain ⟨a39, h40, hm⟩ := osm_e hm
    refine zx_get (j := 48) C tC_11 k37 i38 ⟨by decide, Or.inl W_7_27⟩ dX12_symlink_61 (.ref a39) (rf_s h40) ?_
    refine zx_iconst (v := 1) C dX12_symlink_64 (by decide) ?_
    obtain ⟨n43, k41, i42, hm⟩ := ckR_e hm
    obtain ⟨h44, hm⟩ := ckI_e hm
    refine zx_iald C k41 i42 h44 dX12_symlink_65 ?_
    refine zx_icmp_ge C 91 dX12_symlink_66 (by decide) (fun c45 => ?_) (fun c45 => ?_)
    · replace hm := ip_e hm c45
      refine zx_iload_n C dX12_symlink_91 1 rfl ?_
      obtain ⟨rfl, rfl⟩ := ret_e hm
      exact zx_iret C rfl rfl rfl dX12_symlink_92
    · replace hm := in_e hm c45
      refine zx_aload_n C dX12_symlink_69 0 rfl ?_
      refine zx_iload_n C dX12_symlink_70 1 rfl ?_
      refine zx_iconst (v := 5) C dX12_symlink_71 (by decide) ?_
      refine zx_iload_n C dX12_symlink_72 2 rfl ?_
      refine zx_iadd C dX12_symlink_73 ?_
      refine zx_aload_n C dX12_symlink_74 0 rfl ?_
      obtain ⟨a46, h47, hm⟩ := osm_e hm
      refine zx_get (j := 47) C tC_11 k37 i38 ⟨by decide, Or.inl W_7_26⟩ dX12_symlink_75 (.ref a46) (rf_s h47) ?_
      refine zx_iconst (v := 1) C dX12_symlink_78 (by decide) ?_
      obtain ⟨n50, k48, i49, hm⟩ := ckR_e hm
      obtain ⟨h51, hm⟩ := ckI_e hm
      obtain ⟨a52, h53, hm⟩ := osm_e hm
      refine zx_aald5 C k48 i49 h51 dX12_symlink_79 (.ref a52) (rf_s h53) ?_
      refine zx_iload_n C dX12_symlink_80 2 rfl ?_
      obtain ⟨n56, k54, i55, hm⟩ := ckR_e hm
      obtain ⟨h57, hm⟩ := ckI_e hm
      refine zx_bald C k54 i55 h57 dX12_symlink_81 ?_
      obtain ⟨v58, ρ59, h60, hm⟩ := cll_e hm
      refine zx_callV (σ := σ) C [.int (x1), .int ((5) + (x2)), .int (tI (σ) (a52) ((x2).toNatClampNeg))] tC_11 k37 i38 Y_X12_putNode W_8_99 W_8_101 Wp_94 (c_X12_putNode h60) (by decide) (by decide) rfl (Nat.le_of_ble_eq_true rfl) dX12_symlink_82 rfl ?_
      obtain ⟨y61, hy61⟩ : ∃ z : Int32, z = (x2) + Int32.ofInt 1 := ⟨_, rfl⟩
      replace hm := ltb_e hm hy61
      refine zx_iinc C [(2, .int (y61)), (0, .ref (x0)), (1, .int (x1))] dX12_symlink_85 2 rfl hy61.symm (by decide) rfl ?_
      refine zx_goto C 59 dX12_symlink_88 (by decide) ?_
      exact zx_lv [1, 2, 0] [(0, .ref (x0)), (1, .int (x1)), (2, .int (y61))] rfl (hrc59 _ _ _ _ hm)
set_option maxRecDepth 100000 in
set_option maxHeartbeats 1000000 in
theorem c_X12_symlink {l : Launch} {D : va_G} {aC : Nat → ClassId} {b0 fu : Nat} {a0 : Nat} {σ τ : tM} {v : Int32} (hm : m_X12_symlink b0 fu a0 σ = some (v, τ)) : tMt l D aC b0 yX12_symlink (Cond.codeWith yX12_symlink cX12_symlink 3 (some .int) [(5, 32, 93, 425), (33, 44, 93, 425), (45, 92, 93, 425)]) 10 242 [.ref (a0)] σ (.inl (some (.int v))) τ := by
  unfold m_X12_symlink at hm
  obtain ⟨hg, hm⟩ := grw_e hm
  refine tMt_ofH rfl (Nat.le_of_ble_eq_true rfl) hg ?_
  intro p e s m below meth c C htab hin
  refine zx_lv [0] [(0, .ref (a0))] rfl ?_
  refine zx_aload_n C dX12_symlink_0 0 rfl ?_
  refine zx_iconst (v := 0) C dX12_symlink_1 (by decide) ?_
  obtain ⟨k1, i2, hm⟩ := ckO_e hm
  refine zx_put (j := 0) (ρ := sI (σ) (a0) 0 (0)) C tC_11 k1 i2 ⟨by decide, Or.inl W_6_220⟩ rfl rfl rfl (sI_ok (fun _ => rfl)) dX12_symlink_2 ?_
  refine zx_aload_n C dX12_symlink_5 0 rfl ?_
  rcases cly_e hm with ⟨v3, ρ4, h5, hm⟩ | ⟨ρ63, h5, hm⟩
  · refine zx_callV (σ := sI (σ) (a0) 0 (0)) C [] tC_11 k1 i2 Y_X12_upAhead W_7_175 W_7_177 Wp_56 (c_X12_upAhead h5) (by decide) (by decide) rfl (Nat.le_of_ble_eq_true rfl) dX12_symlink_6 rfl ?_
    refine zx_aload_n C dX12_symlink_9 0 rfl ?_
    obtain ⟨k6, i7, hm⟩ := ckO_e hm
    obtain ⟨a8, h9, hm⟩ := osm_e hm
    refine zx_get (j := 48) C tC_11 k6 i7 ⟨by decide, Or.inl W_7_27⟩ dX12_symlink_10 (.ref a8) (rf_s h9) ?_
    refine zx_iconst (v := 1) C dX12_symlink_13 (by decide) ?_
    obtain ⟨n12, k10, i11, hm⟩ := ckR_e hm
    obtain ⟨h13, hm⟩ := ckI_e hm
    refine zx_iald C k10 i11 h13 dX12_symlink_14 ?_
    refine zx_iconst (v := 1) C dX12_symlink_15 (by decide) ?_
    refine zx_icmp_lt C 30 dX12_symlink_16 (by decide) (fun c14 => ?_) (fun c14 => ?_)
    · replace hm := ip_e hm c14
      exact zx_lv [] [] rfl (j_X12_symlink_30 C htab hin    hm)
    · replace hm := in_e hm c14
      refine zx_aload_n C dX12_symlink_19 0 rfl ?_
      obtain ⟨a15, h16, hm⟩ := osm_e hm
      refine zx_get (j := 48) C tC_11 k6 i7 ⟨by decide, Or.inl W_7_27⟩ dX12_symlink_20 (.ref a15) (rf_s h16) ?_
      refine zx_iconst (v := 1) C dX12_symlink_23 (by decide) ?_
      obtain ⟨n19, k17, i18, hm⟩ := ckR_e hm
      obtain ⟨h20, hm⟩ := ckI_e hm
      refine zx_iald C k17 i18 h20 dX12_symlink_24 ?_
      refine zx_bipush (v := 80) C dX12_symlink_25 (by decide) ?_
      refine zx_icmp_le C 33 dX12_symlink_27 (by decide) (fun c21 => ?_) (fun c21 => ?_)
      · replace hm := ip_e hm c21
        refine zx_aload_n C dX12_symlink_33 0 rfl ?_
        refine zx_iconst (v := 3) C dX12_symlink_34 (by decide) ?_
        obtain ⟨v22, ρ23, h24, hm⟩ := cll_e hm
        refine zx_callV (σ := ρ4) C [.int (3)] tC_11 k6 i7 Y_X12_make W_8_20 W_8_22 Wp_75 (c_X12_make h24) (by decide) (by decide) rfl (Nat.le_of_ble_eq_true rfl) dX12_symlink_35 rfl ?_
        refine zx_istore_n C [(1, .int (v22)), (0, .ref (a0))] dX12_symlink_38 rfl (by decide) rfl ?_
        refine zx_iload_n C dX12_symlink_39 0 rfl ?_
        refine zx_if_ge C 45 dX12_symlink_40 (by decide) (fun c25 => ?_) (fun c25 => ?_)
        · replace hm := ip_e hm c25
          refine zx_aload_n C dX12_symlink_45 1 rfl ?_
          refine zx_iload_n C dX12_symlink_46 0 rfl ?_
          refine zx_iconst (v := 4) C dX12_symlink_47 (by decide) ?_
          refine zx_aload_n C dX12_symlink_48 1 rfl ?_
          obtain ⟨k26, i27, hm⟩ := ckO_e hm
          obtain ⟨a28, h29, hm⟩ := osm_e hm
          refine zx_get (j := 48) C tC_11 k26 i27 ⟨by decide, Or.inl W_7_27⟩ dX12_symlink_49 (.ref a28) (rf_s h29) ?_
          refine zx_iconst (v := 1) C dX12_symlink_52 (by decide) ?_
          obtain ⟨n32, k30, i31, hm⟩ := ckR_e hm
          obtain ⟨h33, hm⟩ := ckI_e hm
          refine zx_iald C k30 i31 h33 dX12_symlink_53 ?_
          obtain ⟨v34, ρ35, h36, hm⟩ := cll_e hm
          refine zx_callV (σ := ρ23) C [.int (v22), .int (4), .int (tI (ρ23) (a28) (((1 : Int32)).toNatClampNeg))] tC_11 k26 i27 Y_X12_putNode W_8_99 W_8_101 Wp_94 (c_X12_putNode h36) (by decide) (by decide) rfl (Nat.le_of_ble_eq_true rfl) dX12_symlink_54 rfl ?_
          refine zx_iconst (v := 0) C dX12_symlink_57 (by decide) ?_
          refine zx_istore_n C [(2, .int (0)), (1, .int (v22)), (0, .ref (a0))] dX12_symlink_58 rfl (by decide) rfl ?_
          exact zx_lv [2, 1, 0] [(0, .ref (a0)), (1, .int (v22)), (2, .int (0))] rfl (l_X12_symlink_59 C htab hin  _ _ _ _ _ hm)
        · replace hm := in_e hm c25
          refine zx_iload_n C dX12_symlink_43 0 rfl ?_
          obtain ⟨rfl, rfl⟩ := ret_e hm
          exact zx_iret C rfl rfl rfl dX12_symlink_44
      · replace hm := in_e hm c21
        exact zx_lv [] [] rfl (j_X12_symlink_30 C htab hin    hm)
  · refine zx_catchV (σ := sI (σ) (a0) 0 (0)) (x9 := { startPc := 5, endPc := 32, handlerPc := 93, catchType := 425 }) C (tableOf []) (tableOf [(33, 44, 93, 425), (45, 92, 93, 425)]) htab (by decide) (by decide) (by decide) (E := "SyncTreeModel$Off") W_7_174 W_9_132 [] tC_11 k1 i2 Y_X12_upAhead W_7_175 W_7_177 Wp_56 (c_X12_upAhead h5) (by decide) (by decide) rfl (Nat.le_of_ble_eq_true rfl) dX12_symlink_6 rfl (fun q62 => ?_)
    refine zx_astore_n C [(1, .ref (q62)), (0, .ref (a0))] dX12_symlink_93 rfl (by decide) rfl ?_
    refine zx_aload_n C dX12_symlink_94 1 rfl ?_
    obtain ⟨k64, i65, hm⟩ := ckO_e hm
    obtain ⟨v66, ρ67, h68, hm⟩ := cll_e hm
    refine zx_callV (σ := ρ63) C [] tC_11 k64 i65 Y_X12_off W_8_135 W_8_137 Wp_103 (c_X12_off h68) (by decide) (by decide) rfl (Nat.le_of_ble_eq_true rfl) dX12_symlink_95 rfl ?_
    obtain ⟨rfl, rfl⟩ := ret_e hm
    exact zx_iret C rfl rfl rfl dX12_symlink_98
abbrev cX12_link : ByteArray := prog_13_method_77_code
def yX12_link : MethodName := ⟨"SyncTreeModel", "link", "()I"⟩
theorem Y_X12_link : tYH yX12_link cX12_link 3 (some .int) [(5, 21, 140, 425), (22, 34, 140, 425), (35, 46, 140, 425), (47, 66, 140, 425), (67, 78, 140, 425), (79, 93, 140, 425), (94, 104, 140, 425), (105, 139, 140, 425)] 0 := ⟨W_8_150, W_1_14, ⟨by decide +kernel, by decide +kernel⟩, by decide +kernel⟩
theorem dX12_link_0 : decode cX12_link 0 = .ok (.aload_n 0, 1) := by decide +kernel
theorem dX12_link_1 : decode cX12_link 1 = .ok (.iconst 0, 1) := by decide +kernel
theorem dX12_link_2 : decode cX12_link 2 = .ok (.putfield 3, 3) := by decide +kernel
theorem dX12_link_5 : decode cX12_link 5 = .ok (.aload_n 0, 1) := by decide +kernel
theorem dX12_link_6 : decode cX12_link 6 = .ok (.invokevirtual 419, 3) := by decide +kernel
theorem dX12_link_9 : decode cX12_link 9 = .ok (.aload_n 0, 1) := by decide +kernel
theorem dX12_link_10 : decode cX12_link 10 = .ok (.iconst 1, 1) := by decide +kernel
theorem dX12_link_11 : decode cX12_link 11 = .ok (.iconst 0, 1) := by decide +kernel
theorem dX12_link_12 : decode cX12_link 12 = .ok (.invokevirtual 430, 3) := by decide +kernel
theorem dX12_link_15 : decode cX12_link 15 = .ok (.istore_n 1, 1) := by decide +kernel
theorem dX12_link_16 : decode cX12_link 16 = .ok (.iload_n 1, 1) := by decide +kernel
theorem dX12_link_17 : decode cX12_link 17 = .ok (.ifCond .ge 5, 3) := by decide +kernel
theorem dX12_link_20 : decode cX12_link 20 = .ok (.iload_n 1, 1) := by decide +kernel
theorem dX12_link_21 : decode cX12_link 21 = .ok (.ireturn, 1) := by decide +kernel
theorem dX12_link_22 : decode cX12_link 22 = .ok (.aload_n 0, 1) := by decide +kernel
theorem dX12_link_23 : decode cX12_link 23 = .ok (.iload_n 1, 1) := by decide +kernel
theorem dX12_link_24 : decode cX12_link 24 = .ok (.iconst 0, 1) := by decide +kernel
theorem dX12_link_25 : decode cX12_link 25 = .ok (.invokevirtual 247, 3) := by decide +kernel
theorem dX12_link_28 : decode cX12_link 28 = .ok (.iconst 2, 1) := by decide +kernel
theorem dX12_link_29 : decode cX12_link 29 = .ok (.if_icmp .ne 6, 3) := by decide +kernel
theorem dX12_link_32 : decode cX12_link 32 = .ok (.bipush (-4), 2) := by decide +kernel
theorem dX12_link_34 : decode cX12_link 34 = .ok (.ireturn, 1) := by decide +kernel
theorem dX12_link_35 : decode cX12_link 35 = .ok (.aload_n 0, 1) := by decide +kernel
theorem dX12_link_36 : decode cX12_link 36 = .ok (.iconst 0, 1) := by decide +kernel
theorem dX12_link_37 : decode cX12_link 37 = .ok (.invokevirtual 409, 3) := by decide +kernel
theorem dX12_link_40 : decode cX12_link 40 = .ok (.istore_n 2, 1) := by decide +kernel
theorem dX12_link_41 : decode cX12_link 41 = .ok (.iload_n 2, 1) := by decide +kernel
theorem dX12_link_42 : decode cX12_link 42 = .ok (.ifCond .ge 5, 3) := by decide +kernel
theorem dX12_link_45 : decode cX12_link 45 = .ok (.iload_n 2, 1) := by decide +kernel
theorem dX12_link_46 : decode cX12_link 46 = .ok (.ireturn, 1) := by decide +kernel
theorem dX12_link_47 : decode cX12_link 47 = .ok (.aload_n 0, 1) := by decide +kernel
theorem dX12_link_48 : decode cX12_link 48 = .ok (.iload_n 2, 1) := by decide +kernel
theorem dX12_link_49 : decode cX12_link 49 = .ok (.aload_n 0, 1) := by decide +kernel
theorem dX12_link_50 : decode cX12_link 50 = .ok (.getfield 358, 3) := by decide +kernel
theorem dX12_link_53 : decode cX12_link 53 = .ok (.iconst 0, 1) := by decide +kernel
theorem dX12_link_54 : decode cX12_link 54 = .ok (.aload_n 0, 1) := by decide +kernel
theorem dX12_link_55 : decode cX12_link 55 = .ok (.getfield 355, 3) := by decide +kernel
theorem dX12_link_58 : decode cX12_link 58 = .ok (.invokevirtual 339, 3) := by decide +kernel
theorem dX12_link_61 : decode cX12_link 61 = .ok (.ifCond .lt 6, 3) := by decide +kernel
theorem dX12_link_64 : decode cX12_link 64 = .ok (.bipush (-2), 2) := by decide +kernel
theorem dX12_link_66 : decode cX12_link 66 = .ok (.ireturn, 1) := by decide +kernel
theorem dX12_link_67 : decode cX12_link 67 = .ok (.aload_n 0, 1) := by decide +kernel
theorem dX12_link_68 : decode cX12_link 68 = .ok (.getfield 355, 3) := by decide +kernel
theorem dX12_link_71 : decode cX12_link 71 = .ok (.bipush 28, 2) := by decide +kernel
theorem dX12_link_73 : decode cX12_link 73 = .ok (.if_icmp .le 6, 3) := by decide +kernel
theorem dX12_link_76 : decode cX12_link 76 = .ok (.bipush (-7), 2) := by decide +kernel
theorem dX12_link_78 : decode cX12_link 78 = .ok (.ireturn, 1) := by decide +kernel
theorem dX12_link_79 : decode cX12_link 79 = .ok (.aload_n 0, 1) := by decide +kernel
theorem dX12_link_80 : decode cX12_link 80 = .ok (.iload_n 1, 1) := by decide +kernel
theorem dX12_link_81 : decode cX12_link 81 = .ok (.iconst 2, 1) := by decide +kernel
theorem dX12_link_82 : decode cX12_link 82 = .ok (.invokevirtual 247, 3) := by decide +kernel
theorem dX12_link_85 : decode cX12_link 85 = .ok (.sipush 200, 3) := by decide +kernel
theorem dX12_link_88 : decode cX12_link 88 = .ok (.if_icmp .ne 6, 3) := by decide +kernel
theorem dX12_link_91 : decode cX12_link 91 = .ok (.bipush (-10), 2) := by decide +kernel
theorem dX12_link_93 : decode cX12_link 93 = .ok (.ireturn, 1) := by decide +kernel
theorem dX12_link_94 : decode cX12_link 94 = .ok (.aload_n 0, 1) := by decide +kernel
theorem dX12_link_95 : decode cX12_link 95 = .ok (.iload_n 2, 1) := by decide +kernel
theorem dX12_link_96 : decode cX12_link 96 = .ok (.invokevirtual 412, 3) := by decide +kernel
theorem dX12_link_99 : decode cX12_link 99 = .ok (.ifCond .eq 6, 3) := by decide +kernel
theorem dX12_link_102 : decode cX12_link 102 = .ok (.bipush (-6), 2) := by decide +kernel
theorem dX12_link_104 : decode cX12_link 104 = .ok (.ireturn, 1) := by decide +kernel
theorem dX12_link_105 : decode cX12_link 105 = .ok (.aload_n 0, 1) := by decide +kernel
theorem dX12_link_106 : decode cX12_link 106 = .ok (.iload_n 2, 1) := by decide +kernel
theorem dX12_link_107 : decode cX12_link 107 = .ok (.aload_n 0, 1) := by decide +kernel
theorem dX12_link_108 : decode cX12_link 108 = .ok (.getfield 358, 3) := by decide +kernel
theorem dX12_link_111 : decode cX12_link 111 = .ok (.aload_n 0, 1) := by decide +kernel
theorem dX12_link_112 : decode cX12_link 112 = .ok (.getfield 355, 3) := by decide +kernel
theorem dX12_link_115 : decode cX12_link 115 = .ok (.iload_n 1, 1) := by decide +kernel
theorem dX12_link_116 : decode cX12_link 116 = .ok (.invokevirtual 415, 3) := by decide +kernel
theorem dX12_link_119 : decode cX12_link 119 = .ok (.aload_n 0, 1) := by decide +kernel
theorem dX12_link_120 : decode cX12_link 120 = .ok (.iload_n 1, 1) := by decide +kernel
theorem dX12_link_121 : decode cX12_link 121 = .ok (.iconst 2, 1) := by decide +kernel
theorem dX12_link_122 : decode cX12_link 122 = .ok (.aload_n 0, 1) := by decide +kernel
theorem dX12_link_123 : decode cX12_link 123 = .ok (.iload_n 1, 1) := by decide +kernel
theorem dX12_link_124 : decode cX12_link 124 = .ok (.iconst 2, 1) := by decide +kernel
theorem dX12_link_125 : decode cX12_link 125 = .ok (.invokevirtual 247, 3) := by decide +kernel
theorem dX12_link_128 : decode cX12_link 128 = .ok (.iconst 1, 1) := by decide +kernel
theorem dX12_link_129 : decode cX12_link 129 = .ok (.iadd, 1) := by decide +kernel
theorem dX12_link_130 : decode cX12_link 130 = .ok (.invokevirtual 266, 3) := by decide +kernel
theorem dX12_link_133 : decode cX12_link 133 = .ok (.aload_n 0, 1) := by decide +kernel
theorem dX12_link_134 : decode cX12_link 134 = .ok (.iload_n 1, 1) := by decide +kernel
theorem dX12_link_135 : decode cX12_link 135 = .ok (.iconst 2, 1) := by decide +kernel
theorem dX12_link_136 : decode cX12_link 136 = .ok (.invokevirtual 247, 3) := by decide +kernel
theorem dX12_link_139 : decode cX12_link 139 = .ok (.ireturn, 1) := by decide +kernel
theorem dX12_link_140 : decode cX12_link 140 = .ok (.astore_n 1, 1) := by decide +kernel
theorem dX12_link_141 : decode cX12_link 141 = .ok (.aload_n 0, 1) := by decide +kernel
theorem dX12_link_142 : decode cX12_link 142 = .ok (.invokevirtual 427, 3) := by decide +kernel
theorem dX12_link_145 : decode cX12_link 145 = .ok (.ireturn, 1) := by decide +kernel
set_option maxRecDepth 100000 in
set_option maxHeartbeats 1000000 in
theorem c_X12_link {l : Launch} {D : va_G} {aC : Nat → ClassId} {b0 fu : Nat} {a0 : Nat} {σ τ : tM} {v : Int32} (hm : m_X12_link b0 fu a0 σ = some (v, τ)) : tMt l D aC b0 yX12_link (Cond.codeWith yX12_link cX12_link 3 (some .int) [(5, 21, 140, 425), (22, 34, 140, 425), (35, 46, 140, 425), (47, 66, 140, 425), (67, 78, 140, 425), (79, 93, 140, 425), (94, 104, 140, 425), (105, 139, 140, 425)]) 9 219 [.ref (a0)] σ (.inl (some (.int v))) τ := by
  unfold m_X12_link at hm
  obtain ⟨hg, hm⟩ := grw_e hm
  refine tMt_ofH rfl (Nat.le_of_ble_eq_true rfl) hg ?_
  intro p e s m below meth c C htab hin
  refine zx_lv [0] [(0, .ref (a0))] rfl ?_
  refine zx_aload_n C dX12_link_0 0 rfl ?_
  refine zx_iconst (v := 0) C dX12_link_1 (by decide) ?_
  obtain ⟨k1, i2, hm⟩ := ckO_e hm
  refine zx_put (j := 0) (ρ := sI (σ) (a0) 0 (0)) C tC_11 k1 i2 ⟨by decide, Or.inl W_6_220⟩ rfl rfl rfl (sI_ok (fun _ => rfl)) dX12_link_2 ?_
  refine zx_aload_n C dX12_link_5 0 rfl ?_
  rcases cly_e hm with ⟨v3, ρ4, h5, hm⟩ | ⟨ρ68, h5, hm⟩
  · refine zx_callV (σ := sI (σ) (a0) 0 (0)) C [] tC_11 k1 i2 Y_X12_upAhead W_7_175 W_7_177 Wp_56 (c_X12_upAhead h5) (by decide) (by decide) rfl (Nat.le_of_ble_eq_true rfl) dX12_link_6 rfl ?_
    refine zx_aload_n C dX12_link_9 0 rfl ?_
    refine zx_iconst (v := 1) C dX12_link_10 (by decide) ?_
    refine zx_iconst (v := 0) C dX12_link_11 (by decide) ?_
    obtain ⟨k6, i7, hm⟩ := ckO_e hm
    obtain ⟨v8, ρ9, h10, hm⟩ := cll_e hm
    refine zx_callV (σ := ρ4) C [.int (1), .int (0)] tC_11 k6 i7 Y_X12_walkTo W_8_151 W_8_153 Wp_104 (c_X12_walkTo h10) (by decide) (by decide) rfl (Nat.le_of_ble_eq_true rfl) dX12_link_12 rfl ?_
    refine zx_istore_n C [(1, .int (v8)), (0, .ref (a0))] dX12_link_15 rfl (by decide) rfl ?_
    refine zx_iload_n C dX12_link_16 0 rfl ?_
    refine zx_if_ge C 22 dX12_link_17 (by decide) (fun c11 => ?_) (fun c11 => ?_)
    · replace hm := ip_e hm c11
      refine zx_aload_n C dX12_link_22 1 rfl ?_
      refine zx_iload_n C dX12_link_23 0 rfl ?_
      refine zx_iconst (v := 0) C dX12_link_24 (by decide) ?_
      obtain ⟨k12, i13, hm⟩ := ckO_e hm
      obtain ⟨v14, ρ15, h16, hm⟩ := cll_e hm
      refine zx_callV (σ := ρ9) C [.int (v8), .int (0)] tC_11 k12 i13 Y_X12_node W_8_40 W_8_42 Wp_80 (c_X12_node h16) (by decide) (by decide) rfl (Nat.le_of_ble_eq_true rfl) dX12_link_25 rfl ?_
      refine zx_iconst (v := 2) C dX12_link_28 (by decide) ?_
      refine zx_icmp_ne C 35 dX12_link_29 (by decide) (fun c17 => ?_) (fun c17 => ?_)
      · replace hm := in_e hm c17
        refine zx_aload_n C dX12_link_35 1 rfl ?_
        refine zx_iconst (v := 0) C dX12_link_36 (by decide) ?_
        obtain ⟨k18, i19, hm⟩ := ckO_e hm
        obtain ⟨v20, ρ21, h22, hm⟩ := cll_e hm
        refine zx_callV (σ := ρ15) C [.int (0)] tC_11 k18 i19 Y_X12_walkAhead W_8_24 W_8_26 Wp_76 (c_X12_walkAhead h22) (by decide) (by decide) rfl (Nat.le_of_ble_eq_true rfl) dX12_link_37 rfl ?_
        refine zx_istore_n C [(2, .int (v20)), (1, .int (v8)), (0, .ref (a0))] dX12_link_40 rfl (by decide) rfl ?_
        refine zx_iload_n C dX12_link_41 0 rfl ?_
        refine zx_if_ge C 47 dX12_link_42 (by decide) (fun c23 => ?_) (fun c23 => ?_)
        · replace hm := ip_e hm c23
          refine zx_aload_n C dX12_link_47 2 rfl ?_
          refine zx_iload_n C dX12_link_48 0 rfl ?_
          refine zx_aload_n C dX12_link_49 2 rfl ?_
          obtain ⟨k24, i25, hm⟩ := ckO_e hm
          obtain ⟨a26, h27, hm⟩ := osm_e hm
          refine zx_get (j := 52) C tC_11 k24 i25 ⟨by decide, Or.inl W_7_31⟩ dX12_link_50 (.ref a26) (rf_s h27) ?_
          refine zx_iconst (v := 0) C dX12_link_53 (by decide) ?_
          refine zx_aload_n C dX12_link_54 2 rfl ?_
          refine zx_get (j := 53) C tC_11 k24 i25 ⟨by decide, Or.inl W_7_32⟩ dX12_link_55 (.int (tI (ρ21) (a0) 53)) rfl ?_
          obtain ⟨v28, ρ29, h30, hm⟩ := cll_e hm
          refine zx_callV (σ := ρ21) C [.int (v20), .ref (a26), .int (0), .int (tI (ρ21) (a0) 53)] tC_11 k24 i25 Y_X12_find W_8_44 W_8_46 Wp_81 (c_X12_find h30) (by decide) (by decide) rfl (Nat.le_of_ble_eq_true rfl) dX12_link_58 rfl ?_
          refine zx_if_lt C 67 dX12_link_61 (by decide) (fun c31 => ?_) (fun c31 => ?_)
          · replace hm := ip_e hm c31
            refine zx_aload_n C dX12_link_67 2 rfl ?_
            obtain ⟨k32, i33, hm⟩ := ckO_e hm
            refine zx_get (j := 53) C tC_11 k32 i33 ⟨by decide, Or.inl W_7_32⟩ dX12_link_68 (.int (tI (ρ29) (a0) 53)) rfl ?_
            refine zx_bipush (v := 28) C dX12_link_71 (by decide) ?_
            refine zx_icmp_le C 79 dX12_link_73 (by decide) (fun c34 => ?_) (fun c34 => ?_)
            · replace hm := ip_e hm c34
              refine zx_aload_n C dX12_link_79 2 rfl ?_
              refine zx_iload_n C dX12_link_80 1 rfl ?_
              refine zx_iconst (v := 2) C dX12_link_81 (by decide) ?_
              obtain ⟨v35, ρ36, h37, hm⟩ := cll_e hm
              refine zx_callV (σ := ρ29) C [.int (v8), .int (2)] tC_11 k32 i33 Y_X12_node W_8_40 W_8_42 Wp_80 (c_X12_node h37) (by decide) (by decide) rfl (Nat.le_of_ble_eq_true rfl) dX12_link_82 rfl ?_
              refine zx_sipush (v := 200) C dX12_link_85 (by decide) ?_
              refine zx_icmp_ne C 94 dX12_link_88 (by decide) (fun c38 => ?_) (fun c38 => ?_)
              · replace hm := in_e hm c38
                refine zx_aload_n C dX12_link_94 2 rfl ?_
                refine zx_iload_n C dX12_link_95 0 rfl ?_
                obtain ⟨k39, i40, hm⟩ := ckO_e hm
                obtain ⟨v41, ρ42, h43, hm⟩ := cll_e hm
                refine zx_callV (σ := ρ36) C [.int (v20)] tC_11 k39 i40 Y_X12_lacks W_8_79 W_8_81 Wp_89 (c_X12_lacks h43) (by decide) (by decide) rfl (Nat.le_of_ble_eq_true rfl) dX12_link_96 rfl ?_
                refine zx_if_eq C 105 dX12_link_99 (by decide) (fun c44 => ?_) (fun c44 => ?_)
                · replace hm := ip_e hm c44
                  refine zx_aload_n C dX12_link_105 2 rfl ?_
                  refine zx_iload_n C dX12_link_106 0 rfl ?_
                  refine zx_aload_n C dX12_link_107 2 rfl ?_
                  obtain ⟨k45, i46, hm⟩ := ckO_e hm
                  obtain ⟨a47, h48, hm⟩ := osm_e hm
                  refine zx_get (j := 52) C tC_11 k45 i46 ⟨by decide, Or.inl W_7_31⟩ dX12_link_108 (.ref a47) (rf_s h48) ?_
                  refine zx_aload_n C dX12_link_111 2 rfl ?_
                  refine zx_get (j := 53) C tC_11 k45 i46 ⟨by decide, Or.inl W_7_32⟩ dX12_link_112 (.int (tI (ρ42) (a0) 53)) rfl ?_
                  refine zx_iload_n C dX12_link_115 1 rfl ?_
                  obtain ⟨v49, ρ50, h51, hm⟩ := cll_e hm
                  refine zx_callV (σ := ρ42) C [.int (v20), .ref (a47), .int (tI (ρ42) (a0) 53), .int (v8)] tC_11 k45 i46 Y_X12_addEntry W_8_111 W_8_113 Wp_97 (c_X12_addEntry h51) (by decide) (by decide) rfl (Nat.le_of_ble_eq_true rfl) dX12_link_116 rfl ?_
                  refine zx_aload_n C dX12_link_119 2 rfl ?_
                  refine zx_iload_n C dX12_link_120 1 rfl ?_
                  refine zx_iconst (v := 2) C dX12_link_121 (by decide) ?_
                  refine zx_aload_n C dX12_link_122 2 rfl ?_
                  refine zx_iload_n C dX12_link_123 1 rfl ?_
                  refine zx_iconst (v := 2) C dX12_link_124 (by decide) ?_
                  obtain ⟨k52, i53, hm⟩ := ckO_e hm
                  obtain ⟨v54, ρ55, h56, hm⟩ := cll_e hm
                  refine zx_callV (σ := ρ50) C [.int (v8), .int (2)] tC_11 k52 i53 Y_X12_node W_8_40 W_8_42 Wp_80 (c_X12_node h56) (by decide) (by decide) rfl (Nat.le_of_ble_eq_true rfl) dX12_link_125 rfl ?_
                  refine zx_iconst (v := 1) C dX12_link_128 (by decide) ?_
                  refine zx_iadd C dX12_link_129 ?_
                  obtain ⟨k57, i58, hm⟩ := ckO_e hm
                  obtain ⟨v59, ρ60, h61, hm⟩ := cll_e hm
                  refine zx_callV (σ := ρ55) C [.int (v8), .int (2), .int ((v54) + (1))] tC_11 k57 i58 Y_X12_putNode W_8_99 W_8_101 Wp_94 (c_X12_putNode h61) (by decide) (by decide) rfl (Nat.le_of_ble_eq_true rfl) dX12_link_130 rfl ?_
                  refine zx_aload_n C dX12_link_133 2 rfl ?_
                  refine zx_iload_n C dX12_link_134 1 rfl ?_
                  refine zx_iconst (v := 2) C dX12_link_135 (by decide) ?_
                  obtain ⟨k62, i63, hm⟩ := ckO_e hm
                  obtain ⟨v64, ρ65, h66, hm⟩ := cll_e hm
                  refine zx_callV (σ := ρ60) C [.int (v8), .int (2)] tC_11 k62 i63 Y_X12_node W_8_40 W_8_42 Wp_80 (c_X12_node h66) (by decide) (by decide) rfl (Nat.le_of_ble_eq_true rfl) dX12_link_136 rfl ?_
                  obtain ⟨rfl, rfl⟩ := ret_e hm
                  exact zx_iret C rfl rfl rfl dX12_link_139
                · replace hm := in_e hm c44
                  refine zx_bipush (v := (-6)) C dX12_link_102 (by decide) ?_
                  obtain ⟨rfl, rfl⟩ := ret_e hm
                  exact zx_iret C rfl rfl rfl dX12_link_104
              · replace hm := ip_e hm c38
                refine zx_bipush (v := (-10)) C dX12_link_91 (by decide) ?_
                obtain ⟨rfl, rfl⟩ := ret_e hm
                exact zx_iret C rfl rfl rfl dX12_link_93
            · replace hm := in_e hm c34
              refine zx_bipush (v := (-7)) C dX12_link_76 (by decide) ?_
              obtain ⟨rfl, rfl⟩ := ret_e hm
              exact zx_iret C rfl rfl rfl dX12_link_78
          · replace hm := in_e hm c31
            refine zx_bipush (v := (-2)) C dX12_link_64 (by decide) ?_
            obtain ⟨rfl, rfl⟩ := ret_e hm
            exact zx_iret C rfl rfl rfl dX12_link_66
        · replace hm := in_e hm c23
          refine zx_iload_n C dX12_link_45 0 rfl ?_
          obtain ⟨rfl, rfl⟩ := ret_e hm
          exact zx_iret C rfl rfl rfl dX12_link_46
      · replace hm := ip_e hm c17
        refine zx_bipush (v := (-4)) C dX12_link_32 (by decide) ?_
        obtain ⟨rfl, rfl⟩ := ret_e hm
        exact zx_iret C rfl rfl rfl dX12_link_34
    · replace hm := in_e hm c11
      refine zx_iload_n C dX12_link_20 0 rfl ?_
      obtain ⟨rfl, rfl⟩ := ret_e hm
      exact zx_iret C rfl rfl rfl dX12_link_21
  · refine zx_catchV (σ := sI (σ) (a0) 0 (0)) (x9 := { startPc := 5, endPc := 21, handlerPc := 140, catchType := 425 }) C (tableOf []) (tableOf [(22, 34, 140, 425), (35, 46, 140, 425), (47, 66, 140, 425), (67, 78, 140, 425), (79, 93, 140, 425), (94, 104, 140, 425), (105, 139, 140, 425)]) htab (by decide) (by decide) (by decide) (E := "SyncTreeModel$Off") W_7_174 W_9_132 [] tC_11 k1 i2 Y_X12_upAhead W_7_175 W_7_177 Wp_56 (c_X12_upAhead h5) (by decide) (by decide) rfl (Nat.le_of_ble_eq_true rfl) dX12_link_6 rfl (fun q67 => ?_)
    refine zx_astore_n C [(1, .ref (q67)), (0, .ref (a0))] dX12_link_140 rfl (by decide) rfl ?_
    refine zx_aload_n C dX12_link_141 1 rfl ?_
    obtain ⟨k69, i70, hm⟩ := ckO_e hm
    obtain ⟨v71, ρ72, h73, hm⟩ := cll_e hm
    refine zx_callV (σ := ρ68) C [] tC_11 k69 i70 Y_X12_off W_8_135 W_8_137 Wp_103 (c_X12_off h73) (by decide) (by decide) rfl (Nat.le_of_ble_eq_true rfl) dX12_link_142 rfl ?_
    obtain ⟨rfl, rfl⟩ := ret_e hm
    exact zx_iret C rfl rfl rfl dX12_link_145
abbrev cX12_unlink : ByteArray := prog_13_method_79_code
def yX12_unlink : MethodName := ⟨"SyncTreeModel", "unlink", "()I"⟩
theorem Y_X12_unlink : tYH yX12_unlink cX12_unlink 4 (some .int) [(5, 20, 86, 425), (21, 32, 86, 425), (33, 53, 86, 425), (54, 73, 86, 425), (74, 85, 86, 425)] 0 := ⟨W_8_158, W_1_14, ⟨by decide +kernel, by decide +kernel⟩, by decide +kernel⟩
theorem dX12_unlink_0 : decode cX12_unlink 0 = .ok (.aload_n 0, 1) := by decide +kernel
theorem dX12_unlink_1 : decode cX12_unlink 1 = .ok (.iconst 0, 1) := by decide +kernel
theorem dX12_unlink_2 : decode cX12_unlink 2 = .ok (.putfield 3, 3) := by decide +kernel
theorem dX12_unlink_5 : decode cX12_unlink 5 = .ok (.aload_n 0, 1) := by decide +kernel
theorem dX12_unlink_6 : decode cX12_unlink 6 = .ok (.invokevirtual 419, 3) := by decide +kernel
theorem dX12_unlink_9 : decode cX12_unlink 9 = .ok (.aload_n 0, 1) := by decide +kernel
theorem dX12_unlink_10 : decode cX12_unlink 10 = .ok (.iconst 0, 1) := by decide +kernel
theorem dX12_unlink_11 : decode cX12_unlink 11 = .ok (.invokevirtual 409, 3) := by decide +kernel
theorem dX12_unlink_14 : decode cX12_unlink 14 = .ok (.istore_n 1, 1) := by decide +kernel
theorem dX12_unlink_15 : decode cX12_unlink 15 = .ok (.iload_n 1, 1) := by decide +kernel
theorem dX12_unlink_16 : decode cX12_unlink 16 = .ok (.ifCond .ge 5, 3) := by decide +kernel
theorem dX12_unlink_19 : decode cX12_unlink 19 = .ok (.iload_n 1, 1) := by decide +kernel
theorem dX12_unlink_20 : decode cX12_unlink 20 = .ok (.ireturn, 1) := by decide +kernel
theorem dX12_unlink_21 : decode cX12_unlink 21 = .ok (.aload_n 0, 1) := by decide +kernel
theorem dX12_unlink_22 : decode cX12_unlink 22 = .ok (.getfield 355, 3) := by decide +kernel
theorem dX12_unlink_25 : decode cX12_unlink 25 = .ok (.bipush 28, 2) := by decide +kernel
theorem dX12_unlink_27 : decode cX12_unlink 27 = .ok (.if_icmp .le 6, 3) := by decide +kernel
theorem dX12_unlink_30 : decode cX12_unlink 30 = .ok (.bipush (-7), 2) := by decide +kernel
theorem dX12_unlink_32 : decode cX12_unlink 32 = .ok (.ireturn, 1) := by decide +kernel
theorem dX12_unlink_33 : decode cX12_unlink 33 = .ok (.aload_n 0, 1) := by decide +kernel
theorem dX12_unlink_34 : decode cX12_unlink 34 = .ok (.iload_n 1, 1) := by decide +kernel
theorem dX12_unlink_35 : decode cX12_unlink 35 = .ok (.aload_n 0, 1) := by decide +kernel
theorem dX12_unlink_36 : decode cX12_unlink 36 = .ok (.getfield 358, 3) := by decide +kernel
theorem dX12_unlink_39 : decode cX12_unlink 39 = .ok (.iconst 0, 1) := by decide +kernel
theorem dX12_unlink_40 : decode cX12_unlink 40 = .ok (.aload_n 0, 1) := by decide +kernel
theorem dX12_unlink_41 : decode cX12_unlink 41 = .ok (.getfield 355, 3) := by decide +kernel
theorem dX12_unlink_44 : decode cX12_unlink 44 = .ok (.invokevirtual 339, 3) := by decide +kernel
theorem dX12_unlink_47 : decode cX12_unlink 47 = .ok (.istore_n 2, 1) := by decide +kernel
theorem dX12_unlink_48 : decode cX12_unlink 48 = .ok (.iload_n 2, 1) := by decide +kernel
theorem dX12_unlink_49 : decode cX12_unlink 49 = .ok (.ifCond .ge 5, 3) := by decide +kernel
theorem dX12_unlink_52 : decode cX12_unlink 52 = .ok (.iconst (-1), 1) := by decide +kernel
theorem dX12_unlink_53 : decode cX12_unlink 53 = .ok (.ireturn, 1) := by decide +kernel
theorem dX12_unlink_54 : decode cX12_unlink 54 = .ok (.aload_n 0, 1) := by decide +kernel
theorem dX12_unlink_55 : decode cX12_unlink 55 = .ok (.iload_n 1, 1) := by decide +kernel
theorem dX12_unlink_56 : decode cX12_unlink 56 = .ok (.iload_n 2, 1) := by decide +kernel
theorem dX12_unlink_57 : decode cX12_unlink 57 = .ok (.invokevirtual 302, 3) := by decide +kernel
theorem dX12_unlink_60 : decode cX12_unlink 60 = .ok (.istore_n 3, 1) := by decide +kernel
theorem dX12_unlink_61 : decode cX12_unlink 61 = .ok (.aload_n 0, 1) := by decide +kernel
theorem dX12_unlink_62 : decode cX12_unlink 62 = .ok (.iload_n 3, 1) := by decide +kernel
theorem dX12_unlink_63 : decode cX12_unlink 63 = .ok (.iconst 0, 1) := by decide +kernel
theorem dX12_unlink_64 : decode cX12_unlink 64 = .ok (.invokevirtual 247, 3) := by decide +kernel
theorem dX12_unlink_67 : decode cX12_unlink 67 = .ok (.iconst 2, 1) := by decide +kernel
theorem dX12_unlink_68 : decode cX12_unlink 68 = .ok (.if_icmp .ne 6, 3) := by decide +kernel
theorem dX12_unlink_71 : decode cX12_unlink 71 = .ok (.bipush (-4), 2) := by decide +kernel
theorem dX12_unlink_73 : decode cX12_unlink 73 = .ok (.ireturn, 1) := by decide +kernel
theorem dX12_unlink_74 : decode cX12_unlink 74 = .ok (.aload_n 0, 1) := by decide +kernel
theorem dX12_unlink_75 : decode cX12_unlink 75 = .ok (.iload_n 1, 1) := by decide +kernel
theorem dX12_unlink_76 : decode cX12_unlink 76 = .ok (.iload_n 2, 1) := by decide +kernel
theorem dX12_unlink_77 : decode cX12_unlink 77 = .ok (.invokevirtual 434, 3) := by decide +kernel
theorem dX12_unlink_80 : decode cX12_unlink 80 = .ok (.aload_n 0, 1) := by decide +kernel
theorem dX12_unlink_81 : decode cX12_unlink 81 = .ok (.iload_n 3, 1) := by decide +kernel
theorem dX12_unlink_82 : decode cX12_unlink 82 = .ok (.invokevirtual 437, 3) := by decide +kernel
theorem dX12_unlink_85 : decode cX12_unlink 85 = .ok (.ireturn, 1) := by decide +kernel
theorem dX12_unlink_86 : decode cX12_unlink 86 = .ok (.astore_n 1, 1) := by decide +kernel
theorem dX12_unlink_87 : decode cX12_unlink 87 = .ok (.aload_n 0, 1) := by decide +kernel
theorem dX12_unlink_88 : decode cX12_unlink 88 = .ok (.invokevirtual 427, 3) := by decide +kernel
theorem dX12_unlink_91 : decode cX12_unlink 91 = .ok (.ireturn, 1) := by decide +kernel
set_option maxRecDepth 100000 in
set_option maxHeartbeats 1000000 in
theorem c_X12_unlink {l : Launch} {D : va_G} {aC : Nat → ClassId} {b0 fu : Nat} {a0 : Nat} {σ τ : tM} {v : Int32} (hm : m_X12_unlink b0 fu a0 σ = some (v, τ)) : tMt l D aC b0 yX12_unlink (Cond.codeWith yX12_unlink cX12_unlink 4 (some .int) [(5, 20, 86, 425), (21, 32, 86, 425), (33, 53, 86, 425), (54, 73, 86, 425), (74, 85, 86, 425)]) 9 219 [.ref (a0)] σ (.inl (some (.int v))) τ := by
  unfold m_X12_unlink at hm
  obtain ⟨hg, hm⟩ := grw_e hm
  refine tMt_ofH rfl (Nat.le_of_ble_eq_true rfl) hg ?_
  intro p e s m below meth c C htab hin
  refine zx_lv [0] [(0, .ref (a0))] rfl ?_
  refine zx_aload_n C dX12_unlink_0 0 rfl ?_
  refine zx_iconst (v := 0) C dX12_unlink_1 (by decide) ?_
  obtain ⟨k1, i2, hm⟩ := ckO_e hm
  refine zx_put (j := 0) (ρ := sI (σ) (a0) 0 (0)) C tC_11 k1 i2 ⟨by decide, Or.inl W_6_220⟩ rfl rfl rfl (sI_ok (fun _ => rfl)) dX12_unlink_2 ?_
  refine zx_aload_n C dX12_unlink_5 0 rfl ?_
  rcases cly_e hm with ⟨v3, ρ4, h5, hm⟩ | ⟨ρ43, h5, hm⟩
  · refine zx_callV (σ := sI (σ) (a0) 0 (0)) C [] tC_11 k1 i2 Y_X12_upAhead W_7_175 W_7_177 Wp_56 (c_X12_upAhead h5) (by decide) (by decide) rfl (Nat.le_of_ble_eq_true rfl) dX12_unlink_6 rfl ?_
    refine zx_aload_n C dX12_unlink_9 0 rfl ?_
    refine zx_iconst (v := 0) C dX12_unlink_10 (by decide) ?_
    obtain ⟨k6, i7, hm⟩ := ckO_e hm
    obtain ⟨v8, ρ9, h10, hm⟩ := cll_e hm
    refine zx_callV (σ := ρ4) C [.int (0)] tC_11 k6 i7 Y_X12_walkAhead W_8_24 W_8_26 Wp_76 (c_X12_walkAhead h10) (by decide) (by decide) rfl (Nat.le_of_ble_eq_true rfl) dX12_unlink_11 rfl ?_
    refine zx_istore_n C [(1, .int (v8)), (0, .ref (a0))] dX12_unlink_14 rfl (by decide) rfl ?_
    refine zx_iload_n C dX12_unlink_15 0 rfl ?_
    refine zx_if_ge C 21 dX12_unlink_16 (by decide) (fun c11 => ?_) (fun c11 => ?_)
    · replace hm := ip_e hm c11
      refine zx_aload_n C dX12_unlink_21 1 rfl ?_
      obtain ⟨k12, i13, hm⟩ := ckO_e hm
      refine zx_get (j := 53) C tC_11 k12 i13 ⟨by decide, Or.inl W_7_32⟩ dX12_unlink_22 (.int (tI (ρ9) (a0) 53)) rfl ?_
      refine zx_bipush (v := 28) C dX12_unlink_25 (by decide) ?_
      refine zx_icmp_le C 33 dX12_unlink_27 (by decide) (fun c14 => ?_) (fun c14 => ?_)
      · replace hm := ip_e hm c14
        refine zx_aload_n C dX12_unlink_33 1 rfl ?_
        refine zx_iload_n C dX12_unlink_34 0 rfl ?_
        refine zx_aload_n C dX12_unlink_35 1 rfl ?_
        obtain ⟨a15, h16, hm⟩ := osm_e hm
        refine zx_get (j := 52) C tC_11 k12 i13 ⟨by decide, Or.inl W_7_31⟩ dX12_unlink_36 (.ref a15) (rf_s h16) ?_
        refine zx_iconst (v := 0) C dX12_unlink_39 (by decide) ?_
        refine zx_aload_n C dX12_unlink_40 1 rfl ?_
        refine zx_get (j := 53) C tC_11 k12 i13 ⟨by decide, Or.inl W_7_32⟩ dX12_unlink_41 (.int (tI (ρ9) (a0) 53)) rfl ?_
        obtain ⟨v17, ρ18, h19, hm⟩ := cll_e hm
        refine zx_callV (σ := ρ9) C [.int (v8), .ref (a15), .int (0), .int (tI (ρ9) (a0) 53)] tC_11 k12 i13 Y_X12_find W_8_44 W_8_46 Wp_81 (c_X12_find h19) (by decide) (by decide) rfl (Nat.le_of_ble_eq_true rfl) dX12_unlink_44 rfl ?_
        refine zx_istore_n C [(2, .int (v17)), (1, .int (v8)), (0, .ref (a0))] dX12_unlink_47 rfl (by decide) rfl ?_
        refine zx_iload_n C dX12_unlink_48 0 rfl ?_
        refine zx_if_ge C 54 dX12_unlink_49 (by decide) (fun c20 => ?_) (fun c20 => ?_)
        · replace hm := ip_e hm c20
          refine zx_aload_n C dX12_unlink_54 2 rfl ?_
          refine zx_iload_n C dX12_unlink_55 1 rfl ?_
          refine zx_iload_n C dX12_unlink_56 0 rfl ?_
          obtain ⟨k21, i22, hm⟩ := ckO_e hm
          obtain ⟨v23, ρ24, h25, hm⟩ := cll_e hm
          refine zx_callV (σ := ρ18) C [.int (v8), .int (v17)] tC_11 k21 i22 Y_X12_entryNode W_8_52 W_8_54 Wp_83 (c_X12_entryNode h25) (by decide) (by decide) rfl (Nat.le_of_ble_eq_true rfl) dX12_unlink_57 rfl ?_
          refine zx_istore_n C [(3, .int (v23)), (2, .int (v17)), (1, .int (v8)), (0, .ref (a0))] dX12_unlink_60 rfl (by decide) rfl ?_
          refine zx_aload_n C dX12_unlink_61 3 rfl ?_
          refine zx_iload_n C dX12_unlink_62 0 rfl ?_
          refine zx_iconst (v := 0) C dX12_unlink_63 (by decide) ?_
          obtain ⟨k26, i27, hm⟩ := ckO_e hm
          obtain ⟨v28, ρ29, h30, hm⟩ := cll_e hm
          refine zx_callV (σ := ρ24) C [.int (v23), .int (0)] tC_11 k26 i27 Y_X12_node W_8_40 W_8_42 Wp_80 (c_X12_node h30) (by decide) (by decide) rfl (Nat.le_of_ble_eq_true rfl) dX12_unlink_64 rfl ?_
          refine zx_iconst (v := 2) C dX12_unlink_67 (by decide) ?_
          refine zx_icmp_ne C 74 dX12_unlink_68 (by decide) (fun c31 => ?_) (fun c31 => ?_)
          · replace hm := in_e hm c31
            refine zx_aload_n C dX12_unlink_74 3 rfl ?_
            refine zx_iload_n C dX12_unlink_75 2 rfl ?_
            refine zx_iload_n C dX12_unlink_76 1 rfl ?_
            obtain ⟨k32, i33, hm⟩ := ckO_e hm
            obtain ⟨v34, ρ35, h36, hm⟩ := cll_e hm
            refine zx_callV (σ := ρ29) C [.int (v8), .int (v17)] tC_11 k32 i33 Y_X12_removeEntry W_8_159 W_8_161 Wp_105 (c_X12_removeEntry h36) (by decide) (by decide) rfl (Nat.le_of_ble_eq_true rfl) dX12_unlink_77 rfl ?_
            refine zx_aload_n C dX12_unlink_80 3 rfl ?_
            refine zx_iload_n C dX12_unlink_81 0 rfl ?_
            obtain ⟨k37, i38, hm⟩ := ckO_e hm
            obtain ⟨v39, ρ40, h41, hm⟩ := cll_e hm
            refine zx_callV (σ := ρ35) C [.int (v23)] tC_11 k37 i38 Y_X12_lose W_8_179 W_8_181 Wp_110 (c_X12_lose h41) (by decide) (by decide) rfl (Nat.le_of_ble_eq_true rfl) dX12_unlink_82 rfl ?_
            obtain ⟨rfl, rfl⟩ := ret_e hm
            exact zx_iret C rfl rfl rfl dX12_unlink_85
          · replace hm := ip_e hm c31
            refine zx_bipush (v := (-4)) C dX12_unlink_71 (by decide) ?_
            obtain ⟨rfl, rfl⟩ := ret_e hm
            exact zx_iret C rfl rfl rfl dX12_unlink_73
        · replace hm := in_e hm c20
          refine zx_iconst (v := (-1)) C dX12_unlink_52 (by decide) ?_
          obtain ⟨rfl, rfl⟩ := ret_e hm
          exact zx_iret C rfl rfl rfl dX12_unlink_53
      · replace hm := in_e hm c14
        refine zx_bipush (v := (-7)) C dX12_unlink_30 (by decide) ?_
        obtain ⟨rfl, rfl⟩ := ret_e hm
        exact zx_iret C rfl rfl rfl dX12_unlink_32
    · replace hm := in_e hm c11
      refine zx_iload_n C dX12_unlink_19 0 rfl ?_
      obtain ⟨rfl, rfl⟩ := ret_e hm
      exact zx_iret C rfl rfl rfl dX12_unlink_20
  · refine zx_catchV (σ := sI (σ) (a0) 0 (0)) (x9 := { startPc := 5, endPc := 20, handlerPc := 86, catchType := 425 }) C (tableOf []) (tableOf [(21, 32, 86, 425), (33, 53, 86, 425), (54, 73, 86, 425), (74, 85, 86, 425)]) htab (by decide) (by decide) (by decide) (E := "SyncTreeModel$Off") W_7_174 W_9_132 [] tC_11 k1 i2 Y_X12_upAhead W_7_175 W_7_177 Wp_56 (c_X12_upAhead h5) (by decide) (by decide) rfl (Nat.le_of_ble_eq_true rfl) dX12_unlink_6 rfl (fun q42 => ?_)
    refine zx_astore_n C [(1, .ref (q42)), (0, .ref (a0))] dX12_unlink_86 rfl (by decide) rfl ?_
    refine zx_aload_n C dX12_unlink_87 1 rfl ?_
    obtain ⟨k44, i45, hm⟩ := ckO_e hm
    obtain ⟨v46, ρ47, h48, hm⟩ := cll_e hm
    refine zx_callV (σ := ρ43) C [] tC_11 k44 i45 Y_X12_off W_8_135 W_8_137 Wp_103 (c_X12_off h48) (by decide) (by decide) rfl (Nat.le_of_ble_eq_true rfl) dX12_unlink_88 rfl ?_
    obtain ⟨rfl, rfl⟩ := ret_e hm
    exact zx_iret C rfl rfl rfl dX12_unlink_91
