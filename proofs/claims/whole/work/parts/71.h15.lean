abbrev cL_blockOf : ByteArray := method_21_code
def yL_blockOf : MethodName := ⟨"SyncTreeLaw", "blockOf", "(LSyncTree;II[J)I"⟩
theorem Y_L_blockOf : tYH yL_blockOf cL_blockOf 5 (some .int) [(0, 10, 13, 13)] 4 := ⟨W_6_20, W_1_0, ⟨by decide +kernel, by decide +kernel⟩, by decide +kernel⟩
theorem dL_blockOf_0 : decode cL_blockOf 0 = .ok (.aload_n 3, 1) := by decide +kernel
theorem dL_blockOf_1 : decode cL_blockOf 1 = .ok (.iconst 0, 1) := by decide +kernel
theorem dL_blockOf_2 : decode cL_blockOf 2 = .ok (.aload_n 0, 1) := by decide +kernel
theorem dL_blockOf_3 : decode cL_blockOf 3 = .ok (.iload_n 1, 1) := by decide +kernel
theorem dL_blockOf_4 : decode cL_blockOf 4 = .ok (.iload_n 2, 1) := by decide +kernel
theorem dL_blockOf_5 : decode cL_blockOf 5 = .ok (.invokevirtual 72, 3) := by decide +kernel
theorem dL_blockOf_8 : decode cL_blockOf 8 = .ok (.i2l, 1) := by decide +kernel
theorem dL_blockOf_9 : decode cL_blockOf 9 = .ok (.lastore, 1) := by decide +kernel
theorem dL_blockOf_10 : decode cL_blockOf 10 = .ok (.goto 7, 3) := by decide +kernel
theorem dL_blockOf_13 : decode cL_blockOf 13 = .ok (.astore 4, 2) := by decide +kernel
theorem dL_blockOf_15 : decode cL_blockOf 15 = .ok (.iconst 1, 1) := by decide +kernel
theorem dL_blockOf_16 : decode cL_blockOf 16 = .ok (.ireturn, 1) := by decide +kernel
theorem dL_blockOf_17 : decode cL_blockOf 17 = .ok (.iconst 0, 1) := by decide +kernel
theorem dL_blockOf_18 : decode cL_blockOf 18 = .ok (.ireturn, 1) := by decide +kernel
def m_L_blockOf (b0 fu : Nat) (p0 : Nat) (p1 : Int32) (p2 : Int32) (p3 : Nat) (σ : tM) : Option ((Int32) × tM) := grw σ (ckO b0 (σ) (p0) 10 (cly (m_X10_blockOf b0 fu (p0) (p1) (p2) (σ)) (fun v3 ρ4 => ckR b0 (ρ4) (p3) 3 (fun n8 => ckI (0) (n8) (some (0, sL (ρ4) (p3) (((0 : Int32)).toNatClampNeg) ((v3).toInt64))))) (fun ρ11 => some (1, ρ11))))
set_option maxRecDepth 100000 in
set_option maxHeartbeats 1000000 in
theorem c_L_blockOf {l : Launch} {D : va_G} {aC : Nat → ClassId} {b0 fu : Nat} {p0 : Nat} {p1 : Int32} {p2 : Int32} {p3 : Nat} {σ τ : tM} {v : Int32} (hm : m_L_blockOf b0 fu p0 p1 p2 p3 σ = some (v, τ)) : tMt l D aC b0 yL_blockOf (Cond.codeWith yL_blockOf cL_blockOf 5 (some .int) [(0, 10, 13, 13)]) 8 134 [.ref (p0), .int (p1), .int (p2), .ref (p3)] σ (.inl (some (.int v))) τ := by
  unfold m_L_blockOf at hm
  obtain ⟨hg, hm⟩ := grw_e hm
  refine tMt_ofH rfl (Nat.le_of_ble_eq_true rfl) hg ?_
  intro p e s m below meth c C htab hin
  refine zx_lv [0, 1, 2, 3] [(0, .ref (p0)), (1, .int (p1)), (2, .int (p2)), (3, .ref (p3))] rfl ?_
  refine zx_aload_n C dL_blockOf_0 3 rfl ?_
  refine zx_iconst (v := 0) C dL_blockOf_1 (by decide) ?_
  refine zx_aload_n C dL_blockOf_2 0 rfl ?_
  refine zx_iload_n C dL_blockOf_3 1 rfl ?_
  refine zx_iload_n C dL_blockOf_4 2 rfl ?_
  obtain ⟨k1, i2, hm⟩ := ckO_e hm
  rcases cly_e hm with ⟨v3, ρ4, h5, hm⟩ | ⟨ρ11, h5, hm⟩
  · refine zx_callV (σ := σ) C [.int (p1), .int (p2)] tC_10 k1 i2 Y_X10_blockOf W_6_21 W_6_22 W_6_23 (c_X10_blockOf h5) (by decide) (by decide) rfl (Nat.le_of_ble_eq_true rfl) dL_blockOf_5 rfl ?_
    refine zx_i2l C dL_blockOf_8 ?_
    obtain ⟨n8, k6, i7, hm⟩ := ckR_e hm
    obtain ⟨h9, hm⟩ := ckI_e hm
    refine zx_last C k6 i7 h9 dL_blockOf_9 ?_
    refine zx_goto C 17 dL_blockOf_10 (by decide) ?_
    refine zx_iconst (v := 0) C dL_blockOf_17 (by decide) ?_
    obtain ⟨rfl, rfl⟩ := ret_e hm
    exact zx_iret C rfl rfl rfl dL_blockOf_18
  · refine zx_catchV (σ := σ) (x9 := { startPc := 0, endPc := 10, handlerPc := 13, catchType := 13 }) C (tableOf []) (tableOf []) htab (by decide) (by decide) (by decide) (E := "java/lang/IllegalStateException") W_3_103 W_3_118 [.int (p1), .int (p2)] tC_10 k1 i2 Y_X10_blockOf W_6_21 W_6_22 W_6_23 (c_X10_blockOf h5) (by decide) (by decide) rfl (Nat.le_of_ble_eq_true rfl) dL_blockOf_5 rfl (fun q10 => ?_)
    refine zx_astore C [(4, .ref (q10)), (0, .ref (p0)), (1, .int (p1)), (2, .int (p2)), (3, .ref (p3))] dL_blockOf_13 (by decide) rfl ?_
    refine zx_iconst (v := 1) C dL_blockOf_15 (by decide) ?_
    obtain ⟨rfl, rfl⟩ := ret_e hm
    exact zx_iret C rfl rfl rfl dL_blockOf_16
abbrev cL_fsync : ByteArray := method_22_code
def yL_fsync : MethodName := ⟨"SyncTreeLaw", "fsync", "(LSyncTree;I[J)I"⟩
theorem Y_L_fsync : tYH yL_fsync cL_fsync 4 (some .int) [(0, 9, 12, 13)] 3 := ⟨W_6_30, W_1_0, ⟨by decide +kernel, by decide +kernel⟩, by decide +kernel⟩
theorem dL_fsync_0 : decode cL_fsync 0 = .ok (.aload_n 2, 1) := by decide +kernel
theorem dL_fsync_1 : decode cL_fsync 1 = .ok (.iconst 0, 1) := by decide +kernel
theorem dL_fsync_2 : decode cL_fsync 2 = .ok (.aload_n 0, 1) := by decide +kernel
theorem dL_fsync_3 : decode cL_fsync 3 = .ok (.iload_n 1, 1) := by decide +kernel
theorem dL_fsync_4 : decode cL_fsync 4 = .ok (.invokevirtual 75, 3) := by decide +kernel
theorem dL_fsync_7 : decode cL_fsync 7 = .ok (.i2l, 1) := by decide +kernel
theorem dL_fsync_8 : decode cL_fsync 8 = .ok (.lastore, 1) := by decide +kernel
theorem dL_fsync_9 : decode cL_fsync 9 = .ok (.goto 6, 3) := by decide +kernel
theorem dL_fsync_12 : decode cL_fsync 12 = .ok (.astore_n 3, 1) := by decide +kernel
theorem dL_fsync_13 : decode cL_fsync 13 = .ok (.iconst 1, 1) := by decide +kernel
theorem dL_fsync_14 : decode cL_fsync 14 = .ok (.ireturn, 1) := by decide +kernel
theorem dL_fsync_15 : decode cL_fsync 15 = .ok (.iconst 0, 1) := by decide +kernel
theorem dL_fsync_16 : decode cL_fsync 16 = .ok (.ireturn, 1) := by decide +kernel
def m_L_fsync (b0 fu : Nat) (p0 : Nat) (p1 : Int32) (p2 : Nat) (σ : tM) : Option ((Int32) × tM) := grw σ (ckO b0 (σ) (p0) 10 (cly (m_X10_fsync b0 fu (p0) (p1) (σ)) (fun v3 ρ4 => ckR b0 (ρ4) (p2) 3 (fun n8 => ckI (0) (n8) (some (0, sL (ρ4) (p2) (((0 : Int32)).toNatClampNeg) ((v3).toInt64))))) (fun ρ11 => some (1, ρ11))))
set_option maxRecDepth 100000 in
set_option maxHeartbeats 1000000 in
theorem c_L_fsync {l : Launch} {D : va_G} {aC : Nat → ClassId} {b0 fu : Nat} {p0 : Nat} {p1 : Int32} {p2 : Nat} {σ τ : tM} {v : Int32} (hm : m_L_fsync b0 fu p0 p1 p2 σ = some (v, τ)) : tMt l D aC b0 yL_fsync (Cond.codeWith yL_fsync cL_fsync 4 (some .int) [(0, 9, 12, 13)]) 12 222 [.ref (p0), .int (p1), .ref (p2)] σ (.inl (some (.int v))) τ := by
  unfold m_L_fsync at hm
  obtain ⟨hg, hm⟩ := grw_e hm
  refine tMt_ofH rfl (Nat.le_of_ble_eq_true rfl) hg ?_
  intro p e s m below meth c C htab hin
  refine zx_lv [0, 1, 2] [(0, .ref (p0)), (1, .int (p1)), (2, .ref (p2))] rfl ?_
  refine zx_aload_n C dL_fsync_0 2 rfl ?_
  refine zx_iconst (v := 0) C dL_fsync_1 (by decide) ?_
  refine zx_aload_n C dL_fsync_2 0 rfl ?_
  refine zx_iload_n C dL_fsync_3 1 rfl ?_
  obtain ⟨k1, i2, hm⟩ := ckO_e hm
  rcases cly_e hm with ⟨v3, ρ4, h5, hm⟩ | ⟨ρ11, h5, hm⟩
  · refine zx_callV (σ := σ) C [.int (p1)] tC_10 k1 i2 Y_X10_fsync W_6_31 W_6_32 W_6_33 (c_X10_fsync h5) (by decide) (by decide) rfl (Nat.le_of_ble_eq_true rfl) dL_fsync_4 rfl ?_
    refine zx_i2l C dL_fsync_7 ?_
    obtain ⟨n8, k6, i7, hm⟩ := ckR_e hm
    obtain ⟨h9, hm⟩ := ckI_e hm
    refine zx_last C k6 i7 h9 dL_fsync_8 ?_
    refine zx_goto C 15 dL_fsync_9 (by decide) ?_
    refine zx_iconst (v := 0) C dL_fsync_15 (by decide) ?_
    obtain ⟨rfl, rfl⟩ := ret_e hm
    exact zx_iret C rfl rfl rfl dL_fsync_16
  · refine zx_catchV (σ := σ) (x9 := { startPc := 0, endPc := 9, handlerPc := 12, catchType := 13 }) C (tableOf []) (tableOf []) htab (by decide) (by decide) (by decide) (E := "java/lang/IllegalStateException") W_3_103 W_3_118 [.int (p1)] tC_10 k1 i2 Y_X10_fsync W_6_31 W_6_32 W_6_33 (c_X10_fsync h5) (by decide) (by decide) rfl (Nat.le_of_ble_eq_true rfl) dL_fsync_4 rfl (fun q10 => ?_)
    refine zx_astore_n C [(3, .ref (q10)), (0, .ref (p0)), (1, .int (p1)), (2, .ref (p2))] dL_fsync_12 rfl (by decide) rfl ?_
    refine zx_iconst (v := 1) C dL_fsync_13 (by decide) ?_
    obtain ⟨rfl, rfl⟩ := ret_e hm
    exact zx_iret C rfl rfl rfl dL_fsync_14
abbrev cL_fdatasync : ByteArray := method_23_code
def yL_fdatasync : MethodName := ⟨"SyncTreeLaw", "fdatasync", "(LSyncTree;I[J)I"⟩
theorem Y_L_fdatasync : tYH yL_fdatasync cL_fdatasync 4 (some .int) [(0, 9, 12, 13)] 3 := ⟨W_6_64, W_1_0, ⟨by decide +kernel, by decide +kernel⟩, by decide +kernel⟩
theorem dL_fdatasync_0 : decode cL_fdatasync 0 = .ok (.aload_n 2, 1) := by decide +kernel
theorem dL_fdatasync_1 : decode cL_fdatasync 1 = .ok (.iconst 0, 1) := by decide +kernel
theorem dL_fdatasync_2 : decode cL_fdatasync 2 = .ok (.aload_n 0, 1) := by decide +kernel
theorem dL_fdatasync_3 : decode cL_fdatasync 3 = .ok (.iload_n 1, 1) := by decide +kernel
theorem dL_fdatasync_4 : decode cL_fdatasync 4 = .ok (.invokevirtual 78, 3) := by decide +kernel
theorem dL_fdatasync_7 : decode cL_fdatasync 7 = .ok (.i2l, 1) := by decide +kernel
theorem dL_fdatasync_8 : decode cL_fdatasync 8 = .ok (.lastore, 1) := by decide +kernel
theorem dL_fdatasync_9 : decode cL_fdatasync 9 = .ok (.goto 6, 3) := by decide +kernel
theorem dL_fdatasync_12 : decode cL_fdatasync 12 = .ok (.astore_n 3, 1) := by decide +kernel
theorem dL_fdatasync_13 : decode cL_fdatasync 13 = .ok (.iconst 1, 1) := by decide +kernel
theorem dL_fdatasync_14 : decode cL_fdatasync 14 = .ok (.ireturn, 1) := by decide +kernel
theorem dL_fdatasync_15 : decode cL_fdatasync 15 = .ok (.iconst 0, 1) := by decide +kernel
theorem dL_fdatasync_16 : decode cL_fdatasync 16 = .ok (.ireturn, 1) := by decide +kernel
def m_L_fdatasync (b0 fu : Nat) (p0 : Nat) (p1 : Int32) (p2 : Nat) (σ : tM) : Option ((Int32) × tM) := grw σ (ckO b0 (σ) (p0) 10 (cly (m_X10_fdatasync b0 fu (p0) (p1) (σ)) (fun v3 ρ4 => ckR b0 (ρ4) (p2) 3 (fun n8 => ckI (0) (n8) (some (0, sL (ρ4) (p2) (((0 : Int32)).toNatClampNeg) ((v3).toInt64))))) (fun ρ11 => some (1, ρ11))))
set_option maxRecDepth 100000 in
set_option maxHeartbeats 1000000 in
theorem c_L_fdatasync {l : Launch} {D : va_G} {aC : Nat → ClassId} {b0 fu : Nat} {p0 : Nat} {p1 : Int32} {p2 : Nat} {σ τ : tM} {v : Int32} (hm : m_L_fdatasync b0 fu p0 p1 p2 σ = some (v, τ)) : tMt l D aC b0 yL_fdatasync (Cond.codeWith yL_fdatasync cL_fdatasync 4 (some .int) [(0, 9, 12, 13)]) 12 222 [.ref (p0), .int (p1), .ref (p2)] σ (.inl (some (.int v))) τ := by
  unfold m_L_fdatasync at hm
  obtain ⟨hg, hm⟩ := grw_e hm
  refine tMt_ofH rfl (Nat.le_of_ble_eq_true rfl) hg ?_
  intro p e s m below meth c C htab hin
  refine zx_lv [0, 1, 2] [(0, .ref (p0)), (1, .int (p1)), (2, .ref (p2))] rfl ?_
  refine zx_aload_n C dL_fdatasync_0 2 rfl ?_
  refine zx_iconst (v := 0) C dL_fdatasync_1 (by decide) ?_
  refine zx_aload_n C dL_fdatasync_2 0 rfl ?_
  refine zx_iload_n C dL_fdatasync_3 1 rfl ?_
  obtain ⟨k1, i2, hm⟩ := ckO_e hm
  rcases cly_e hm with ⟨v3, ρ4, h5, hm⟩ | ⟨ρ11, h5, hm⟩
  · refine zx_callV (σ := σ) C [.int (p1)] tC_10 k1 i2 Y_X10_fdatasync W_6_65 W_6_66 W_6_67 (c_X10_fdatasync h5) (by decide) (by decide) rfl (Nat.le_of_ble_eq_true rfl) dL_fdatasync_4 rfl ?_
    refine zx_i2l C dL_fdatasync_7 ?_
    obtain ⟨n8, k6, i7, hm⟩ := ckR_e hm
    obtain ⟨h9, hm⟩ := ckI_e hm
    refine zx_last C k6 i7 h9 dL_fdatasync_8 ?_
    refine zx_goto C 15 dL_fdatasync_9 (by decide) ?_
    refine zx_iconst (v := 0) C dL_fdatasync_15 (by decide) ?_
    obtain ⟨rfl, rfl⟩ := ret_e hm
    exact zx_iret C rfl rfl rfl dL_fdatasync_16
  · refine zx_catchV (σ := σ) (x9 := { startPc := 0, endPc := 9, handlerPc := 12, catchType := 13 }) C (tableOf []) (tableOf []) htab (by decide) (by decide) (by decide) (E := "java/lang/IllegalStateException") W_3_103 W_3_118 [.int (p1)] tC_10 k1 i2 Y_X10_fdatasync W_6_65 W_6_66 W_6_67 (c_X10_fdatasync h5) (by decide) (by decide) rfl (Nat.le_of_ble_eq_true rfl) dL_fdatasync_4 rfl (fun q10 => ?_)
    refine zx_astore_n C [(3, .ref (q10)), (0, .ref (p0)), (1, .int (p1)), (2, .ref (p2))] dL_fdatasync_12 rfl (by decide) rfl ?_
    refine zx_iconst (v := 1) C dL_fdatasync_13 (by decide) ?_
    obtain ⟨rfl, rfl⟩ := ret_e hm
    exact zx_iret C rfl rfl rfl dL_fdatasync_14
abbrev cL_sync : ByteArray := method_24_code
def yL_sync : MethodName := ⟨"SyncTreeLaw", "sync", "(LSyncTree;[J)I"⟩
theorem Y_L_sync : tYH yL_sync cL_sync 3 (some .int) [(0, 8, 11, 13)] 2 := ⟨W_6_75, W_1_0, ⟨by decide +kernel, by decide +kernel⟩, by decide +kernel⟩
theorem dL_sync_0 : decode cL_sync 0 = .ok (.aload_n 1, 1) := by decide +kernel
theorem dL_sync_1 : decode cL_sync 1 = .ok (.iconst 0, 1) := by decide +kernel
theorem dL_sync_2 : decode cL_sync 2 = .ok (.aload_n 0, 1) := by decide +kernel
theorem dL_sync_3 : decode cL_sync 3 = .ok (.invokevirtual 81, 3) := by decide +kernel
theorem dL_sync_6 : decode cL_sync 6 = .ok (.i2l, 1) := by decide +kernel
theorem dL_sync_7 : decode cL_sync 7 = .ok (.lastore, 1) := by decide +kernel
theorem dL_sync_8 : decode cL_sync 8 = .ok (.goto 6, 3) := by decide +kernel
theorem dL_sync_11 : decode cL_sync 11 = .ok (.astore_n 2, 1) := by decide +kernel
theorem dL_sync_12 : decode cL_sync 12 = .ok (.iconst 1, 1) := by decide +kernel
theorem dL_sync_13 : decode cL_sync 13 = .ok (.ireturn, 1) := by decide +kernel
theorem dL_sync_14 : decode cL_sync 14 = .ok (.iconst 0, 1) := by decide +kernel
theorem dL_sync_15 : decode cL_sync 15 = .ok (.ireturn, 1) := by decide +kernel
def m_L_sync (b0 fu : Nat) (p0 : Nat) (p1 : Nat) (σ : tM) : Option ((Int32) × tM) := grw σ (ckO b0 (σ) (p0) 10 (cly (m_X10_sync b0 fu (p0) (σ)) (fun v3 ρ4 => ckR b0 (ρ4) (p1) 3 (fun n8 => ckI (0) (n8) (some (0, sL (ρ4) (p1) (((0 : Int32)).toNatClampNeg) ((v3).toInt64))))) (fun ρ11 => some (1, ρ11))))
set_option maxRecDepth 100000 in
set_option maxHeartbeats 1000000 in
theorem c_L_sync {l : Launch} {D : va_G} {aC : Nat → ClassId} {b0 fu : Nat} {p0 : Nat} {p1 : Nat} {σ τ : tM} {v : Int32} (hm : m_L_sync b0 fu p0 p1 σ = some (v, τ)) : tMt l D aC b0 yL_sync (Cond.codeWith yL_sync cL_sync 3 (some .int) [(0, 8, 11, 13)]) 12 220 [.ref (p0), .ref (p1)] σ (.inl (some (.int v))) τ := by
  unfold m_L_sync at hm
  obtain ⟨hg, hm⟩ := grw_e hm
  refine tMt_ofH rfl (Nat.le_of_ble_eq_true rfl) hg ?_
  intro p e s m below meth c C htab hin
  refine zx_lv [0, 1] [(0, .ref (p0)), (1, .ref (p1))] rfl ?_
  refine zx_aload_n C dL_sync_0 1 rfl ?_
  refine zx_iconst (v := 0) C dL_sync_1 (by decide) ?_
  refine zx_aload_n C dL_sync_2 0 rfl ?_
  obtain ⟨k1, i2, hm⟩ := ckO_e hm
  rcases cly_e hm with ⟨v3, ρ4, h5, hm⟩ | ⟨ρ11, h5, hm⟩
  · refine zx_callV (σ := σ) C [] tC_10 k1 i2 Y_X10_sync W_6_76 W_6_77 W_6_78 (c_X10_sync h5) (by decide) (by decide) rfl (Nat.le_of_ble_eq_true rfl) dL_sync_3 rfl ?_
    refine zx_i2l C dL_sync_6 ?_
    obtain ⟨n8, k6, i7, hm⟩ := ckR_e hm
    obtain ⟨h9, hm⟩ := ckI_e hm
    refine zx_last C k6 i7 h9 dL_sync_7 ?_
    refine zx_goto C 14 dL_sync_8 (by decide) ?_
    refine zx_iconst (v := 0) C dL_sync_14 (by decide) ?_
    obtain ⟨rfl, rfl⟩ := ret_e hm
    exact zx_iret C rfl rfl rfl dL_sync_15
  · refine zx_catchV (σ := σ) (x9 := { startPc := 0, endPc := 8, handlerPc := 11, catchType := 13 }) C (tableOf []) (tableOf []) htab (by decide) (by decide) (by decide) (E := "java/lang/IllegalStateException") W_3_103 W_3_118 [] tC_10 k1 i2 Y_X10_sync W_6_76 W_6_77 W_6_78 (c_X10_sync h5) (by decide) (by decide) rfl (Nat.le_of_ble_eq_true rfl) dL_sync_3 rfl (fun q10 => ?_)
    refine zx_astore_n C [(2, .ref (q10)), (0, .ref (p0)), (1, .ref (p1))] dL_sync_11 rfl (by decide) rfl ?_
    refine zx_iconst (v := 1) C dL_sync_12 (by decide) ?_
    obtain ⟨rfl, rfl⟩ := ret_e hm
    exact zx_iret C rfl rfl rfl dL_sync_13
abbrev cL_post : ByteArray := method_25_code
def yL_post : MethodName := ⟨"SyncTreeLaw", "post", "(LSyncTree;[J)I"⟩
theorem Y_L_post : tYH yL_post cL_post 3 (some .int) [(0, 8, 11, 13)] 2 := ⟨W_6_82, W_1_0, ⟨by decide +kernel, by decide +kernel⟩, by decide +kernel⟩
theorem dL_post_0 : decode cL_post 0 = .ok (.aload_n 1, 1) := by decide +kernel
theorem dL_post_1 : decode cL_post 1 = .ok (.iconst 0, 1) := by decide +kernel
theorem dL_post_2 : decode cL_post 2 = .ok (.aload_n 0, 1) := by decide +kernel
theorem dL_post_3 : decode cL_post 3 = .ok (.invokevirtual 84, 3) := by decide +kernel
theorem dL_post_6 : decode cL_post 6 = .ok (.i2l, 1) := by decide +kernel
theorem dL_post_7 : decode cL_post 7 = .ok (.lastore, 1) := by decide +kernel
theorem dL_post_8 : decode cL_post 8 = .ok (.goto 6, 3) := by decide +kernel
theorem dL_post_11 : decode cL_post 11 = .ok (.astore_n 2, 1) := by decide +kernel
theorem dL_post_12 : decode cL_post 12 = .ok (.iconst 1, 1) := by decide +kernel
theorem dL_post_13 : decode cL_post 13 = .ok (.ireturn, 1) := by decide +kernel
theorem dL_post_14 : decode cL_post 14 = .ok (.iconst 0, 1) := by decide +kernel
theorem dL_post_15 : decode cL_post 15 = .ok (.ireturn, 1) := by decide +kernel
def m_L_post (b0 fu : Nat) (p0 : Nat) (p1 : Nat) (σ : tM) : Option ((Int32) × tM) := grw σ (ckO b0 (σ) (p0) 10 (cly (m_X10_post b0 fu (p0) (σ)) (fun v3 ρ4 => ckR b0 (ρ4) (p1) 3 (fun n8 => ckI (0) (n8) (some (0, sL (ρ4) (p1) (((0 : Int32)).toNatClampNeg) ((v3).toInt64))))) (fun ρ11 => some (1, ρ11))))
set_option maxRecDepth 100000 in
set_option maxHeartbeats 1000000 in
theorem c_L_post {l : Launch} {D : va_G} {aC : Nat → ClassId} {b0 fu : Nat} {p0 : Nat} {p1 : Nat} {σ τ : tM} {v : Int32} (hm : m_L_post b0 fu p0 p1 σ = some (v, τ)) : tMt l D aC b0 yL_post (Cond.codeWith yL_post cL_post 3 (some .int) [(0, 8, 11, 13)]) 12 219 [.ref (p0), .ref (p1)] σ (.inl (some (.int v))) τ := by
  unfold m_L_post at hm
  obtain ⟨hg, hm⟩ := grw_e hm
  refine tMt_ofH rfl (Nat.le_of_ble_eq_true rfl) hg ?_
  intro p e s m below meth c C htab hin
  refine zx_lv [0, 1] [(0, .ref (p0)), (1, .ref (p1))] rfl ?_
  refine zx_aload_n C dL_post_0 1 rfl ?_
  refine zx_iconst (v := 0) C dL_post_1 (by decide) ?_
  refine zx_aload_n C dL_post_2 0 rfl ?_
  obtain ⟨k1, i2, hm⟩ := ckO_e hm
  rcases cly_e hm with ⟨v3, ρ4, h5, hm⟩ | ⟨ρ11, h5, hm⟩
  · refine zx_callV (σ := σ) C [] tC_10 k1 i2 Y_X10_post W_6_83 W_6_84 W_6_85 (c_X10_post h5) (by decide) (by decide) rfl (Nat.le_of_ble_eq_true rfl) dL_post_3 rfl ?_
    refine zx_i2l C dL_post_6 ?_
    obtain ⟨n8, k6, i7, hm⟩ := ckR_e hm
    obtain ⟨h9, hm⟩ := ckI_e hm
    refine zx_last C k6 i7 h9 dL_post_7 ?_
    refine zx_goto C 14 dL_post_8 (by decide) ?_
    refine zx_iconst (v := 0) C dL_post_14 (by decide) ?_
    obtain ⟨rfl, rfl⟩ := ret_e hm
    exact zx_iret C rfl rfl rfl dL_post_15
  · refine zx_catchV (σ := σ) (x9 := { startPc := 0, endPc := 8, handlerPc := 11, catchType := 13 }) C (tableOf []) (tableOf []) htab (by decide) (by decide) (by decide) (E := "java/lang/IllegalStateException") W_3_103 W_3_118 [] tC_10 k1 i2 Y_X10_post W_6_83 W_6_84 W_6_85 (c_X10_post h5) (by decide) (by decide) rfl (Nat.le_of_ble_eq_true rfl) dL_post_3 rfl (fun q10 => ?_)
    refine zx_astore_n C [(2, .ref (q10)), (0, .ref (p0)), (1, .ref (p1))] dL_post_11 rfl (by decide) rfl ?_
    refine zx_iconst (v := 1) C dL_post_12 (by decide) ?_
    obtain ⟨rfl, rfl⟩ := ret_e hm
    exact zx_iret C rfl rfl rfl dL_post_13
abbrev cL_writeBack : ByteArray := method_26_code
def yL_writeBack : MethodName := ⟨"SyncTreeLaw", "writeBack", "(LSyncTree;I[J)I"⟩
theorem Y_L_writeBack : tYH yL_writeBack cL_writeBack 4 (some .int) [(0, 9, 12, 13)] 3 := ⟨W_6_89, W_1_0, ⟨by decide +kernel, by decide +kernel⟩, by decide +kernel⟩
theorem dL_writeBack_0 : decode cL_writeBack 0 = .ok (.aload_n 2, 1) := by decide +kernel
theorem dL_writeBack_1 : decode cL_writeBack 1 = .ok (.iconst 0, 1) := by decide +kernel
theorem dL_writeBack_2 : decode cL_writeBack 2 = .ok (.aload_n 0, 1) := by decide +kernel
theorem dL_writeBack_3 : decode cL_writeBack 3 = .ok (.iload_n 1, 1) := by decide +kernel
theorem dL_writeBack_4 : decode cL_writeBack 4 = .ok (.invokevirtual 87, 3) := by decide +kernel
theorem dL_writeBack_7 : decode cL_writeBack 7 = .ok (.i2l, 1) := by decide +kernel
theorem dL_writeBack_8 : decode cL_writeBack 8 = .ok (.lastore, 1) := by decide +kernel
theorem dL_writeBack_9 : decode cL_writeBack 9 = .ok (.goto 6, 3) := by decide +kernel
theorem dL_writeBack_12 : decode cL_writeBack 12 = .ok (.astore_n 3, 1) := by decide +kernel
theorem dL_writeBack_13 : decode cL_writeBack 13 = .ok (.iconst 1, 1) := by decide +kernel
theorem dL_writeBack_14 : decode cL_writeBack 14 = .ok (.ireturn, 1) := by decide +kernel
theorem dL_writeBack_15 : decode cL_writeBack 15 = .ok (.iconst 0, 1) := by decide +kernel
theorem dL_writeBack_16 : decode cL_writeBack 16 = .ok (.ireturn, 1) := by decide +kernel
def m_L_writeBack (b0 fu : Nat) (p0 : Nat) (p1 : Int32) (p2 : Nat) (σ : tM) : Option ((Int32) × tM) := grw σ (ckO b0 (σ) (p0) 10 (cly (m_X10_writeBack b0 fu (p0) (p1) (σ)) (fun v3 ρ4 => ckR b0 (ρ4) (p2) 3 (fun n8 => ckI (0) (n8) (some (0, sL (ρ4) (p2) (((0 : Int32)).toNatClampNeg) ((v3).toInt64))))) (fun ρ11 => some (1, ρ11))))
set_option maxRecDepth 100000 in
set_option maxHeartbeats 1000000 in
theorem c_L_writeBack {l : Launch} {D : va_G} {aC : Nat → ClassId} {b0 fu : Nat} {p0 : Nat} {p1 : Int32} {p2 : Nat} {σ τ : tM} {v : Int32} (hm : m_L_writeBack b0 fu p0 p1 p2 σ = some (v, τ)) : tMt l D aC b0 yL_writeBack (Cond.codeWith yL_writeBack cL_writeBack 4 (some .int) [(0, 9, 12, 13)]) 10 178 [.ref (p0), .int (p1), .ref (p2)] σ (.inl (some (.int v))) τ := by
  unfold m_L_writeBack at hm
  obtain ⟨hg, hm⟩ := grw_e hm
  refine tMt_ofH rfl (Nat.le_of_ble_eq_true rfl) hg ?_
  intro p e s m below meth c C htab hin
  refine zx_lv [0, 1, 2] [(0, .ref (p0)), (1, .int (p1)), (2, .ref (p2))] rfl ?_
  refine zx_aload_n C dL_writeBack_0 2 rfl ?_
  refine zx_iconst (v := 0) C dL_writeBack_1 (by decide) ?_
  refine zx_aload_n C dL_writeBack_2 0 rfl ?_
  refine zx_iload_n C dL_writeBack_3 1 rfl ?_
  obtain ⟨k1, i2, hm⟩ := ckO_e hm
  rcases cly_e hm with ⟨v3, ρ4, h5, hm⟩ | ⟨ρ11, h5, hm⟩
  · refine zx_callV (σ := σ) C [.int (p1)] tC_10 k1 i2 Y_X10_writeBack W_6_90 W_6_91 W_6_92 (c_X10_writeBack h5) (by decide) (by decide) rfl (Nat.le_of_ble_eq_true rfl) dL_writeBack_4 rfl ?_
    refine zx_i2l C dL_writeBack_7 ?_
    obtain ⟨n8, k6, i7, hm⟩ := ckR_e hm
    obtain ⟨h9, hm⟩ := ckI_e hm
    refine zx_last C k6 i7 h9 dL_writeBack_8 ?_
    refine zx_goto C 15 dL_writeBack_9 (by decide) ?_
    refine zx_iconst (v := 0) C dL_writeBack_15 (by decide) ?_
    obtain ⟨rfl, rfl⟩ := ret_e hm
    exact zx_iret C rfl rfl rfl dL_writeBack_16
  · refine zx_catchV (σ := σ) (x9 := { startPc := 0, endPc := 9, handlerPc := 12, catchType := 13 }) C (tableOf []) (tableOf []) htab (by decide) (by decide) (by decide) (E := "java/lang/IllegalStateException") W_3_103 W_3_118 [.int (p1)] tC_10 k1 i2 Y_X10_writeBack W_6_90 W_6_91 W_6_92 (c_X10_writeBack h5) (by decide) (by decide) rfl (Nat.le_of_ble_eq_true rfl) dL_writeBack_4 rfl (fun q10 => ?_)
    refine zx_astore_n C [(3, .ref (q10)), (0, .ref (p0)), (1, .int (p1)), (2, .ref (p2))] dL_writeBack_12 rfl (by decide) rfl ?_
    refine zx_iconst (v := 1) C dL_writeBack_13 (by decide) ?_
    obtain ⟨rfl, rfl⟩ := ret_e hm
    exact zx_iret C rfl rfl rfl dL_writeBack_14
abbrev cL_apply : ByteArray := method_27_code
def yL_apply : MethodName := ⟨"SyncTreeLaw", "apply", "(LSyncTree;I[J)I"⟩
theorem Y_L_apply : tYH yL_apply cL_apply 4 (some .int) [(0, 9, 12, 13)] 3 := ⟨W_6_96, W_1_0, ⟨by decide +kernel, by decide +kernel⟩, by decide +kernel⟩
theorem dL_apply_0 : decode cL_apply 0 = .ok (.aload_n 2, 1) := by decide +kernel
theorem dL_apply_1 : decode cL_apply 1 = .ok (.iconst 0, 1) := by decide +kernel
theorem dL_apply_2 : decode cL_apply 2 = .ok (.aload_n 0, 1) := by decide +kernel
theorem dL_apply_3 : decode cL_apply 3 = .ok (.iload_n 1, 1) := by decide +kernel
theorem dL_apply_4 : decode cL_apply 4 = .ok (.invokevirtual 90, 3) := by decide +kernel
theorem dL_apply_7 : decode cL_apply 7 = .ok (.i2l, 1) := by decide +kernel
theorem dL_apply_8 : decode cL_apply 8 = .ok (.lastore, 1) := by decide +kernel
theorem dL_apply_9 : decode cL_apply 9 = .ok (.goto 6, 3) := by decide +kernel
theorem dL_apply_12 : decode cL_apply 12 = .ok (.astore_n 3, 1) := by decide +kernel
theorem dL_apply_13 : decode cL_apply 13 = .ok (.iconst 1, 1) := by decide +kernel
theorem dL_apply_14 : decode cL_apply 14 = .ok (.ireturn, 1) := by decide +kernel
theorem dL_apply_15 : decode cL_apply 15 = .ok (.iconst 0, 1) := by decide +kernel
theorem dL_apply_16 : decode cL_apply 16 = .ok (.ireturn, 1) := by decide +kernel
def m_L_apply (b0 fu : Nat) (p0 : Nat) (p1 : Int32) (p2 : Nat) (σ : tM) : Option ((Int32) × tM) := grw σ (ckO b0 (σ) (p0) 10 (cly (m_X10_apply b0 fu (p0) (p1) (σ)) (fun v3 ρ4 => ckR b0 (ρ4) (p2) 3 (fun n8 => ckI (0) (n8) (some (0, sL (ρ4) (p2) (((0 : Int32)).toNatClampNeg) ((v3).toInt64))))) (fun ρ11 => some (1, ρ11))))
set_option maxRecDepth 100000 in
set_option maxHeartbeats 1000000 in
theorem c_L_apply {l : Launch} {D : va_G} {aC : Nat → ClassId} {b0 fu : Nat} {p0 : Nat} {p1 : Int32} {p2 : Nat} {σ τ : tM} {v : Int32} (hm : m_L_apply b0 fu p0 p1 p2 σ = some (v, τ)) : tMt l D aC b0 yL_apply (Cond.codeWith yL_apply cL_apply 4 (some .int) [(0, 9, 12, 13)]) 10 178 [.ref (p0), .int (p1), .ref (p2)] σ (.inl (some (.int v))) τ := by
  unfold m_L_apply at hm
  obtain ⟨hg, hm⟩ := grw_e hm
  refine tMt_ofH rfl (Nat.le_of_ble_eq_true rfl) hg ?_
  intro p e s m below meth c C htab hin
  refine zx_lv [0, 1, 2] [(0, .ref (p0)), (1, .int (p1)), (2, .ref (p2))] rfl ?_
  refine zx_aload_n C dL_apply_0 2 rfl ?_
  refine zx_iconst (v := 0) C dL_apply_1 (by decide) ?_
  refine zx_aload_n C dL_apply_2 0 rfl ?_
  refine zx_iload_n C dL_apply_3 1 rfl ?_
  obtain ⟨k1, i2, hm⟩ := ckO_e hm
  rcases cly_e hm with ⟨v3, ρ4, h5, hm⟩ | ⟨ρ11, h5, hm⟩
  · refine zx_callV (σ := σ) C [.int (p1)] tC_10 k1 i2 Y_X10_apply W_6_97 W_6_98 W_6_99 (c_X10_apply h5) (by decide) (by decide) rfl (Nat.le_of_ble_eq_true rfl) dL_apply_4 rfl ?_
    refine zx_i2l C dL_apply_7 ?_
    obtain ⟨n8, k6, i7, hm⟩ := ckR_e hm
    obtain ⟨h9, hm⟩ := ckI_e hm
    refine zx_last C k6 i7 h9 dL_apply_8 ?_
    refine zx_goto C 15 dL_apply_9 (by decide) ?_
    refine zx_iconst (v := 0) C dL_apply_15 (by decide) ?_
    obtain ⟨rfl, rfl⟩ := ret_e hm
    exact zx_iret C rfl rfl rfl dL_apply_16
  · refine zx_catchV (σ := σ) (x9 := { startPc := 0, endPc := 9, handlerPc := 12, catchType := 13 }) C (tableOf []) (tableOf []) htab (by decide) (by decide) (by decide) (E := "java/lang/IllegalStateException") W_3_103 W_3_118 [.int (p1)] tC_10 k1 i2 Y_X10_apply W_6_97 W_6_98 W_6_99 (c_X10_apply h5) (by decide) (by decide) rfl (Nat.le_of_ble_eq_true rfl) dL_apply_4 rfl (fun q10 => ?_)
    refine zx_astore_n C [(3, .ref (q10)), (0, .ref (p0)), (1, .int (p1)), (2, .ref (p2))] dL_apply_12 rfl (by decide) rfl ?_
    refine zx_iconst (v := 1) C dL_apply_13 (by decide) ?_
    obtain ⟨rfl, rfl⟩ := ret_e hm
    exact zx_iret C rfl rfl rfl dL_apply_14
abbrev cL_crash : ByteArray := method_28_code
def yL_crash : MethodName := ⟨"SyncTreeLaw", "crash", "(LSyncTree;[J)I"⟩
theorem Y_L_crash : tYH yL_crash cL_crash 3 (some .int) [(0, 8, 11, 13)] 2 := ⟨W_6_104, W_1_0, ⟨by decide +kernel, by decide +kernel⟩, by decide +kernel⟩
theorem dL_crash_0 : decode cL_crash 0 = .ok (.aload_n 1, 1) := by decide +kernel
theorem dL_crash_1 : decode cL_crash 1 = .ok (.iconst 0, 1) := by decide +kernel
theorem dL_crash_2 : decode cL_crash 2 = .ok (.aload_n 0, 1) := by decide +kernel
theorem dL_crash_3 : decode cL_crash 3 = .ok (.invokevirtual 93, 3) := by decide +kernel
theorem dL_crash_6 : decode cL_crash 6 = .ok (.i2l, 1) := by decide +kernel
theorem dL_crash_7 : decode cL_crash 7 = .ok (.lastore, 1) := by decide +kernel
theorem dL_crash_8 : decode cL_crash 8 = .ok (.goto 6, 3) := by decide +kernel
theorem dL_crash_11 : decode cL_crash 11 = .ok (.astore_n 2, 1) := by decide +kernel
theorem dL_crash_12 : decode cL_crash 12 = .ok (.iconst 1, 1) := by decide +kernel
theorem dL_crash_13 : decode cL_crash 13 = .ok (.ireturn, 1) := by decide +kernel
theorem dL_crash_14 : decode cL_crash 14 = .ok (.iconst 0, 1) := by decide +kernel
theorem dL_crash_15 : decode cL_crash 15 = .ok (.ireturn, 1) := by decide +kernel
def m_L_crash (b0 fu : Nat) (p0 : Nat) (p1 : Nat) (σ : tM) : Option ((Int32) × tM) := grw σ (ckO b0 (σ) (p0) 10 (cly (m_X10_crash b0 fu (p0) (σ)) (fun v3 ρ4 => ckR b0 (ρ4) (p1) 3 (fun n8 => ckI (0) (n8) (some (0, sL (ρ4) (p1) (((0 : Int32)).toNatClampNeg) ((v3).toInt64))))) (fun ρ11 => some (1, ρ11))))
set_option maxRecDepth 100000 in
set_option maxHeartbeats 1000000 in
theorem c_L_crash {l : Launch} {D : va_G} {aC : Nat → ClassId} {b0 fu : Nat} {p0 : Nat} {p1 : Nat} {σ τ : tM} {v : Int32} (hm : m_L_crash b0 fu p0 p1 σ = some (v, τ)) : tMt l D aC b0 yL_crash (Cond.codeWith yL_crash cL_crash 3 (some .int) [(0, 8, 11, 13)]) 8 130 [.ref (p0), .ref (p1)] σ (.inl (some (.int v))) τ := by
  unfold m_L_crash at hm
  obtain ⟨hg, hm⟩ := grw_e hm
  refine tMt_ofH rfl (Nat.le_of_ble_eq_true rfl) hg ?_
  intro p e s m below meth c C htab hin
  refine zx_lv [0, 1] [(0, .ref (p0)), (1, .ref (p1))] rfl ?_
  refine zx_aload_n C dL_crash_0 1 rfl ?_
  refine zx_iconst (v := 0) C dL_crash_1 (by decide) ?_
  refine zx_aload_n C dL_crash_2 0 rfl ?_
  obtain ⟨k1, i2, hm⟩ := ckO_e hm
  rcases cly_e hm with ⟨v3, ρ4, h5, hm⟩ | ⟨ρ11, h5, hm⟩
  · refine zx_callV (σ := σ) C [] tC_10 k1 i2 Y_X10_crash W_6_105 W_6_106 W_6_107 (c_X10_crash h5) (by decide) (by decide) rfl (Nat.le_of_ble_eq_true rfl) dL_crash_3 rfl ?_
    refine zx_i2l C dL_crash_6 ?_
    obtain ⟨n8, k6, i7, hm⟩ := ckR_e hm
    obtain ⟨h9, hm⟩ := ckI_e hm
    refine zx_last C k6 i7 h9 dL_crash_7 ?_
    refine zx_goto C 14 dL_crash_8 (by decide) ?_
    refine zx_iconst (v := 0) C dL_crash_14 (by decide) ?_
    obtain ⟨rfl, rfl⟩ := ret_e hm
    exact zx_iret C rfl rfl rfl dL_crash_15
  · refine zx_catchV (σ := σ) (x9 := { startPc := 0, endPc := 8, handlerPc := 11, catchType := 13 }) C (tableOf []) (tableOf []) htab (by decide) (by decide) (by decide) (E := "java/lang/IllegalStateException") W_3_103 W_3_118 [] tC_10 k1 i2 Y_X10_crash W_6_105 W_6_106 W_6_107 (c_X10_crash h5) (by decide) (by decide) rfl (Nat.le_of_ble_eq_true rfl) dL_crash_3 rfl (fun q10 => ?_)
    refine zx_astore_n C [(2, .ref (q10)), (0, .ref (p0)), (1, .ref (p1))] dL_crash_11 rfl (by decide) rfl ?_
    refine zx_iconst (v := 1) C dL_crash_12 (by decide) ?_
    obtain ⟨rfl, rfl⟩ := ret_e hm
    exact zx_iret C rfl rfl rfl dL_crash_13
abbrev cX12_create : ByteArray := prog_13_method_74_code
def yX12_create : MethodName := ⟨"SyncTreeModel", "create", "()I"⟩
theorem Y_X12_create : tYH yX12_create cX12_create 2 (some .int) [(5, 14, 15, 425)] 0 := ⟨W_7_173, W_1_14, ⟨by decide +kernel, by decide +kernel⟩, by decide +kernel⟩
theorem dX12_create_0 : decode cX12_create 0 = .ok (.aload_n 0, 1) := by decide +kernel
theorem dX12_create_1 : decode cX12_create 1 = .ok (.iconst 0, 1) := by decide +kernel
theorem dX12_create_2 : decode cX12_create 2 = .ok (.putfield 3, 3) := by decide +kernel
theorem dX12_create_5 : decode cX12_create 5 = .ok (.aload_n 0, 1) := by decide +kernel
theorem dX12_create_6 : decode cX12_create 6 = .ok (.invokevirtual 419, 3) := by decide +kernel
theorem dX12_create_9 : decode cX12_create 9 = .ok (.aload_n 0, 1) := by decide +kernel
theorem dX12_create_10 : decode cX12_create 10 = .ok (.iconst 1, 1) := by decide +kernel
theorem dX12_create_11 : decode cX12_create 11 = .ok (.invokevirtual 422, 3) := by decide +kernel
theorem dX12_create_14 : decode cX12_create 14 = .ok (.ireturn, 1) := by decide +kernel
theorem dX12_create_15 : decode cX12_create 15 = .ok (.astore_n 1, 1) := by decide +kernel
theorem dX12_create_16 : decode cX12_create 16 = .ok (.aload_n 0, 1) := by decide +kernel
theorem dX12_create_17 : decode cX12_create 17 = .ok (.invokevirtual 427, 3) := by decide +kernel
theorem dX12_create_20 : decode cX12_create 20 = .ok (.ireturn, 1) := by decide +kernel
def m_X12_create (b0 fu : Nat) (a0 : Nat) (σ : tM) : Option ((Int32) × tM) := grw σ (ckO b0 (σ) (a0) 11 (cly (m_X12_upAhead b0 fu (a0) (sI (σ) (a0) 0 (0))) (fun v3 ρ4 => ckO b0 (ρ4) (a0) 11 (cll (m_X12_make b0 fu (a0) (1) (ρ4)) (fun v8 ρ9 => some (v8, ρ9)))) (fun ρ12 => ckO b0 (ρ12) (a0) 11 (cll (m_X12_off b0 fu (a0) (ρ12)) (fun v15 ρ16 => some (v15, ρ16))))))
set_option maxRecDepth 100000 in
set_option maxHeartbeats 1000000 in
theorem c_X12_create {l : Launch} {D : va_G} {aC : Nat → ClassId} {b0 fu : Nat} {a0 : Nat} {σ τ : tM} {v : Int32} (hm : m_X12_create b0 fu a0 σ = some (v, τ)) : tMt l D aC b0 yX12_create (Cond.codeWith yX12_create cX12_create 2 (some .int) [(5, 14, 15, 425)]) 10 242 [.ref (a0)] σ (.inl (some (.int v))) τ := by
  unfold m_X12_create at hm
  obtain ⟨hg, hm⟩ := grw_e hm
  refine tMt_ofH rfl (Nat.le_of_ble_eq_true rfl) hg ?_
  intro p e s m below meth c C htab hin
  refine zx_lv [0] [(0, .ref (a0))] rfl ?_
  refine zx_aload_n C dX12_create_0 0 rfl ?_
  refine zx_iconst (v := 0) C dX12_create_1 (by decide) ?_
  obtain ⟨k1, i2, hm⟩ := ckO_e hm
  refine zx_put (j := 0) (ρ := sI (σ) (a0) 0 (0)) C tC_11 k1 i2 ⟨by decide, Or.inl W_6_220⟩ rfl rfl rfl (sI_ok (fun _ => rfl)) dX12_create_2 ?_
  refine zx_aload_n C dX12_create_5 0 rfl ?_
  rcases cly_e hm with ⟨v3, ρ4, h5, hm⟩ | ⟨ρ12, h5, hm⟩
  · refine zx_callV (σ := sI (σ) (a0) 0 (0)) C [] tC_11 k1 i2 Y_X12_upAhead W_7_175 W_7_177 Wp_56 (c_X12_upAhead h5) (by decide) (by decide) rfl (Nat.le_of_ble_eq_true rfl) dX12_create_6 rfl ?_
    refine zx_aload_n C dX12_create_9 0 rfl ?_
    refine zx_iconst (v := 1) C dX12_create_10 (by decide) ?_
    obtain ⟨k6, i7, hm⟩ := ckO_e hm
    obtain ⟨v8, ρ9, h10, hm⟩ := cll_e hm
    refine zx_callV (σ := ρ4) C [.int (1)] tC_11 k6 i7 Y_X12_make W_8_20 W_8_22 Wp_75 (c_X12_make h10) (by decide) (by decide) rfl (Nat.le_of_ble_eq_true rfl) dX12_create_11 rfl ?_
    obtain ⟨rfl, rfl⟩ := ret_e hm
    exact zx_iret C rfl rfl rfl dX12_create_14
  · refine zx_catchV (σ := sI (σ) (a0) 0 (0)) (x9 := { startPc := 5, endPc := 14, handlerPc := 15, catchType := 425 }) C (tableOf []) (tableOf []) htab (by decide) (by decide) (by decide) (E := "SyncTreeModel$Off") W_7_174 W_9_132 [] tC_11 k1 i2 Y_X12_upAhead W_7_175 W_7_177 Wp_56 (c_X12_upAhead h5) (by decide) (by decide) rfl (Nat.le_of_ble_eq_true rfl) dX12_create_6 rfl (fun q11 => ?_)
    refine zx_astore_n C [(1, .ref (q11)), (0, .ref (a0))] dX12_create_15 rfl (by decide) rfl ?_
    refine zx_aload_n C dX12_create_16 1 rfl ?_
    obtain ⟨k13, i14, hm⟩ := ckO_e hm
    obtain ⟨v15, ρ16, h17, hm⟩ := cll_e hm
    refine zx_callV (σ := ρ12) C [] tC_11 k13 i14 Y_X12_off W_8_135 W_8_137 Wp_103 (c_X12_off h17) (by decide) (by decide) rfl (Nat.le_of_ble_eq_true rfl) dX12_create_17 rfl ?_
    obtain ⟨rfl, rfl⟩ := ret_e hm
    exact zx_iret C rfl rfl rfl dX12_create_20
abbrev cX12_mkdir : ByteArray := prog_13_method_75_code
def yX12_mkdir : MethodName := ⟨"SyncTreeModel", "mkdir", "()I"⟩
theorem Y_X12_mkdir : tYH yX12_mkdir cX12_mkdir 2 (some .int) [(5, 14, 15, 425)] 0 := ⟨W_8_142, W_1_14, ⟨by decide +kernel, by decide +kernel⟩, by decide +kernel⟩
theorem dX12_mkdir_0 : decode cX12_mkdir 0 = .ok (.aload_n 0, 1) := by decide +kernel
theorem dX12_mkdir_1 : decode cX12_mkdir 1 = .ok (.iconst 0, 1) := by decide +kernel
theorem dX12_mkdir_2 : decode cX12_mkdir 2 = .ok (.putfield 3, 3) := by decide +kernel
theorem dX12_mkdir_5 : decode cX12_mkdir 5 = .ok (.aload_n 0, 1) := by decide +kernel
theorem dX12_mkdir_6 : decode cX12_mkdir 6 = .ok (.invokevirtual 419, 3) := by decide +kernel
theorem dX12_mkdir_9 : decode cX12_mkdir 9 = .ok (.aload_n 0, 1) := by decide +kernel
theorem dX12_mkdir_10 : decode cX12_mkdir 10 = .ok (.iconst 2, 1) := by decide +kernel
theorem dX12_mkdir_11 : decode cX12_mkdir 11 = .ok (.invokevirtual 422, 3) := by decide +kernel
theorem dX12_mkdir_14 : decode cX12_mkdir 14 = .ok (.ireturn, 1) := by decide +kernel
theorem dX12_mkdir_15 : decode cX12_mkdir 15 = .ok (.astore_n 1, 1) := by decide +kernel
theorem dX12_mkdir_16 : decode cX12_mkdir 16 = .ok (.aload_n 0, 1) := by decide +kernel
theorem dX12_mkdir_17 : decode cX12_mkdir 17 = .ok (.invokevirtual 427, 3) := by decide +kernel
theorem dX12_mkdir_20 : decode cX12_mkdir 20 = .ok (.ireturn, 1) := by decide +kernel
def m_X12_mkdir (b0 fu : Nat) (a0 : Nat) (σ : tM) : Option ((Int32) × tM) := grw σ (ckO b0 (σ) (a0) 11 (cly (m_X12_upAhead b0 fu (a0) (sI (σ) (a0) 0 (0))) (fun v3 ρ4 => ckO b0 (ρ4) (a0) 11 (cll (m_X12_make b0 fu (a0) (2) (ρ4)) (fun v8 ρ9 => some (v8, ρ9)))) (fun ρ12 => ckO b0 (ρ12) (a0) 11 (cll (m_X12_off b0 fu (a0) (ρ12)) (fun v15 ρ16 => some (v15, ρ16))))))
set_option maxRecDepth 100000 in
set_option maxHeartbeats 1000000 in
theorem c_X12_mkdir {l : Launch} {D : va_G} {aC : Nat → ClassId} {b0 fu : Nat} {a0 : Nat} {σ τ : tM} {v : Int32} (hm : m_X12_mkdir b0 fu a0 σ = some (v, τ)) : tMt l D aC b0 yX12_mkdir (Cond.codeWith yX12_mkdir cX12_mkdir 2 (some .int) [(5, 14, 15, 425)]) 10 242 [.ref (a0)] σ (.inl (some (.int v))) τ := by
  unfold m_X12_mkdir at hm
  obtain ⟨hg, hm⟩ := grw_e hm
  refine tMt_ofH rfl (Nat.le_of_ble_eq_true rfl) hg ?_
  intro p e s m below meth c C htab hin
  refine zx_lv [0] [(0, .ref (a0))] rfl ?_
  refine zx_aload_n C dX12_mkdir_0 0 rfl ?_
  refine zx_iconst (v := 0) C dX12_mkdir_1 (by decide) ?_
  obtain ⟨k1, i2, hm⟩ := ckO_e hm
  refine zx_put (j := 0) (ρ := sI (σ) (a0) 0 (0)) C tC_11 k1 i2 ⟨by decide, Or.inl W_6_220⟩ rfl rfl rfl (sI_ok (fun _ => rfl)) dX12_mkdir_2 ?_
  refine zx_aload_n C dX12_mkdir_5 0 rfl ?_
  rcases cly_e hm with ⟨v3, ρ4, h5, hm⟩ | ⟨ρ12, h5, hm⟩
  · refine zx_callV (σ := sI (σ) (a0) 0 (0)) C [] tC_11 k1 i2 Y_X12_upAhead W_7_175 W_7_177 Wp_56 (c_X12_upAhead h5) (by decide) (by decide) rfl (Nat.le_of_ble_eq_true rfl) dX12_mkdir_6 rfl ?_
    refine zx_aload_n C dX12_mkdir_9 0 rfl ?_
    refine zx_iconst (v := 2) C dX12_mkdir_10 (by decide) ?_
    obtain ⟨k6, i7, hm⟩ := ckO_e hm
    obtain ⟨v8, ρ9, h10, hm⟩ := cll_e hm
    refine zx_callV (σ := ρ4) C [.int (2)] tC_11 k6 i7 Y_X12_make W_8_20 W_8_22 Wp_75 (c_X12_make h10) (by decide) (by decide) rfl (Nat.le_of_ble_eq_true rfl) dX12_mkdir_11 rfl ?_
    obtain ⟨rfl, rfl⟩ := ret_e hm
    exact zx_iret C rfl rfl rfl dX12_mkdir_14
  · refine zx_catchV (σ := sI (σ) (a0) 0 (0)) (x9 := { startPc := 5, endPc := 14, handlerPc := 15, catchType := 425 }) C (tableOf []) (tableOf []) htab (by decide) (by decide) (by decide) (E := "SyncTreeModel$Off") W_7_174 W_9_132 [] tC_11 k1 i2 Y_X12_upAhead W_7_175 W_7_177 Wp_56 (c_X12_upAhead h5) (by decide) (by decide) rfl (Nat.le_of_ble_eq_true rfl) dX12_mkdir_6 rfl (fun q11 => ?_)
    refine zx_astore_n C [(1, .ref (q11)), (0, .ref (a0))] dX12_mkdir_15 rfl (by decide) rfl ?_
    refine zx_aload_n C dX12_mkdir_16 1 rfl ?_
    obtain ⟨k13, i14, hm⟩ := ckO_e hm
    obtain ⟨v15, ρ16, h17, hm⟩ := cll_e hm
    refine zx_callV (σ := ρ12) C [] tC_11 k13 i14 Y_X12_off W_8_135 W_8_137 Wp_103 (c_X12_off h17) (by decide) (by decide) rfl (Nat.le_of_ble_eq_true rfl) dX12_mkdir_17 rfl ?_
    obtain ⟨rfl, rfl⟩ := ret_e hm
    exact zx_iret C rfl rfl rfl dX12_mkdir_20
abbrev cX12_symlink : ByteArray := prog_13_method_76_code
def yX12_symlink : MethodName := ⟨"SyncTreeModel", "symlink", "()I"⟩
theorem Y_X12_symlink : tYH yX12_symlink cX12_symlink 3 (some .int) [(5, 32, 93, 425), (33, 44, 93, 425), (45, 92, 93, 425)] 0 := ⟨W_8_146, W_1_14, ⟨by decide +kernel, by decide +kernel⟩, by decide +kernel⟩
theorem dX12_symlink_0 : decode cX12_symlink 0 = .ok (.aload_n 0, 1) := by decide +kernel
theorem dX12_symlink_1 : decode cX12_symlink 1 = .ok (.iconst 0, 1) := by decide +kernel
theorem dX12_symlink_2 : decode cX12_symlink 2 = .ok (.putfield 3, 3) := by decide +kernel
theorem dX12_symlink_5 : decode cX12_symlink 5 = .ok (.aload_n 0, 1) := by decide +kernel
theorem dX12_symlink_6 : decode cX12_symlink 6 = .ok (.invokevirtual 419, 3) := by decide +kernel
theorem dX12_symlink_9 : decode cX12_symlink 9 = .ok (.aload_n 0, 1) := by decide +kernel
theorem dX12_symlink_10 : decode cX12_symlink 10 = .ok (.getfield 346, 3) := by decide +kernel
theorem dX12_symlink_13 : decode cX12_symlink 13 = .ok (.iconst 1, 1) := by decide +kernel
theorem dX12_symlink_14 : decode cX12_symlink 14 = .ok (.iaload, 1) := by decide +kernel
theorem dX12_symlink_15 : decode cX12_symlink 15 = .ok (.iconst 1, 1) := by decide +kernel
theorem dX12_symlink_16 : decode cX12_symlink 16 = .ok (.if_icmp .lt 14, 3) := by decide +kernel
theorem dX12_symlink_19 : decode cX12_symlink 19 = .ok (.aload_n 0, 1) := by decide +kernel
theorem dX12_symlink_20 : decode cX12_symlink 20 = .ok (.getfield 346, 3) := by decide +kernel
theorem dX12_symlink_23 : decode cX12_symlink 23 = .ok (.iconst 1, 1) := by decide +kernel
theorem dX12_symlink_24 : decode cX12_symlink 24 = .ok (.iaload, 1) := by decide +kernel
theorem dX12_symlink_25 : decode cX12_symlink 25 = .ok (.bipush 80, 2) := by decide +kernel
theorem dX12_symlink_27 : decode cX12_symlink 27 = .ok (.if_icmp .le 6, 3) := by decide +kernel
theorem dX12_symlink_30 : decode cX12_symlink 30 = .ok (.bipush (-9), 2) := by decide +kernel
theorem dX12_symlink_32 : decode cX12_symlink 32 = .ok (.ireturn, 1) := by decide +kernel
theorem dX12_symlink_33 : decode cX12_symlink 33 = .ok (.aload_n 0, 1) := by decide +kernel
theorem dX12_symlink_34 : decode cX12_symlink 34 = .ok (.iconst 3, 1) := by decide +kernel
theorem dX12_symlink_35 : decode cX12_symlink 35 = .ok (.invokevirtual 422, 3) := by decide +kernel
theorem dX12_symlink_38 : decode cX12_symlink 38 = .ok (.istore_n 1, 1) := by decide +kernel
theorem dX12_symlink_39 : decode cX12_symlink 39 = .ok (.iload_n 1, 1) := by decide +kernel
theorem dX12_symlink_40 : decode cX12_symlink 40 = .ok (.ifCond .ge 5, 3) := by decide +kernel
theorem dX12_symlink_43 : decode cX12_symlink 43 = .ok (.iload_n 1, 1) := by decide +kernel
theorem dX12_symlink_44 : decode cX12_symlink 44 = .ok (.ireturn, 1) := by decide +kernel
theorem dX12_symlink_45 : decode cX12_symlink 45 = .ok (.aload_n 0, 1) := by decide +kernel
theorem dX12_symlink_46 : decode cX12_symlink 46 = .ok (.iload_n 1, 1) := by decide +kernel
theorem dX12_symlink_47 : decode cX12_symlink 47 = .ok (.iconst 4, 1) := by decide +kernel
theorem dX12_symlink_48 : decode cX12_symlink 48 = .ok (.aload_n 0, 1) := by decide +kernel
theorem dX12_symlink_49 : decode cX12_symlink 49 = .ok (.getfield 346, 3) := by decide +kernel
theorem dX12_symlink_52 : decode cX12_symlink 52 = .ok (.iconst 1, 1) := by decide +kernel
theorem dX12_symlink_53 : decode cX12_symlink 53 = .ok (.iaload, 1) := by decide +kernel
theorem dX12_symlink_54 : decode cX12_symlink 54 = .ok (.invokevirtual 266, 3) := by decide +kernel
theorem dX12_symlink_57 : decode cX12_symlink 57 = .ok (.iconst 0, 1) := by decide +kernel
theorem dX12_symlink_58 : decode cX12_symlink 58 = .ok (.istore_n 2, 1) := by decide +kernel
theorem dX12_symlink_59 : decode cX12_symlink 59 = .ok (.iload_n 2, 1) := by decide +kernel
theorem dX12_symlink_60 : decode cX12_symlink 60 = .ok (.aload_n 0, 1) := by decide +kernel
theorem dX12_symlink_61 : decode cX12_symlink 61 = .ok (.getfield 346, 3) := by decide +kernel
theorem dX12_symlink_64 : decode cX12_symlink 64 = .ok (.iconst 1, 1) := by decide +kernel
theorem dX12_symlink_65 : decode cX12_symlink 65 = .ok (.iaload, 1) := by decide +kernel
theorem dX12_symlink_66 : decode cX12_symlink 66 = .ok (.if_icmp .ge 25, 3) := by decide +kernel
theorem dX12_symlink_69 : decode cX12_symlink 69 = .ok (.aload_n 0, 1) := by decide +kernel
theorem dX12_symlink_70 : decode cX12_symlink 70 = .ok (.iload_n 1, 1) := by decide +kernel
theorem dX12_symlink_71 : decode cX12_symlink 71 = .ok (.iconst 5, 1) := by decide +kernel
theorem dX12_symlink_72 : decode cX12_symlink 72 = .ok (.iload_n 2, 1) := by decide +kernel
theorem dX12_symlink_73 : decode cX12_symlink 73 = .ok (.iadd, 1) := by decide +kernel
theorem dX12_symlink_74 : decode cX12_symlink 74 = .ok (.aload_n 0, 1) := by decide +kernel
theorem dX12_symlink_75 : decode cX12_symlink 75 = .ok (.getfield 323, 3) := by decide +kernel
theorem dX12_symlink_78 : decode cX12_symlink 78 = .ok (.iconst 1, 1) := by decide +kernel
theorem dX12_symlink_79 : decode cX12_symlink 79 = .ok (.aaload, 1) := by decide +kernel
theorem dX12_symlink_80 : decode cX12_symlink 80 = .ok (.iload_n 2, 1) := by decide +kernel
theorem dX12_symlink_81 : decode cX12_symlink 81 = .ok (.baload, 1) := by decide +kernel
theorem dX12_symlink_82 : decode cX12_symlink 82 = .ok (.invokevirtual 266, 3) := by decide +kernel
theorem dX12_symlink_85 : decode cX12_symlink 85 = .ok (.iinc 2 1, 3) := by decide +kernel
theorem dX12_symlink_88 : decode cX12_symlink 88 = .ok (.goto (-29), 3) := by decide +kernel
theorem dX12_symlink_91 : decode cX12_symlink 91 = .ok (.iload_n 1, 1) := by decide +kernel
theorem dX12_symlink_92 : decode cX12_symlink 92 = .ok (.ireturn, 1) := by decide +kernel
theorem dX12_symlink_93 : decode cX12_symlink 93 = .ok (.astore_n 1, 1) := by decide +kernel
theorem dX12_symlink_94 : decode cX12_symlink 94 = .ok (.aload_n 0, 1) := by decide +kernel
theorem dX12_symlink_95 : decode cX12_symlink 95 = .ok (.invokevirtual 427, 3) := by decide +kernel
theorem dX12_symlink_98 : decode cX12_symlink 98 = .ok (.ireturn, 1) := by decide +kernel
def J_X12_symlink_30 (b0 fu : Nat)   (σ : tM) : Option ((Int32) × tM) := some ((-9), σ)
def L_X12_symlink_59 (b0 fu : Nat)  : Nat → Nat → Int32 → Int32 → tM → Option ((Int32) × tM)
  | 0, _, _, _, _ => none
  | n + 1, x0, x1, x2, σ => ltb (L_X12_symlink_59 b0 fu  n) (fun rc59 => ckO b0 (σ) (x0) 11 (osm (tA (σ) (x0) 48) (fun a39 => ckR b0 (σ) (a39) 0 (fun n43 => ckI (1) (n43) (if (tI (σ) (a39) (((1 : Int32)).toNatClampNeg)) ≤ (x2) then some (x1, σ) else osm (tA (σ) (x0) 47) (fun a46 => ckR b0 (σ) (a46) 5 (fun n50 => ckI (1) (n50) (osm (tA (σ) (a46) (((1 : Int32)).toNatClampNeg)) (fun a52 => ckR b0 (σ) (a52) 1 (fun n56 => ckI (x2) (n56) (cll (m_X12_putNode b0 fu (x0) (x1) ((5) + (x2)) (tI (σ) (a52) ((x2).toNatClampNeg)) (σ)) (fun v58 ρ59 => ltb ((x2) + Int32.ofInt 1) (fun y61 => rc59 (x0) (x1) (y61) (ρ59))))))))))))))
def m_X12_symlink (b0 fu : Nat) (a0 : Nat) (σ : tM) : Option ((Int32) × tM) := grw σ (ckO b0 (σ) (a0) 11 (cly (m_X12_upAhead b0 fu (a0) (sI (σ) (a0) 0 (0))) (fun v3 ρ4 => ckO b0 (ρ4) (a0) 11 (osm (tA (ρ4) (a0) 48) (fun a8 => ckR b0 (ρ4) (a8) 0 (fun n12 => ckI (1) (n12) (if (tI (ρ4) (a8) (((1 : Int32)).toNatClampNeg)) < (1) then J_X12_symlink_30 b0 fu    (ρ4) else osm (tA (ρ4) (a0) 48) (fun a15 => ckR b0 (ρ4) (a15) 0 (fun n19 => ckI (1) (n19) (if (tI (ρ4) (a15) (((1 : Int32)).toNatClampNeg)) ≤ (80) then cll (m_X12_make b0 fu (a0) (3) (ρ4)) (fun v22 ρ23 => if (0) ≤ (v22) then ckO b0 (ρ23) (a0) 11 (osm (tA (ρ23) (a0) 48) (fun a28 => ckR b0 (ρ23) (a28) 0 (fun n32 => ckI (1) (n32) (cll (m_X12_putNode b0 fu (a0) (v22) (4) (tI (ρ23) (a28) (((1 : Int32)).toNatClampNeg)) (ρ23)) (fun v34 ρ35 => L_X12_symlink_59 b0 fu  (fu) (a0) (v22) (0) (ρ35)))))) else some (v22, ρ23)) else J_X12_symlink_30 b0 fu    (ρ4))))))))) (fun ρ63 => ckO b0 (ρ63) (a0) 11 (cll (m_X12_off b0 fu (a0) (ρ63)) (fun v66 ρ67 => some (v66, ρ67))))))
set_option maxRecDepth 100000 in
set_option maxHeartbeats 1000000 in
theorem j_X12_symlink_30 {p : Program} {l : Launch} {e : Env} {s : State} {m : MethodId} {args : Array Value} {below : List Frame} {meth : Method} {c : Code} {D : va_G} {aC : Nat → ClassId} {b0 fu : Nat} {σ0 τ : tM} {v : Int32}  (C : tCx p l s m args meth c yX12_symlink.cls cX12_symlink 3 (some .int) D aC b0 σ0) (htab : c.exceptionTable.toList = tableOf [(5, 32, 93, 425), (33, 44, 93, 425), (45, 92, 93, 425)]) (hin : meth.name = yX12_symlink.name)   {σ : tM} (hm : J_X12_symlink_30 b0 fu   σ = some (v, τ)) : tX p l e s m args below meth c 3 10 242 D aC b0 σ0 (.inl (some (.int v))) τ 30 [] [] σ := by
  unfold J_X12_symlink_30 at hm
  refine zx_bipush (v := (-9)) C dX12_symlink_30 (by decide) ?_
  obtain ⟨rfl, rfl⟩ := ret_e hm
  exact zx_iret C rfl rfl rfl dX12_symlink_32
set_option maxRecDepth 100000 in
set_option maxHeartbeats 1000000 in
theorem l_X12_symlink_59 {p : Program} {l : Launch} {e : Env} {s : State} {m : MethodId} {args : Array Value} {below : List Frame} {meth : Method} {c : Code} {D : va_G} {aC : Nat → ClassId} {b0 fu : Nat} {σ0 τ : tM} {v : Int32}  (C : tCx p l s m args meth c yX12_symlink.cls cX12_symlink 3 (some .int) D aC b0 σ0) (htab : c.exceptionTable.toList = tableOf [(5, 32, 93, 425), (33, 44, 93, 425), (45, 92, 93, 425)]) (hin : meth.name = yX12_symlink.name)  : ∀ (n : Nat) (x0 : Nat) (x1 : Int32) (x2 : Int32) (σ : tM), L_X12_symlink_59 b0 fu  n x0 x1 x2 σ = some (v, τ) → tX p l e s m args below meth c 3 10 242 D aC b0 σ0 (.inl (some (.int v))) τ 59 [(0, .ref (x0)), (1, .int (x1)), (2, .int (x2))] [] σ := by
  intro n
  induction n with
  | zero => intro x0 x1 x2 σ hm; unfold L_X12_symlink_59 at hm; cases hm
  | succ n ih =>
    intro x0 x1 x2 σ hm
    unfold L_X12_symlink_59 at hm
    obtain ⟨rc59, hrc⟩ : ∃ z, z = L_X12_symlink_59 b0 fu  n := ⟨_, rfl⟩
    replace hm := ltb_e hm hrc
    rw [← hrc] at ih
    have hrc59 := ih
    clear ih hrc
    refine zx_iload_n C dX12_symlink_59 2 rfl ?_
    refine zx_aload_n C dX12_symlink_60 0 rfl ?_
    obtain ⟨k37, i38, hm⟩ := ckO_e hm
    obtain ⟨a39, h40, hm⟩ := osm_e hm
    refine zx_get (j := 48) C tC_11 k37 i38 ⟨by decide, Or.inl W_7_27⟩ dX12_symlink_61 (.ref a39) (rf_s h40) ?_
    refine zx_iconst (v := 1) C dX12_symlink_64 (by decide) ?_
    obtain ⟨n43, k41, i42, hm⟩ := ckR_e hm
    obtain ⟨h44, hm⟩ := ckI_e hm
    refine zx_iald C k41 i42 h44 dX12_symlink_65 ?_
    refine zx_icmp_ge C 91 dX12_symlink_66 (by decide) (fun c45 => ?_) (fun c45 => ?_)
    · replace hm := ip_e hm c45
      refine zx_iload_n C dX12_symlink_91 1 rfl ?_
      obtain ⟨rfl, rfl⟩ := ret_e hm
      exact zx_iret C rfl rfl rfl dX12_symlink_92
    · replace hm := in_e hm c45
      refine zx_aload_n C dX12_symlink_69 0 rfl ?_
      refine zx_iload_n C dX12_symlink_70 1 rfl ?_
      refine zx_iconst (v := 5) C dX12_symlink_71 (by decide) ?_
      refine zx_iload_n C dX12_symlink_72 2 rfl ?_
      refine zx_iadd C dX12_symlink_73 ?_
      refine zx_aload_n C dX12_symlink_74 0 rfl ?_
      obtain ⟨a46, h47, hm⟩ := osm_e hm
      refine zx_get (j := 47) C tC_11 k37 i38 ⟨by decide, Or.inl W_7_26⟩ dX12_symlink_75 (.ref a46) (rf_s h47) ?_
      refine zx_iconst (v := 1) C dX12_symlink_78 (by decide) ?_
      obtain ⟨n50, k48, i49, hm⟩ := ckR_e hm
      obtain ⟨h51, hm⟩ := ckI_e hm
      obtain ⟨a52, h53, hm⟩ := osm_e hm
      refine zx_aald5 C k48 i49 h51 dX12_symlink_79 (.ref a52) (rf_s h53) ?_
      refine zx_iload_n C dX12_symlink_80 2 rfl ?_
      obtain ⟨n56, k54, i55, hm⟩ := ckR_e hm
      obtain ⟨h57, hm⟩ := ckI_e hm
      refine zx_bald C k54 i55 h57 dX12_symlink_81 ?_
      obtain ⟨v58, ρ59, h60, hm⟩ := cll_e hm
      refine zx_callV (σ := σ) C [.int (x1), .int ((5) + (x2)), .int (tI (σ) (a52) ((x2).toNatClampNeg))] tC_11 k37 i38 Y_X12_putNode W_8_99 W_8_101 Wp_94 (c_X12_putNode h60) (by decide) (by decide) rfl (Nat.le_of_ble_eq_true rfl) dX12_symlink_82 rfl ?_
      obtain ⟨y61, hy61⟩ : ∃ z : Int32, z = (x2) + Int32.ofInt 1 := ⟨_, rfl⟩
      replace hm := ltb_e hm hy61
      refine zx_iinc C [(2, .int (y61)), (0, .ref (x0)), (1, .int (x1))] dX12_symlink_85 2 rfl hy61.symm (by decide) rfl ?_
      refine zx_goto C 59 dX12_symlink_88 (by decide) ?_
      exact zx_lv [1, 2, 0] [(0, .ref (x0)), (1, .int (x1)), (2, .int (y61))] rfl (hrc59 _ _ _ _ hm)
set_option maxRecDepth 100000 in
set_option maxHeartbeats 1000000 in
theorem c_X12_symlink {l : Launch} {D : va_G} {aC : Nat → ClassId} {b0 fu : Nat} {a0 : Nat} {σ τ : tM} {v : Int32} (hm : m_X12_symlink b0 fu a0 σ = some (v, τ)) : tMt l D aC b0 yX12_symlink (Cond.codeWith yX12_symlink cX12_symlink 3 (some .int) [(5, 32, 93, 425), (33, 44, 93, 425), (45, 92, 93, 425)]) 10 242 [.ref (a0)] σ (.inl (some (.int v))) τ := by
  unfold m_X12_symlink at hm
  obtain ⟨hg, hm⟩ := grw_e hm
  refine tMt_ofH rfl (Nat.le_of_ble_eq_true rfl) hg ?_
  intro p e s m below meth c C htab hin
  refine zx_lv [0] [(0, .ref (a0))] rfl ?_
  refine zx_aload_n C dX12_symlink_0 0 rfl ?_
  refine zx_iconst (v := 0) C dX12_symlink_1 (by decide) ?_
  obtain ⟨k1, i2, hm⟩ := ckO_e hm
  refine zx_put (j := 0) (ρ := sI (σ) (a0) 0 (0)) C tC_11 k1 i2 ⟨by decide, Or.inl W_6_220⟩ rfl rfl rfl (sI_ok (fun _ => rfl)) dX12_symlink_2 ?_
  refine zx_aload_n C dX12_symlink_5 0 rfl ?_
  rcases cly_e hm with ⟨v3, ρ4, h5, hm⟩ | ⟨ρ63, h5, hm⟩
  · refine zx_callV (σ := sI (σ) (a0) 0 (0)) C [] tC_11 k1 i2 Y_X12_upAhead W_7_175 W_7_177 Wp_56 (c_X12_upAhead h5) (by decide) (by decide) rfl (Nat.le_of_ble_eq_true rfl) dX12_symlink_6 rfl ?_
    refine zx_aload_n C dX12_symlink_9 0 rfl ?_
    obtain ⟨k6, i7, hm⟩ := ckO_e hm
    obtain ⟨a8, h9, hm⟩ := osm_e hm
    refine zx_get (j := 48) C tC_11 k6 i7 ⟨by decide, Or.inl W_7_27⟩ dX12_symlink_10 (.ref a8) (rf_s h9) ?_
    refine zx_iconst (v := 1) C dX12_symlink_13 (by decide) ?_
    obtain ⟨n12, k10, i11, hm⟩ := ckR_e hm
    obtain ⟨h13, hm⟩ := ckI_e hm
    refine zx_iald C k10 i11 h13 dX12_symlink_14 ?_
    refine zx_iconst (v := 1) C dX12_symlink_15 (by decide) ?_
    refine zx_icmp_lt C 30 dX12_symlink_16 (by decide) (fun c14 => ?_) (fun c14 => ?_)
    · replace hm := ip_e hm c14
      exact zx_lv [] [] rfl (j_X12_symlink_30 C htab hin    hm)
    · replace hm := in_e hm c14
      refine zx_aload_n C dX12_symlink_19 0 rfl ?_
      obtain ⟨a15, h16, hm⟩ := osm_e hm
      refine zx_get (j := 48) C tC_11 k6 i7 ⟨by decide, Or.inl W_7_27⟩ dX12_symlink_20 (.ref a15) (rf_s h16) ?_
      refine zx_iconst (v := 1) C dX12_symlink_23 (by decide) ?_
      obtain ⟨n19, k17, i18, hm⟩ := ckR_e hm
      obtain ⟨h20, hm⟩ := ckI_e hm
      refine zx_iald C k17 i18 h20 dX12_symlink_24 ?_
      refine zx_bipush (v := 80) C dX12_symlink_25 (by decide) ?_
      refine zx_icmp_le C 33 dX12_symlink_27 (by decide) (fun c21 => ?_) (fun c21 => ?_)
      · replace hm := ip_e hm c21
        refine zx_aload_n C dX12_symlink_33 0 rfl ?_
        refine zx_iconst (v := 3) C dX12_symlink_34 (by decide) ?_
        obtain ⟨v22, ρ23, h24, hm⟩ := cll_e hm
        refine zx_callV (σ := ρ4) C [.int (3)] tC_11 k6 i7 Y_X12_make W_8_20 W_8_22 Wp_75 (c_X12_make h24) (by decide) (by decide) rfl (Nat.le_of_ble_eq_true rfl) dX12_symlink_35 rfl ?_
        refine zx_istore_n C [(1, .int (v22)), (0, .ref (a0))] dX12_symlink_38 rfl (by decide) rfl ?_
        refine zx_iload_n C dX12_symlink_39 0 rfl ?_
        refine zx_if_ge C 45 dX12_symlink_40 (by decide) (fun c25 => ?_) (fun c25 => ?_)
        · replace hm := ip_e hm c25
          refine zx_aload_n C dX12_symlink_45 1 rfl ?_
          refine zx_iload_n C dX12_symlink_46 0 rfl ?_
          refine zx_iconst (v := 4) C dX12_symlink_47 (by decide) ?_
          refine zx_aload_n C dX12_symlink_48 1 rfl ?_
          obtain ⟨k26, i27, hm⟩ := ckO_e hm
          obtain ⟨a28, h29, hm⟩ := osm_e hm
          refine zx_get (j := 48) C tC_11 k26 i27 ⟨by decide, Or.inl W_7_27⟩ dX12_symlink_49 (.ref a28) (rf_s h29) ?_
          refine zx_iconst (v := 1) C dX12_symlink_52 (by decide) ?_
          obtain ⟨n32, k30, i31, hm⟩ := ckR_e hm
          obtain ⟨h33, hm⟩ := ckI_e hm
          refine zx_iald C k30 i31 h33 dX12_symlink_53 ?_
          obtain ⟨v34, ρ35, h36, hm⟩ := cll_e hm
          refine zx_callV (σ := ρ23) C [.int (v22), .int (4), .int (tI (ρ23) (a28) (((1 : Int32)).toNatClampNeg))] tC_11 k26 i27 Y_X12_putNode W_8_99 W_8_101 Wp_94 (c_X12_putNode h36) (by decide) (by decide) rfl (Nat.le_of_ble_eq_true rfl) dX12_symlink_54 rfl ?_
          refine zx_iconst (v := 0) C dX12_symlink_57 (by decide) ?_
          refine zx_istore_n C [(2, .int (0)), (1, .int (v22)), (0, .ref (a0))] dX12_symlink_58 rfl (by decide) rfl ?_
          exact zx_lv [2, 1, 0] [(0, .ref (a0)), (1, .int (v22)), (2, .int (0))] rfl (l_X12_symlink_59 C htab hin  _ _ _ _ _ hm)
        · replace hm := in_e hm c25
          refine zx_iload_n C dX12_symlink_43 0 rfl ?_
          obtain ⟨rfl, rfl⟩ := ret_e hm
          exact zx_iret C rfl rfl rfl dX12_symlink_44
      · replace hm := in_e hm c21
        exact zx_lv [] [] rfl (j_X12_symlink_30 C htab hin    hm)
  · refine zx_catchV (σ := sI (σ) (a0) 0 (0)) (x9 := { startPc := 5, endPc := 32, handlerPc := 93, catchType := 425 }) C (tableOf []) (tableOf [(33, 44, 93, 425), (45, 92, 93, 425)]) htab (by decide) (by decide) (by decide) (E := "SyncTreeModel$Off") W_7_174 W_9_132 [] tC_11 k1 i2 Y_X12_upAhead W_7_175 W_7_177 Wp_56 (c_X12_upAhead h5) (by decide) (by decide) rfl (Nat.le_of_ble_eq_true rfl) dX12_symlink_6 rfl (fun q62 => ?_)
    refine zx_astore_n C [(1, .ref (q62)), (0, .ref (a0))] dX12_symlink_93 rfl (by decide) rfl ?_
    refine zx_aload_n C dX12_symlink_94 1 rfl ?_
    obtain ⟨k64, i65, hm⟩ := ckO_e hm
    obtain ⟨v66, ρ67, h68, hm⟩ := cll_e hm
    refine zx_callV (σ := ρ63) C [] tC_11 k64 i65 Y_X12_off W_8_135 W_8_137 Wp_103 (c_X12_off h68) (by decide) (by decide) rfl (Nat.le_of_ble_eq_true rfl) dX12_symlink_95 rfl ?_
    obtain ⟨rfl, rfl⟩ := ret_e hm
    exact zx_iret C rfl rfl rfl dX12_symlink_98
abbrev cX12_link : ByteArray := prog_13_method_77_code
def yX12_link : MethodName := ⟨"SyncTreeModel", "link", "()I"⟩
theorem Y_X12_link : tYH yX12_link cX12_link 3 (some .int) [(5, 21, 140, 425), (22, 34, 140, 425), (35, 46, 140, 425), (47, 66, 140, 425), (67, 78, 140, 425), (79, 93, 140, 425), (94, 104, 140, 425), (105, 139, 140, 425)] 0 := ⟨W_8_150, W_1_14, ⟨by decide +kernel, by decide +kernel⟩, by decide +kernel⟩
theorem dX12_link_0 : decode cX12_link 0 = .ok (.aload_n 0, 1) := by decide +kernel
theorem dX12_link_1 : decode cX12_link 1 = .ok (.iconst 0, 1) := by decide +kernel
theorem dX12_link_2 : decode cX12_link 2 = .ok (.putfield 3, 3) := by decide +kernel
theorem dX12_link_5 : decode cX12_link 5 = .ok (.aload_n 0, 1) := by decide +kernel
theorem dX12_link_6 : decode cX12_link 6 = .ok (.invokevirtual 419, 3) := by decide +kernel
theorem dX12_link_9 : decode cX12_link 9 = .ok (.aload_n 0, 1) := by decide +kernel
theorem dX12_link_10 : decode cX12_link 10 = .ok (.iconst 1, 1) := by decide +kernel
theorem dX12_link_11 : decode cX12_link 11 = .ok (.iconst 0, 1) := by decide +kernel
theorem dX12_link_12 : decode cX12_link 12 = .ok (.invokevirtual 430, 3) := by decide +kernel
theorem dX12_link_15 : decode cX12_link 15 = .ok (.istore_n 1, 1) := by decide +kernel
theorem dX12_link_16 : decode cX12_link 16 = .ok (.iload_n 1, 1) := by decide +kernel
theorem dX12_link_17 : decode cX12_link 17 = .ok (.ifCond .ge 5, 3) := by decide +kernel
theorem dX12_link_20 : decode cX12_link 20 = .ok (.iload_n 1, 1) := by decide +kernel
theorem dX12_link_21 : decode cX12_link 21 = .ok (.ireturn, 1) := by decide +kernel
theorem dX12_link_22 : decode cX12_link 22 = .ok (.aload_n 0, 1) := by decide +kernel
theorem dX12_link_23 : decode cX12_link 23 = .ok (.iload_n 1, 1) := by decide +kernel
theorem dX12_link_24 : decode cX12_link 24 = .ok (.iconst 0, 1) := by decide +kernel
theorem dX12_link_25 : decode cX12_link 25 = .ok (.invokevirtual 247, 3) := by decide +kernel
theorem dX12_link_28 : decode cX12_link 28 = .ok (.iconst 2, 1) := by decide +kernel
theorem dX12_link_29 : decode cX12_link 29 = .ok (.if_icmp .ne 6, 3) := by decide +kernel
theorem dX12_link_32 : decode cX12_link 32 = .ok (.bipush (-4), 2) := by decide +kernel
theorem dX12_link_34 : decode cX12_link 34 = .ok (.ireturn, 1) := by decide +kernel
theorem dX12_link_35 : decode cX12_link 35 = .ok (.aload_n 0, 1) := by decide +kernel
theorem dX12_link_36 : decode cX12_link 36 = .ok (.iconst 0, 1) := by decide +kernel
theorem dX12_link_37 : decode cX12_link 37 = .ok (.invokevirtual 409, 3) := by decide +kernel
theorem dX12_link_40 : decode cX12_link 40 = .ok (.istore_n 2, 1) := by decide +kernel
theorem dX12_link_41 : decode cX12_link 41 = .ok (.iload_n 2, 1) := by decide +kernel
theorem dX12_link_42 : decode cX12_link 42 = .ok (.ifCond .ge 5, 3) := by decide +kernel
theorem dX12_link_45 : decode cX12_link 45 = .ok (.iload_n 2, 1) := by decide +kernel
theorem dX12_link_46 : decode cX12_link 46 = .ok (.ireturn, 1) := by decide +kernel
theorem dX12_link_47 : decode cX12_link 47 = .ok (.aload_n 0, 1) := by decide +kernel
theorem dX12_link_48 : decode cX12_link 48 = .ok (.iload_n 2, 1) := by decide +kernel
theorem dX12_link_49 : decode cX12_link 49 = .ok (.aload_n 0, 1) := by decide +kernel
theorem dX12_link_50 : decode cX12_link 50 = .ok (.getfield 358, 3) := by decide +kernel
theorem dX12_link_53 : decode cX12_link 53 = .ok (.iconst 0, 1) := by decide +kernel
theorem dX12_link_54 : decode cX12_link 54 = .ok (.aload_n 0, 1) := by decide +kernel
theorem dX12_link_55 : decode cX12_link 55 = .ok (.getfield 355, 3) := by decide +kernel
theorem dX12_link_58 : decode cX12_link 58 = .ok (.invokevirtual 339, 3) := by decide +kernel
theorem dX12_link_61 : decode cX12_link 61 = .ok (.ifCond .lt 6, 3) := by decide +kernel
theorem dX12_link_64 : decode cX12_link 64 = .ok (.bipush (-2), 2) := by decide +kernel
theorem dX12_link_66 : decode cX12_link 66 = .ok (.ireturn, 1) := by decide +kernel
theorem dX12_link_67 : decode cX12_link 67 = .ok (.aload_n 0, 1) := by decide +kernel
theorem dX12_link_68 : decode cX12_link 68 = .ok (.getfield 355, 3) := by decide +kernel
theorem dX12_link_71 : decode cX12_link 71 = .ok (.bipush 28, 2) := by decide +kernel
theorem dX12_link_73 : decode cX12_link 73 = .ok (.if_icmp .le 6, 3) := by decide +kernel
theorem dX12_link_76 : decode cX12_link 76 = .ok (.bipush (-7), 2) := by decide +kernel
theorem dX12_link_78 : decode cX12_link 78 = .ok (.ireturn, 1) := by decide +kernel
theorem dX12_link_79 : decode cX12_link 79 = .ok (.aload_n 0, 1) := by decide +kernel
theorem dX12_link_80 : decode cX12_link 80 = .ok (.iload_n 1, 1) := by decide +kernel
theorem dX12_link_81 : decode cX12_link 81 = .ok (.iconst 2, 1) := by decide +kernel
theorem dX12_link_82 : decode cX12_link 82 = .ok (.invokevirtual 247, 3) := by decide +kernel
theorem dX12_link_85 : decode cX12_link 85 = .ok (.sipush 200, 3) := by decide +kernel
theorem dX12_link_88 : decode cX12_link 88 = .ok (.if_icmp .ne 6, 3) := by decide +kernel
theorem dX12_link_91 : decode cX12_link 91 = .ok (.bipush (-10), 2) := by decide +kernel
theorem dX12_link_93 : decode cX12_link 93 = .ok (.ireturn, 1) := by decide +kernel
theorem dX12_link_94 : decode cX12_link 94 = .ok (.aload_n 0, 1) := by decide +kernel
theorem dX12_link_95 : decode cX12_link 95 = .ok (.iload_n 2, 1) := by decide +kernel
theorem dX12_link_96 : decode cX12_link 96 = .ok (.invokevirtual 412, 3) := by decide +kernel
theorem dX12_link_99 : decode cX12_link 99 = .ok (.ifCond .eq 6, 3) := by decide +kernel
theorem dX12_link_102 : decode cX12_link 102 = .ok (.bipush (-6), 2) := by decide +kernel
theorem dX12_link_104 : decode cX12_link 104 = .ok (.ireturn, 1) := by decide +kernel
theorem dX12_link_105 : decode cX12_link 105 = .ok (.aload_n 0, 1) := by decide +kernel
theorem dX12_link_106 : decode cX12_link 106 = .ok (.iload_n 2, 1) := by decide +kernel
theorem dX12_link_107 : decode cX12_link 107 = .ok (.aload_n 0, 1) := by decide +kernel
theorem dX12_link_108 : decode cX12_link 108 = .ok (.getfield 358, 3) := by decide +kernel
theorem dX12_link_111 : decode cX12_link 111 = .ok (.aload_n 0, 1) := by decide +kernel
theorem dX12_link_112 : decode cX12_link 112 = .ok (.getfield 355, 3) := by decide +kernel
theorem dX12_link_115 : decode cX12_link 115 = .ok (.iload_n 1, 1) := by decide +kernel
theorem dX12_link_116 : decode cX12_link 116 = .ok (.invokevirtual 415, 3) := by decide +kernel
theorem dX12_link_119 : decode cX12_link 119 = .ok (.aload_n 0, 1) := by decide +kernel
theorem dX12_link_120 : decode cX12_link 120 = .ok (.iload_n 1, 1) := by decide +kernel
theorem dX12_link_121 : decode cX12_link 121 = .ok (.iconst 2, 1) := by decide +kernel
theorem dX12_link_122 : decode cX12_link 122 = .ok (.aload_n 0, 1) := by decide +kernel
theorem dX12_link_123 : decode cX12_link 123 = .ok (.iload_n 1, 1) := by decide +kernel
theorem dX12_link_124 : decode cX12_link 124 = .ok (.iconst 2, 1) := by decide +kernel
theorem dX12_link_125 : decode cX12_link 125 = .ok (.invokevirtual 247, 3) := by decide +kernel
theorem dX12_link_128 : decode cX12_link 128 = .ok (.iconst 1, 1) := by decide +kernel
theorem dX12_link_129 : decode cX12_link 129 = .ok (.iadd, 1) := by decide +kernel
theorem dX12_link_130 : decode cX12_link 130 = .ok (.invokevirtual 266, 3) := by decide +kernel
theorem dX12_link_133 : decode cX12_link 133 = .ok (.aload_n 0, 1) := by decide +kernel
theorem dX12_link_134 : decode cX12_link 134 = .ok (.iload_n 1, 1) := by decide +kernel
theorem dX12_link_135 : decode cX12_link 135 = .ok (.iconst 2, 1) := by decide +kernel
theorem dX12_link_136 : decode cX12_link 136 = .ok (.invokevirtual 247, 3) := by decide +kernel
theorem dX12_link_139 : decode cX12_link 139 = .ok (.ireturn, 1) := by decide +kernel
theorem dX12_link_140 : decode cX12_link 140 = .ok (.astore_n 1, 1) := by decide +kernel
theorem dX12_link_141 : decode cX12_link 141 = .ok (.aload_n 0, 1) := by decide +kernel
theorem dX12_link_142 : decode cX12_link 142 = .ok (.invokevirtual 427, 3) := by decide +kernel
theorem dX12_link_145 : decode cX12_link 145 = .ok (.ireturn, 1) := by decide +kernel
def m_X12_link (b0 fu : Nat) (a0 : Nat) (σ : tM) : Option ((Int32) × tM) := grw σ (ckO b0 (σ) (a0) 11 (cly (m_X12_upAhead b0 fu (a0) (sI (σ) (a0) 0 (0))) (fun v3 ρ4 => ckO b0 (ρ4) (a0) 11 (cll (m_X12_walkTo b0 fu (a0) (1) (0) (ρ4)) (fun v8 ρ9 => if (0) ≤ (v8) then ckO b0 (ρ9) (a0) 11 (cll (m_X12_node b0 fu (a0) (v8) (0) (ρ9)) (fun v14 ρ15 => if (v14) = (2) then some ((-4), ρ15) else ckO b0 (ρ15) (a0) 11 (cll (m_X12_walkAhead b0 fu (a0) (0) (ρ15)) (fun v20 ρ21 => if (0) ≤ (v20) then ckO b0 (ρ21) (a0) 11 (osm (tA (ρ21) (a0) 52) (fun a26 => cll (m_X12_find b0 fu (a0) (v20) (a26) (0) (tI (ρ21) (a0) 53) (ρ21)) (fun v28 ρ29 => if (v28) < (0) then ckO b0 (ρ29) (a0) 11 (if (tI (ρ29) (a0) 53) ≤ (28) then cll (m_X12_node b0 fu (a0) (v8) (2) (ρ29)) (fun v35 ρ36 => if (v35) = (200) then some ((-10), ρ36) else ckO b0 (ρ36) (a0) 11 (cll (m_X12_lacks b0 fu (a0) (v20) (ρ36)) (fun v41 ρ42 => if (v41) = (0) then ckO b0 (ρ42) (a0) 11 (osm (tA (ρ42) (a0) 52) (fun a47 => cll (m_X12_addEntry b0 fu (a0) (v20) (a47) (tI (ρ42) (a0) 53) (v8) (ρ42)) (fun v49 ρ50 => ckO b0 (ρ50) (a0) 11 (cll (m_X12_node b0 fu (a0) (v8) (2) (ρ50)) (fun v54 ρ55 => ckO b0 (ρ55) (a0) 11 (cll (m_X12_putNode b0 fu (a0) (v8) (2) ((v54) + (1)) (ρ55)) (fun v59 ρ60 => ckO b0 (ρ60) (a0) 11 (cll (m_X12_node b0 fu (a0) (v8) (2) (ρ60)) (fun v64 ρ65 => some (v64, ρ65)))))))))) else some ((-6), ρ42)))) else some ((-7), ρ29)) else some ((-2), ρ29)))) else some (v20, ρ21))))) else some (v8, ρ9)))) (fun ρ68 => ckO b0 (ρ68) (a0) 11 (cll (m_X12_off b0 fu (a0) (ρ68)) (fun v71 ρ72 => some (v71, ρ72))))))
set_option maxRecDepth 100000 in
set_option maxHeartbeats 1000000 in
theorem c_X12_link {l : Launch} {D : va_G} {aC : Nat → ClassId} {b0 fu : Nat} {a0 : Nat} {σ τ : tM} {v : Int32} (hm : m_X12_link b0 fu a0 σ = some (v, τ)) : tMt l D aC b0 yX12_link (Cond.codeWith yX12_link cX12_link 3 (some .int) [(5, 21, 140, 425), (22, 34, 140, 425), (35, 46, 140, 425), (47, 66, 140, 425), (67, 78, 140, 425), (79, 93, 140, 425), (94, 104, 140, 425), (105, 139, 140, 425)]) 9 219 [.ref (a0)] σ (.inl (some (.int v))) τ := by
  unfold m_X12_link at hm
  obtain ⟨hg, hm⟩ := grw_e hm
  refine tMt_ofH rfl (Nat.le_of_ble_eq_true rfl) hg ?_
  intro p e s m below meth c C htab hin
  refine zx_lv [0] [(0, .ref (a0))] rfl ?_
  refine zx_aload_n C dX12_link_0 0 rfl ?_
  refine zx_iconst (v := 0) C dX12_link_1 (by decide) ?_
  obtain ⟨k1, i2, hm⟩ := ckO_e hm
  refine zx_put (j := 0) (ρ := sI (σ) (a0) 0 (0)) C tC_11 k1 i2 ⟨by decide, Or.inl W_6_220⟩ rfl rfl rfl (sI_ok (fun _ => rfl)) dX12_link_2 ?_
  refine zx_aload_n C dX12_link_5 0 rfl ?_
  rcases cly_e hm with ⟨v3, ρ4, h5, hm⟩ | ⟨ρ68, h5, hm⟩
  · refine zx_callV (σ := sI (σ) (a0) 0 (0)) C [] tC_11 k1 i2 Y_X12_upAhead W_7_175 W_7_177 Wp_56 (c_X12_upAhead h5) (by decide) (by decide) rfl (Nat.le_of_ble_eq_true rfl) dX12_link_6 rfl ?_
    refine zx_aload_n C dX12_link_9 0 rfl ?_
    refine zx_iconst (v := 1) C dX12_link_10 (by decide) ?_
    refine zx_iconst (v := 0) C dX12_link_11 (by decide) ?_
    obtain ⟨k6, i7, hm⟩ := ckO_e hm
    obtain ⟨v8, ρ9, h10, hm⟩ := cll_e hm
    refine zx_callV (σ := ρ4) C [.int (1), .int (0)] tC_11 k6 i7 Y_X12_walkTo W_8_151 W_8_153 Wp_104 (c_X12_walkTo h10) (by decide) (by decide) rfl (Nat.le_of_ble_eq_true rfl) dX12_link_12 rfl ?_
    refine zx_istore_n C [(1, .int (v8)), (0, .ref (a0))] dX12_link_15 rfl (by decide) rfl ?_
    refine zx_iload_n C dX12_link_16 0 rfl ?_
    refine zx_if_ge C 22 dX12_link_17 (by decide) (fun c11 => ?_) (fun c11 => ?_)
    · replace hm := ip_e hm c11
      refine zx_aload_n C dX12_link_22 1 rfl ?_
      refine zx_iload_n C dX12_link_23 0 rfl ?_
      refine zx_iconst (v := 0) C dX12_link_24 (by decide) ?_
      obtain ⟨k12, i13, hm⟩ := ckO_e hm
      obtain ⟨v14, ρ15, h16, hm⟩ := cll_e hm
      refine zx_callV (σ := ρ9) C [.int (v8), .int (0)] tC_11 k12 i13 Y_X12_node W_8_40 W_8_42 Wp_80 (c_X12_node h16) (by decide) (by decide) rfl (Nat.le_of_ble_eq_true rfl) dX12_link_25 rfl ?_
      refine zx_iconst (v := 2) C dX12_link_28 (by decide) ?_
      refine zx_icmp_ne C 35 dX12_link_29 (by decide) (fun c17 => ?_) (fun c17 => ?_)
      · replace hm := in_e hm c17
        refine zx_aload_n C dX12_link_35 1 rfl ?_
        refine zx_iconst (v := 0) C dX12_link_36 (by decide) ?_
        obtain ⟨k18, i19, hm⟩ := ckO_e hm
        obtain ⟨v20, ρ21, h22, hm⟩ := cll_e hm
        refine zx_callV (σ := ρ15) C [.int (0)] tC_11 k18 i19 Y_X12_walkAhead W_8_24 W_8_26 Wp_76 (c_X12_walkAhead h22) (by decide) (by decide) rfl (Nat.le_of_ble_eq_true rfl) dX12_link_37 rfl ?_
        refine zx_istore_n C [(2, .int (v20)), (1, .int (v8)), (0, .ref (a0))] dX12_link_40 rfl (by decide) rfl ?_
        refine zx_iload_n C dX12_link_41 0 rfl ?_
        refine zx_if_ge C 47 dX12_link_42 (by decide) (fun c23 => ?_) (fun c23 => ?_)
        · replace hm := ip_e hm c23
          refine zx_aload_n C dX12_link_47 2 rfl ?_
          refine zx_iload_n C dX12_link_48 0 rfl ?_
          refine zx_aload_n C dX12_link_49 2 rfl ?_
          obtain ⟨k24, i25, hm⟩ := ckO_e hm
          obtain ⟨a26, h27, hm⟩ := osm_e hm
          refine zx_get (j := 52) C tC_11 k24 i25 ⟨by decide, Or.inl W_7_31⟩ dX12_link_50 (.ref a26) (rf_s h27) ?_
          refine zx_iconst (v := 0) C dX12_link_53 (by decide) ?_
          refine zx_aload_n C dX12_link_54 2 rfl ?_
          refine zx_get (j := 53) C tC_11 k24 i25 ⟨by decide, Or.inl W_7_32⟩ dX12_link_55 (.int (tI (ρ21) (a0) 53)) rfl ?_
          obtain ⟨v28, ρ29, h30, hm⟩ := cll_e hm
          refine zx_callV (σ := ρ21) C [.int (v20), .ref (a26), .int (0), .int (tI (ρ21) (a0) 53)] tC_11 k24 i25 Y_X12_find W_8_44 W_8_46 Wp_81 (c_X12_find h30) (by decide) (by decide) rfl (Nat.le_of_ble_eq_true rfl) dX12_link_58 rfl ?_
          refine zx_if_lt C 67 dX12_link_61 (by decide) (fun c31 => ?_) (fun c31 => ?_)
          · replace hm := ip_e hm c31
            refine zx_aload_n C dX12_link_67 2 rfl ?_
            obtain ⟨k32, i33, hm⟩ := ckO_e hm
            refine zx_get (j := 53) C tC_11 k32 i33 ⟨by decide, Or.inl W_7_32⟩ dX12_link_68 (.int (tI (ρ29) (a0) 53)) rfl ?_
            refine zx_bipush (v := 28) C dX12_link_71 (by decide) ?_
            refine zx_icmp_le C 79 dX12_link_73 (by decide) (fun c34 => ?_) (fun c34 => ?_)
            · replace hm := ip_e hm c34
              refine zx_aload_n C dX12_link_79 2 rfl ?_
              refine zx_iload_n C dX12_link_80 1 rfl ?_
              refine zx_iconst (v := 2) C dX12_link_81 (by decide) ?_
              obtain ⟨v35, ρ36, h37, hm⟩ := cll_e hm
              refine zx_callV (σ := ρ29) C [.int (v8), .int (2)] tC_11 k32 i33 Y_X12_node W_8_40 W_8_42 Wp_80 (c_X12_node h37) (by decide) (by decide) rfl (Nat.le_of_ble_eq_true rfl) dX12_link_82 rfl ?_
              refine zx_sipush (v := 200) C dX12_link_85 (by decide) ?_
              refine zx_icmp_ne C 94 dX12_link_88 (by decide) (fun c38 => ?_) (fun c38 => ?_)
              · replace hm := in_e hm c38
                refine zx_aload_n C dX12_link_94 2 rfl ?_
                refine zx_iload_n C dX12_link_95 0 rfl ?_
                obtain ⟨k39, i40, hm⟩ := ckO_e hm
                obtain ⟨v41, ρ42, h43, hm⟩ := cll_e hm
                refine zx_callV (σ := ρ36) C [.int (v20)] tC_11 k39 i40 Y_X12_lacks W_8_79 W_8_81 Wp_89 (c_X12_lacks h43) (by decide) (by decide) rfl (Nat.le_of_ble_eq_true rfl) dX12_link_96 rfl ?_
                refine zx_if_eq C 105 dX12_link_99 (by decide) (fun c44 => ?_) (fun c44 => ?_)
                · replace hm := ip_e hm c44
                  refine zx_aload_n C dX12_link_105 2 rfl ?_
                  refine zx_iload_n C dX12_link_106 0 rfl ?_
                  refine zx_aload_n C dX12_link_107 2 rfl ?_
                  obtain ⟨k45, i46, hm⟩ := ckO_e hm
                  obtain ⟨a47, h48, hm⟩ := osm_e hm
                  refine zx_get (j := 52) C tC_11 k45 i46 ⟨by decide, Or.inl W_7_31⟩ dX12_link_108 (.ref a47) (rf_s h48) ?_
                  refine zx_aload_n C dX12_link_111 2 rfl ?_
                  refine zx_get (j := 53) C tC_11 k45 i46 ⟨by decide, Or.inl W_7_32⟩ dX12_link_112 (.int (tI (ρ42) (a0) 53)) rfl ?_
                  refine zx_iload_n C dX12_link_115 1 rfl ?_
                  obtain ⟨v49, ρ50, h51, hm⟩ := cll_e hm
                  refine zx_callV (σ := ρ42) C [.int (v20), .ref (a47), .int (tI (ρ42) (a0) 53), .int (v8)] tC_11 k45 i46 Y_X12_addEntry W_8_111 W_8_113 Wp_97 (c_X12_addEntry h51) (by decide) (by decide) rfl (Nat.le_of_ble_eq_true rfl) dX12_link_116 rfl ?_
                  refine zx_aload_n C dX12_link_119 2 rfl ?_
                  refine zx_iload_n C dX12_link_120 1 rfl ?_
                  refine zx_iconst (v := 2) C dX12_link_121 (by decide) ?_
                  refine zx_aload_n C dX12_link_122 2 rfl ?_
                  refine zx_iload_n C dX12_link_123 1 rfl ?_
                  refine zx_iconst (v := 2) C dX12_link_124 (by decide) ?_
                  obtain ⟨k52, i53, hm⟩ := ckO_e hm
                  obtain ⟨v54, ρ55, h56, hm⟩ := cll_e hm
                  refine zx_callV (σ := ρ50) C [.int (v8), .int (2)] tC_11 k52 i53 Y_X12_node W_8_40 W_8_42 Wp_80 (c_X12_node h56) (by decide) (by decide) rfl (Nat.le_of_ble_eq_true rfl) dX12_link_125 rfl ?_
                  refine zx_iconst (v := 1) C dX12_link_128 (by decide) ?_
                  refine zx_iadd C dX12_link_129 ?_
                  obtain ⟨k57, i58, hm⟩ := ckO_e hm
                  obtain ⟨v59, ρ60, h61, hm⟩ := cll_e hm
                  refine zx_callV (σ := ρ55) C [.int (v8), .int (2), .int ((v54) + (1))] tC_11 k57 i58 Y_X12_putNode W_8_99 W_8_101 Wp_94 (c_X12_putNode h61) (by decide) (by decide) rfl (Nat.le_of_ble_eq_true rfl) dX12_link_130 rfl ?_
                  refine zx_aload_n C dX12_link_133 2 rfl ?_
                  refine zx_iload_n C dX12_link_134 1 rfl ?_
                  refine zx_iconst (v := 2) C dX12_link_135 (by decide) ?_
                  obtain ⟨k62, i63, hm⟩ := ckO_e hm
                  obtain ⟨v64, ρ65, h66, hm⟩ := cll_e hm
                  refine zx_callV (σ := ρ60) C [.int (v8), .int (2)] tC_11 k62 i63 Y_X12_node W_8_40 W_8_42 Wp_80 (c_X12_node h66) (by decide) (by decide) rfl (Nat.le_of_ble_eq_true rfl) dX12_link_136 rfl ?_
                  obtain ⟨rfl, rfl⟩ := ret_e hm
                  exact zx_iret C rfl rfl rfl dX12_link_139
                · replace hm := in_e hm c44
                  refine zx_bipush (v := (-6)) C dX12_link_102 (by decide) ?_
                  obtain ⟨rfl, rfl⟩ := ret_e hm
                  exact zx_iret C rfl rfl rfl dX12_link_104
              · replace hm := ip_e hm c38
                refine zx_bipush (v := (-10)) C dX12_link_91 (by decide) ?_
                obtain ⟨rfl, rfl⟩ := ret_e hm
                exact zx_iret C rfl rfl rfl dX12_link_93
            · replace hm := in_e hm c34
              refine zx_bipush (v := (-7)) C dX12_link_76 (by decide) ?_
              obtain ⟨rfl, rfl⟩ := ret_e hm
              exact zx_iret C rfl rfl rfl dX12_link_78
          · replace hm := in_e hm c31
            refine zx_bipush (v := (-2)) C dX12_link_64 (by decide) ?_
            obtain ⟨rfl, rfl⟩ := ret_e hm
            exact zx_iret C rfl rfl rfl dX12_link_66
        · replace hm := in_e hm c23
          refine zx_iload_n C dX12_link_45 0 rfl ?_
          obtain ⟨rfl, rfl⟩ := ret_e hm
          exact zx_iret C rfl rfl rfl dX12_link_46
      · replace hm := ip_e hm c17
        refine zx_bipush (v := (-4)) C dX12_link_32 (by decide) ?_
        obtain ⟨rfl, rfl⟩ := ret_e hm
        exact zx_iret C rfl rfl rfl dX12_link_34
    · replace hm := in_e hm c11
      refine zx_iload_n C dX12_link_20 0 rfl ?_
      obtain ⟨rfl, rfl⟩ := ret_e hm
      exact zx_iret C rfl rfl rfl dX12_link_21
  · refine zx_catchV (σ := sI (σ) (a0) 0 (0)) (x9 := { startPc := 5, endPc := 21, handlerPc := 140, catchType := 425 }) C (tableOf []) (tableOf [(22, 34, 140, 425), (35, 46, 140, 425), (47, 66, 140, 425), (67, 78, 140, 425), (79, 93, 140, 425), (94, 104, 140, 425), (105, 139, 140, 425)]) htab (by decide) (by decide) (by decide) (E := "SyncTreeModel$Off") W_7_174 W_9_132 [] tC_11 k1 i2 Y_X12_upAhead W_7_175 W_7_177 Wp_56 (c_X12_upAhead h5) (by decide) (by decide) rfl (Nat.le_of_ble_eq_true rfl) dX12_link_6 rfl (fun q67 => ?_)
    refine zx_astore_n C [(1, .ref (q67)), (0, .ref (a0))] dX12_link_140 rfl (by decide) rfl ?_
    refine zx_aload_n C dX12_link_141 1 rfl ?_
    obtain ⟨k69, i70, hm⟩ := ckO_e hm
    obtain ⟨v71, ρ72, h73, hm⟩ := cll_e hm
    refine zx_callV (σ := ρ68) C [] tC_11 k69 i70 Y_X12_off W_8_135 W_8_137 Wp_103 (c_X12_off h73) (by decide) (by decide) rfl (Nat.le_of_ble_eq_true rfl) dX12_link_142 rfl ?_
    obtain ⟨rfl, rfl⟩ := ret_e hm
    exact zx_iret C rfl rfl rfl dX12_link_145
abbrev cX12_unlink : ByteArray := prog_13_method_79_code
def yX12_unlink : MethodName := ⟨"SyncTreeModel", "unlink", "()I"⟩
theorem Y_X12_unlink : tYH yX12_unlink cX12_unlink 4 (some .int) [(5, 20, 86, 425), (21, 32, 86, 425), (33, 53, 86, 425), (54, 73, 86, 425), (74, 85, 86, 425)] 0 := ⟨W_8_158, W_1_14, ⟨by decide +kernel, by decide +kernel⟩, by decide +kernel⟩
theorem dX12_unlink_0 : decode cX12_unlink 0 = .ok (.aload_n 0, 1) := by decide +kernel
theorem dX12_unlink_1 : decode cX12_unlink 1 = .ok (.iconst 0, 1) := by decide +kernel
theorem dX12_unlink_2 : decode cX12_unlink 2 = .ok (.putfield 3, 3) := by decide +kernel
theorem dX12_unlink_5 : decode cX12_unlink 5 = .ok (.aload_n 0, 1) := by decide +kernel
theorem dX12_unlink_6 : decode cX12_unlink 6 = .ok (.invokevirtual 419, 3) := by decide +kernel
theorem dX12_unlink_9 : decode cX12_unlink 9 = .ok (.aload_n 0, 1) := by decide +kernel
theorem dX12_unlink_10 : decode cX12_unlink 10 = .ok (.iconst 0, 1) := by decide +kernel
theorem dX12_unlink_11 : decode cX12_unlink 11 = .ok (.invokevirtual 409, 3) := by decide +kernel
theorem dX12_unlink_14 : decode cX12_unlink 14 = .ok (.istore_n 1, 1) := by decide +kernel
theorem dX12_unlink_15 : decode cX12_unlink 15 = .ok (.iload_n 1, 1) := by decide +kernel
theorem dX12_unlink_16 : decode cX12_unlink 16 = .ok (.ifCond .ge 5, 3) := by decide +kernel
theorem dX12_unlink_19 : decode cX12_unlink 19 = .ok (.iload_n 1, 1) := by decide +kernel
theorem dX12_unlink_20 : decode cX12_unlink 20 = .ok (.ireturn, 1) := by decide +kernel
theorem dX12_unlink_21 : decode cX12_unlink 21 = .ok (.aload_n 0, 1) := by decide +kernel
theorem dX12_unlink_22 : decode cX12_unlink 22 = .ok (.getfield 355, 3) := by decide +kernel
theorem dX12_unlink_25 : decode cX12_unlink 25 = .ok (.bipush 28, 2) := by decide +kernel
theorem dX12_unlink_27 : decode cX12_unlink 27 = .ok (.if_icmp .le 6, 3) := by decide +kernel
theorem dX12_unlink_30 : decode cX12_unlink 30 = .ok (.bipush (-7), 2) := by decide +kernel
theorem dX12_unlink_32 : decode cX12_unlink 32 = .ok (.ireturn, 1) := by decide +kernel
theorem dX12_unlink_33 : decode cX12_unlink 33 = .ok (.aload_n 0, 1) := by decide +kernel
theorem dX12_unlink_34 : decode cX12_unlink 34 = .ok (.iload_n 1, 1) := by decide +kernel
theorem dX12_unlink_35 : decode cX12_unlink 35 = .ok (.aload_n 0, 1) := by decide +kernel
theorem dX12_unlink_36 : decode cX12_unlink 36 = .ok (.getfield 358, 3) := by decide +kernel
theorem dX12_unlink_39 : decode cX12_unlink 39 = .ok (.iconst 0, 1) := by decide +kernel
theorem dX12_unlink_40 : decode cX12_unlink 40 = .ok (.aload_n 0, 1) := by decide +kernel
theorem dX12_unlink_41 : decode cX12_unlink 41 = .ok (.getfield 355, 3) := by decide +kernel
theorem dX12_unlink_44 : decode cX12_unlink 44 = .ok (.invokevirtual 339, 3) := by decide +kernel
theorem dX12_unlink_47 : decode cX12_unlink 47 = .ok (.istore_n 2, 1) := by decide +kernel
theorem dX12_unlink_48 : decode cX12_unlink 48 = .ok (.iload_n 2, 1) := by decide +kernel
theorem dX12_unlink_49 : decode cX12_unlink 49 = .ok (.ifCond .ge 5, 3) := by decide +kernel
theorem dX12_unlink_52 : decode cX12_unlink 52 = .ok (.iconst (-1), 1) := by decide +kernel
theorem dX12_unlink_53 : decode cX12_unlink 53 = .ok (.ireturn, 1) := by decide +kernel
theorem dX12_unlink_54 : decode cX12_unlink 54 = .ok (.aload_n 0, 1) := by decide +kernel
theorem dX12_unlink_55 : decode cX12_unlink 55 = .ok (.iload_n 1, 1) := by decide +kernel
theorem dX12_unlink_56 : decode cX12_unlink 56 = .ok (.iload_n 2, 1) := by decide +kernel
theorem dX12_unlink_57 : decode cX12_unlink 57 = .ok (.invokevirtual 302, 3) := by decide +kernel
theorem dX12_unlink_60 : decode cX12_unlink 60 = .ok (.istore_n 3, 1) := by decide +kernel
theorem dX12_unlink_61 : decode cX12_unlink 61 = .ok (.aload_n 0, 1) := by decide +kernel
theorem dX12_unlink_62 : decode cX12_unlink 62 = .ok (.iload_n 3, 1) := by decide +kernel
theorem dX12_unlink_63 : decode cX12_unlink 63 = .ok (.iconst 0, 1) := by decide +kernel
theorem dX12_unlink_64 : decode cX12_unlink 64 = .ok (.invokevirtual 247, 3) := by decide +kernel
theorem dX12_unlink_67 : decode cX12_unlink 67 = .ok (.iconst 2, 1) := by decide +kernel
theorem dX12_unlink_68 : decode cX12_unlink 68 = .ok (.if_icmp .ne 6, 3) := by decide +kernel
theorem dX12_unlink_71 : decode cX12_unlink 71 = .ok (.bipush (-4), 2) := by decide +kernel
theorem dX12_unlink_73 : decode cX12_unlink 73 = .ok (.ireturn, 1) := by decide +kernel
theorem dX12_unlink_74 : decode cX12_unlink 74 = .ok (.aload_n 0, 1) := by decide +kernel
theorem dX12_unlink_75 : decode cX12_unlink 75 = .ok (.iload_n 1, 1) := by decide +kernel
theorem dX12_unlink_76 : decode cX12_unlink 76 = .ok (.iload_n 2, 1) := by decide +kernel
theorem dX12_unlink_77 : decode cX12_unlink 77 = .ok (.invokevirtual 434, 3) := by decide +kernel
theorem dX12_unlink_80 : decode cX12_unlink 80 = .ok (.aload_n 0, 1) := by decide +kernel
theorem dX12_unlink_81 : decode cX12_unlink 81 = .ok (.iload_n 3, 1) := by decide +kernel
theorem dX12_unlink_82 : decode cX12_unlink 82 = .ok (.invokevirtual 437, 3) := by decide +kernel
theorem dX12_unlink_85 : decode cX12_unlink 85 = .ok (.ireturn, 1) := by decide +kernel
theorem dX12_unlink_86 : decode cX12_unlink 86 = .ok (.astore_n 1, 1) := by decide +kernel
theorem dX12_unlink_87 : decode cX12_unlink 87 = .ok (.aload_n 0, 1) := by decide +kernel
theorem dX12_unlink_88 : decode cX12_unlink 88 = .ok (.invokevirtual 427, 3) := by decide +kernel
theorem dX12_unlink_91 : decode cX12_unlink 91 = .ok (.ireturn, 1) := by decide +kernel
def m_X12_unlink (b0 fu : Nat) (a0 : Nat) (σ : tM) : Option ((Int32) × tM) := grw σ (ckO b0 (σ) (a0) 11 (cly (m_X12_upAhead b0 fu (a0) (sI (σ) (a0) 0 (0))) (fun v3 ρ4 => ckO b0 (ρ4) (a0) 11 (cll (m_X12_walkAhead b0 fu (a0) (0) (ρ4)) (fun v8 ρ9 => if (0) ≤ (v8) then ckO b0 (ρ9) (a0) 11 (if (tI (ρ9) (a0) 53) ≤ (28) then osm (tA (ρ9) (a0) 52) (fun a15 => cll (m_X12_find b0 fu (a0) (v8) (a15) (0) (tI (ρ9) (a0) 53) (ρ9)) (fun v17 ρ18 => if (0) ≤ (v17) then ckO b0 (ρ18) (a0) 11 (cll (m_X12_entryNode b0 fu (a0) (v8) (v17) (ρ18)) (fun v23 ρ24 => ckO b0 (ρ24) (a0) 11 (cll (m_X12_node b0 fu (a0) (v23) (0) (ρ24)) (fun v28 ρ29 => if (v28) = (2) then some ((-4), ρ29) else ckO b0 (ρ29) (a0) 11 (cll (m_X12_removeEntry b0 fu (a0) (v8) (v17) (ρ29)) (fun v34 ρ35 => ckO b0 (ρ35) (a0) 11 (cll (m_X12_lose b0 fu (a0) (v23) (ρ35)) (fun v39 ρ40 => some (v39, ρ40))))))))) else some ((-1), ρ18))) else some ((-7), ρ9)) else some (v8, ρ9)))) (fun ρ43 => ckO b0 (ρ43) (a0) 11 (cll (m_X12_off b0 fu (a0) (ρ43)) (fun v46 ρ47 => some (v46, ρ47))))))
set_option maxRecDepth 100000 in
set_option maxHeartbeats 1000000 in
theorem c_X12_unlink {l : Launch} {D : va_G} {aC : Nat → ClassId} {b0 fu : Nat} {a0 : Nat} {σ τ : tM} {v : Int32} (hm : m_X12_unlink b0 fu a0 σ = some (v, τ)) : tMt l D aC b0 yX12_unlink (Cond.codeWith yX12_unlink cX12_unlink 4 (some .int) [(5, 20, 86, 425), (21, 32, 86, 425), (33, 53, 86, 425), (54, 73, 86, 425), (74, 85, 86, 425)]) 9 219 [.ref (a0)] σ (.inl (some (.int v))) τ := by
  unfold m_X12_unlink at hm
  obtain ⟨hg, hm⟩ := grw_e hm
  refine tMt_ofH rfl (Nat.le_of_ble_eq_true rfl) hg ?_
  intro p e s m below meth c C htab hin
  refine zx_lv [0] [(0, .ref (a0))] rfl ?_
  refine zx_aload_n C dX12_unlink_0 0 rfl ?_
  refine zx_iconst (v := 0) C dX12_unlink_1 (by decide) ?_
  obtain ⟨k1, i2, hm⟩ := ckO_e hm
  refine zx_put (j := 0) (ρ := sI (σ) (a0) 0 (0)) C tC_11 k1 i2 ⟨by decide, Or.inl W_6_220⟩ rfl rfl rfl (sI_ok (fun _ => rfl)) dX12_unlink_2 ?_
  refine zx_aload_n C dX12_unlink_5 0 rfl ?_
  rcases cly_e hm with ⟨v3, ρ4, h5, hm⟩ | ⟨ρ43, h5, hm⟩
  · refine zx_callV (σ := sI (σ) (a0) 0 (0)) C [] tC_11 k1 i2 Y_X12_upAhead W_7_175 W_7_177 Wp_56 (c_X12_upAhead h5) (by decide) (by decide) rfl (Nat.le_of_ble_eq_true rfl) dX12_unlink_6 rfl ?_
    refine zx_aload_n C dX12_unlink_9 0 rfl ?_
    refine zx_iconst (v := 0) C dX12_unlink_10 (by decide) ?_
    obtain ⟨k6, i7, hm⟩ := ckO_e hm
    obtain ⟨v8, ρ9, h10, hm⟩ := cll_e hm
    refine zx_callV (σ := ρ4) C [.int (0)] tC_11 k6 i7 Y_X12_walkAhead W_8_24 W_8_26 Wp_76 (c_X12_walkAhead h10) (by decide) (by decide) rfl (Nat.le_of_ble_eq_true rfl) dX12_unlink_11 rfl ?_
    refine zx_istore_n C [(1, .int (v8)), (0, .ref (a0))] dX12_unlink_14 rfl (by decide) rfl ?_
    refine zx_iload_n C dX12_unlink_15 0 rfl ?_
    refine zx_if_ge C 21 dX12_unlink_16 (by decide) (fun c11 => ?_) (fun c11 => ?_)
    · replace hm := ip_e hm c11
      refine zx_aload_n C dX12_unlink_21 1 rfl ?_
      obtain ⟨k12, i13, hm⟩ := ckO_e hm
      refine zx_get (j := 53) C tC_11 k12 i13 ⟨by decide, Or.inl W_7_32⟩ dX12_unlink_22 (.int (tI (ρ9) (a0) 53)) rfl ?_
      refine zx_bipush (v := 28) C dX12_unlink_25 (by decide) ?_
      refine zx_icmp_le C 33 dX12_unlink_27 (by decide) (fun c14 => ?_) (fun c14 => ?_)
      · replace hm := ip_e hm c14
        refine zx_aload_n C dX12_unlink_33 1 rfl ?_
        refine zx_iload_n C dX12_unlink_34 0 rfl ?_
        refine zx_aload_n C dX12_unlink_35 1 rfl ?_
        obtain ⟨a15, h16, hm⟩ := osm_e hm
        refine zx_get (j := 52) C tC_11 k12 i13 ⟨by decide, Or.inl W_7_31⟩ dX12_unlink_36 (.ref a15) (rf_s h16) ?_
        refine zx_iconst (v := 0) C dX12_unlink_39 (by decide) ?_
        refine zx_aload_n C dX12_unlink_40 1 rfl ?_
        refine zx_get (j := 53) C tC_11 k12 i13 ⟨by decide, Or.inl W_7_32⟩ dX12_unlink_41 (.int (tI (ρ9) (a0) 53)) rfl ?_
        obtain ⟨v17, ρ18, h19, hm⟩ := cll_e hm
        refine zx_callV (σ := ρ9) C [.int (v8), .ref (a15), .int (0), .int (tI (ρ9) (a0) 53)] tC_11 k12 i13 Y_X12_find W_8_44 W_8_46 Wp_81 (c_X12_find h19) (by decide) (by decide) rfl (Nat.le_of_ble_eq_true rfl) dX12_unlink_44 rfl ?_
        refine zx_istore_n C [(2, .int (v17)), (1, .int (v8)), (0, .ref (a0))] dX12_unlink_47 rfl (by decide) rfl ?_
        refine zx_iload_n C dX12_unlink_48 0 rfl ?_
        refine zx_if_ge C 54 dX12_unlink_49 (by decide) (fun c20 => ?_) (fun c20 => ?_)
        · replace hm := ip_e hm c20
          refine zx_aload_n C dX12_unlink_54 2 rfl ?_
          refine zx_iload_n C dX12_unlink_55 1 rfl ?_
          refine zx_iload_n C dX12_unlink_56 0 rfl ?_
          obtain ⟨k21, i22, hm⟩ := ckO_e hm
          obtain ⟨v23, ρ24, h25, hm⟩ := cll_e hm
          refine zx_callV (σ := ρ18) C [.int (v8), .int (v17)] tC_11 k21 i22 Y_X12_entryNode W_8_52 W_8_54 Wp_83 (c_X12_entryNode h25) (by decide) (by decide) rfl (Nat.le_of_ble_eq_true rfl) dX12_unlink_57 rfl ?_
          refine zx_istore_n C [(3, .int (v23)), (2, .int (v17)), (1, .int (v8)), (0, .ref (a0))] dX12_unlink_60 rfl (by decide) rfl ?_
          refine zx_aload_n C dX12_unlink_61 3 rfl ?_
          refine zx_iload_n C dX12_unlink_62 0 rfl ?_
          refine zx_iconst (v := 0) C dX12_unlink_63 (by decide) ?_
          obtain ⟨k26, i27, hm⟩ := ckO_e hm
          obtain ⟨v28, ρ29, h30, hm⟩ := cll_e hm
          refine zx_callV (σ := ρ24) C [.int (v23), .int (0)] tC_11 k26 i27 Y_X12_node W_8_40 W_8_42 Wp_80 (c_X12_node h30) (by decide) (by decide) rfl (Nat.le_of_ble_eq_true rfl) dX12_unlink_64 rfl ?_
          refine zx_iconst (v := 2) C dX12_unlink_67 (by decide) ?_
          refine zx_icmp_ne C 74 dX12_unlink_68 (by decide) (fun c31 => ?_) (fun c31 => ?_)
          · replace hm := in_e hm c31
            refine zx_aload_n C dX12_unlink_74 3 rfl ?_
            refine zx_iload_n C dX12_unlink_75 2 rfl ?_
            refine zx_iload_n C dX12_unlink_76 1 rfl ?_
            obtain ⟨k32, i33, hm⟩ := ckO_e hm
            obtain ⟨v34, ρ35, h36, hm⟩ := cll_e hm
            refine zx_callV (σ := ρ29) C [.int (v8), .int (v17)] tC_11 k32 i33 Y_X12_removeEntry W_8_159 W_8_161 Wp_105 (c_X12_removeEntry h36) (by decide) (by decide) rfl (Nat.le_of_ble_eq_true rfl) dX12_unlink_77 rfl ?_
            refine zx_aload_n C dX12_unlink_80 3 rfl ?_
            refine zx_iload_n C dX12_unlink_81 0 rfl ?_
            obtain ⟨k37, i38, hm⟩ := ckO_e hm
            obtain ⟨v39, ρ40, h41, hm⟩ := cll_e hm
            refine zx_callV (σ := ρ35) C [.int (v23)] tC_11 k37 i38 Y_X12_lose W_8_179 W_8_181 Wp_110 (c_X12_lose h41) (by decide) (by decide) rfl (Nat.le_of_ble_eq_true rfl) dX12_unlink_82 rfl ?_
            obtain ⟨rfl, rfl⟩ := ret_e hm
            exact zx_iret C rfl rfl rfl dX12_unlink_85
          · replace hm := ip_e hm c31
            refine zx_bipush (v := (-4)) C dX12_unlink_71 (by decide) ?_
            obtain ⟨rfl, rfl⟩ := ret_e hm
            exact zx_iret C rfl rfl rfl dX12_unlink_73
        · replace hm := in_e hm c20
          refine zx_iconst (v := (-1)) C dX12_unlink_52 (by decide) ?_
          obtain ⟨rfl, rfl⟩ := ret_e hm
          exact zx_iret C rfl rfl rfl dX12_unlink_53
      · replace hm := in_e hm c14
        refine zx_bipush (v := (-7)) C dX12_unlink_30 (by decide) ?_
        obtain ⟨rfl, rfl⟩ := ret_e hm
        exact zx_iret C rfl rfl rfl dX12_unlink_32
    · replace hm := in_e hm c11
      refine zx_iload_n C dX12_unlink_19 0 rfl ?_
      obtain ⟨rfl, rfl⟩ := ret_e hm
      exact zx_iret C rfl rfl rfl dX12_unlink_20
  · refine zx_catchV (σ := sI (σ) (a0) 0 (0)) (x9 := { startPc := 5, endPc := 20, handlerPc := 86, catchType := 425 }) C (tableOf []) (tableOf [(21, 32, 86, 425), (33, 53, 86, 425), (54, 73, 86, 425), (74, 85, 86, 425)]) htab (by decide) (by decide) (by decide) (E := "SyncTreeModel$Off") W_7_174 W_9_132 [] tC_11 k1 i2 Y_X12_upAhead W_7_175 W_7_177 Wp_56 (c_X12_upAhead h5) (by decide) (by decide) rfl (Nat.le_of_ble_eq_true rfl) dX12_unlink_6 rfl (fun q42 => ?_)
    refine zx_astore_n C [(1, .ref (q42)), (0, .ref (a0))] dX12_unlink_86 rfl (by decide) rfl ?_
    refine zx_aload_n C dX12_unlink_87 1 rfl ?_
    obtain ⟨k44, i45, hm⟩ := ckO_e hm
    obtain ⟨v46, ρ47, h48, hm⟩ := cll_e hm
    refine zx_callV (σ := ρ43) C [] tC_11 k44 i45 Y_X12_off W_8_135 W_8_137 Wp_103 (c_X12_off h48) (by decide) (by decide) rfl (Nat.le_of_ble_eq_true rfl) dX12_unlink_88 rfl ?_
    obtain ⟨rfl, rfl⟩ := ret_e hm
    exact zx_iret C rfl rfl rfl dX12_unlink_91
