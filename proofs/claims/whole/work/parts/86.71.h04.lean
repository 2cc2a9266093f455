abbrev cL_unlink : ByteArray := method_7_code
def yL_unlink : MethodName := ⟨"SyncTreeLaw", "unlink", "(LSyncTree;[J)I"⟩
theorem Y_L_unlink : tYH yL_unlink cL_unlink 3 (some .int) [(0, 8, 11, 13)] 2 := ⟨W_5_23, W_1_0, ⟨by decide +kernel, by decide +kernel⟩, by decide +kernel⟩
theorem dL_unlink_0 : decode cL_unlink 0 = .ok (.aload_n 1, 1) := by decide +kernel
theorem dL_unlink_1 : decode cL_unlink 1 = .ok (.iconst 0, 1) := by decide +kernel
theorem dL_unlink_2 : decode cL_unlink 2 = .ok (.aload_n 0, 1) := by decide +kernel
theorem dL_unlink_3 : decode cL_unlink 3 = .ok (.invokevirtual 24, 3) := by decide +kernel
theorem dL_unlink_6 : decode cL_unlink 6 = .ok (.i2l, 1) := by decide +kernel
theorem dL_unlink_7 : decode cL_unlink 7 = .ok (.lastore, 1) := by decide +kernel
theorem dL_unlink_8 : decode cL_unlink 8 = .ok (.goto 6, 3) := by decide +kernel
theorem dL_unlink_11 : decode cL_unlink 11 = .ok (.astore_n 2, 1) := by decide +kernel
theorem dL_unlink_12 : decode cL_unlink 12 = .ok (.iconst 1, 1) := by decide +kernel
theorem dL_unlink_13 : decode cL_unlink 13 = .ok (.ireturn, 1) := by decide +kernel
theorem dL_unlink_14 : decode cL_unlink 14 = .ok (.iconst 0, 1) := by decide +kernel
theorem dL_unlink_15 : decode cL_unlink 15 = .ok (.ireturn, 1) := by decide +kernel
set_option maxRecDepth 100000 in
set_option maxHeartbeats 1000000 in
theorem c_L_unlink {l : Launch} {D : va_G} {aC : Nat → ClassId} {b0 fu : Nat} {p0 : Nat} {p1 : Nat} {σ τ : tM} {v : Int32} (hm : m_L_unlink b0 fu p0 p1 σ = some (v, τ)) : tMt l D aC b0 yL_unlink (Cond.codeWith yL_unlink cL_unlink 3 (some .int) [(0, 8, 11, 13)]) 13 242 [.ref (p0), .ref (p1)] σ (.inl (some (.int v))) τ := by
  unfold m_L_unlink at hm
  obtain ⟨hg, hm⟩ := grw_e hm
  refine tMt_ofH rfl (Nat.le_of_ble_eq_true rfl) hg ?_
  intro p e s m below meth c C htab hin
  refine zx_lv [0, 1] [(0, .ref (p0)), (1, .ref (p1))] rfl ?_
  refine zx_aload_n C dL_unlink_0 1 rfl ?_
  refine zx_iconst (v := 0) C dL_unlink_1 (by decide) ?_
  refine zx_aload_n C dL_unlink_2 0 rfl ?_
  obtain ⟨k1, i2, hm⟩ := ckO_e hm
  rcases cly_e hm with ⟨v3, ρ4, h5, hm⟩ | ⟨ρ11, h5, hm⟩
  · refine zx_callV (σ := σ) C [] tC_10 k1 i2 Y_X10_unlink W_5_24 W_5_25 W_5_26 (c_X10_unlink h5) (by decide) (by decide) rfl (Nat.le_of_ble_eq_true rfl) dL_unlink_3 rfl ?_
    refine zx_i2l C dL_unlink_6 ?_
    obtain ⟨n8, k6, i7, hm⟩ := ckR_e hm
    obtain ⟨h9, hm⟩ := ckI_e hm
    refine zx_last C k6 i7 h9 dL_unlink_7 ?_
    refine zx_goto C 14 dL_unlink_8 (by decide) ?_
    refine zx_iconst (v := 0) C dL_unlink_14 (by decide) ?_
    obtain ⟨rfl, rfl⟩ := ret_e hm
    exact zx_iret C rfl rfl rfl dL_unlink_15
  · refine zx_catchV (σ := σ) (x9 := { startPc := 0, endPc := 8, handlerPc := 11, catchType := 13 }) C (tableOf []) (tableOf []) htab (by decide) (by decide) (by decide) (E := "java/lang/IllegalStateException") W_3_103 W_3_118 [] tC_10 k1 i2 Y_X10_unlink W_5_24 W_5_25 W_5_26 (c_X10_unlink h5) (by decide) (by decide) rfl (Nat.le_of_ble_eq_true rfl) dL_unlink_3 rfl (fun q10 => ?_)
    refine zx_astore_n C [(2, .ref (q10)), (0, .ref (p0)), (1, .ref (p1))] dL_unlink_11 rfl (by decide) rfl ?_
    refine zx_iconst (v := 1) C dL_unlink_12 (by decide) ?_
    obtain ⟨rfl, rfl⟩ := ret_e hm
    exact zx_iret C rfl rfl rfl dL_unlink_13
abbrev cL_rmdir : ByteArray := method_8_code
def yL_rmdir : MethodName := ⟨"SyncTreeLaw", "rmdir", "(LSyncTree;[J)I"⟩
theorem Y_L_rmdir : tYH yL_rmdir cL_rmdir 3 (some .int) [(0, 8, 11, 13)] 2 := ⟨W_5_90, W_1_0, ⟨by decide +kernel, by decide +kernel⟩, by decide +kernel⟩
theorem dL_rmdir_0 : decode cL_rmdir 0 = .ok (.aload_n 1, 1) := by decide +kernel
theorem dL_rmdir_1 : decode cL_rmdir 1 = .ok (.iconst 0, 1) := by decide +kernel
theorem dL_rmdir_2 : decode cL_rmdir 2 = .ok (.aload_n 0, 1) := by decide +kernel
theorem dL_rmdir_3 : decode cL_rmdir 3 = .ok (.invokevirtual 27, 3) := by decide +kernel
theorem dL_rmdir_6 : decode cL_rmdir 6 = .ok (.i2l, 1) := by decide +kernel
theorem dL_rmdir_7 : decode cL_rmdir 7 = .ok (.lastore, 1) := by decide +kernel
theorem dL_rmdir_8 : decode cL_rmdir 8 = .ok (.goto 6, 3) := by decide +kernel
theorem dL_rmdir_11 : decode cL_rmdir 11 = .ok (.astore_n 2, 1) := by decide +kernel
theorem dL_rmdir_12 : decode cL_rmdir 12 = .ok (.iconst 1, 1) := by decide +kernel
theorem dL_rmdir_13 : decode cL_rmdir 13 = .ok (.ireturn, 1) := by decide +kernel
theorem dL_rmdir_14 : decode cL_rmdir 14 = .ok (.iconst 0, 1) := by decide +kernel
theorem dL_rmdir_15 : decode cL_rmdir 15 = .ok (.ireturn, 1) := by decide +kernel
set_option maxRecDepth 100000 in
set_option maxHeartbeats 1000000 in
theorem c_L_rmdir {l : Launch} {D : va_G} {aC : Nat → ClassId} {b0 fu : Nat} {p0 : Nat} {p1 : Nat} {σ τ : tM} {v : Int32} (hm : m_L_rmdir b0 fu p0 p1 σ = some (v, τ)) : tMt l D aC b0 yL_rmdir (Cond.codeWith yL_rmdir cL_rmdir 3 (some .int) [(0, 8, 11, 13)]) 13 241 [.ref (p0), .ref (p1)] σ (.inl (some (.int v))) τ := by
  unfold m_L_rmdir at hm
  obtain ⟨hg, hm⟩ := grw_e hm
  refine tMt_ofH rfl (Nat.le_of_ble_eq_true rfl) hg ?_
  intro p e s m below meth c C htab hin
  refine zx_lv [0, 1] [(0, .ref (p0)), (1, .ref (p1))] rfl ?_
  refine zx_aload_n C dL_rmdir_0 1 rfl ?_
  refine zx_iconst (v := 0) C dL_rmdir_1 (by decide) ?_
  refine zx_aload_n C dL_rmdir_2 0 rfl ?_
  obtain ⟨k1, i2, hm⟩ := ckO_e hm
  rcases cly_e hm with ⟨v3, ρ4, h5, hm⟩ | ⟨ρ11, h5, hm⟩
  · refine zx_callV (σ := σ) C [] tC_10 k1 i2 Y_X10_rmdir W_5_91 W_5_92 W_5_93 (c_X10_rmdir h5) (by decide) (by decide) rfl (Nat.le_of_ble_eq_true rfl) dL_rmdir_3 rfl ?_
    refine zx_i2l C dL_rmdir_6 ?_
    obtain ⟨n8, k6, i7, hm⟩ := ckR_e hm
    obtain ⟨h9, hm⟩ := ckI_e hm
    refine zx_last C k6 i7 h9 dL_rmdir_7 ?_
    refine zx_goto C 14 dL_rmdir_8 (by decide) ?_
    refine zx_iconst (v := 0) C dL_rmdir_14 (by decide) ?_
    obtain ⟨rfl, rfl⟩ := ret_e hm
    exact zx_iret C rfl rfl rfl dL_rmdir_15
  · refine zx_catchV (σ := σ) (x9 := { startPc := 0, endPc := 8, handlerPc := 11, catchType := 13 }) C (tableOf []) (tableOf []) htab (by decide) (by decide) (by decide) (E := "java/lang/IllegalStateException") W_3_103 W_3_118 [] tC_10 k1 i2 Y_X10_rmdir W_5_91 W_5_92 W_5_93 (c_X10_rmdir h5) (by decide) (by decide) rfl (Nat.le_of_ble_eq_true rfl) dL_rmdir_3 rfl (fun q10 => ?_)
    refine zx_astore_n C [(2, .ref (q10)), (0, .ref (p0)), (1, .ref (p1))] dL_rmdir_11 rfl (by decide) rfl ?_
    refine zx_iconst (v := 1) C dL_rmdir_12 (by decide) ?_
    obtain ⟨rfl, rfl⟩ := ret_e hm
    exact zx_iret C rfl rfl rfl dL_rmdir_13
abbrev cL_rename : ByteArray := method_9_code
def yL_rename : MethodName := ⟨"SyncTreeLaw", "rename", "(LSyncTree;[J)I"⟩
theorem Y_L_rename : tYH yL_rename cL_rename 3 (some .int) [(0, 8, 11, 13)] 2 := ⟨W_5_101, W_1_0, ⟨by decide +kernel, by decide +kernel⟩, by decide +kernel⟩
theorem dL_rename_0 : decode cL_rename 0 = .ok (.aload_n 1, 1) := by decide +kernel
theorem dL_rename_1 : decode cL_rename 1 = .ok (.iconst 0, 1) := by decide +kernel
theorem dL_rename_2 : decode cL_rename 2 = .ok (.aload_n 0, 1) := by decide +kernel
theorem dL_rename_3 : decode cL_rename 3 = .ok (.invokevirtual 30, 3) := by decide +kernel
theorem dL_rename_6 : decode cL_rename 6 = .ok (.i2l, 1) := by decide +kernel
theorem dL_rename_7 : decode cL_rename 7 = .ok (.lastore, 1) := by decide +kernel
theorem dL_rename_8 : decode cL_rename 8 = .ok (.goto 6, 3) := by decide +kernel
theorem dL_rename_11 : decode cL_rename 11 = .ok (.astore_n 2, 1) := by decide +kernel
theorem dL_rename_12 : decode cL_rename 12 = .ok (.iconst 1, 1) := by decide +kernel
theorem dL_rename_13 : decode cL_rename 13 = .ok (.ireturn, 1) := by decide +kernel
theorem dL_rename_14 : decode cL_rename 14 = .ok (.iconst 0, 1) := by decide +kernel
theorem dL_rename_15 : decode cL_rename 15 = .ok (.ireturn, 1) := by decide +kernel
set_option maxRecDepth 100000 in
set_option maxHeartbeats 1000000 in
theorem c_L_rename {l : Launch} {D : va_G} {aC : Nat → ClassId} {b0 fu : Nat} {p0 : Nat} {p1 : Nat} {σ τ : tM} {v : Int32} (hm : m_L_rename b0 fu p0 p1 σ = some (v, τ)) : tMt l D aC b0 yL_rename (Cond.codeWith yL_rename cL_rename 3 (some .int) [(0, 8, 11, 13)]) 13 246 [.ref (p0), .ref (p1)] σ (.inl (some (.int v))) τ := by
  unfold m_L_rename at hm
  obtain ⟨hg, hm⟩ := grw_e hm
  refine tMt_ofH rfl (Nat.le_of_ble_eq_true rfl) hg ?_
  intro p e s m below meth c C htab hin
  refine zx_lv [0, 1] [(0, .ref (p0)), (1, .ref (p1))] rfl ?_
  refine zx_aload_n C dL_rename_0 1 rfl ?_
  refine zx_iconst (v := 0) C dL_rename_1 (by decide) ?_
  refine zx_aload_n C dL_rename_2 0 rfl ?_
  obtain ⟨k1, i2, hm⟩ := ckO_e hm
  rcases cly_e hm with ⟨v3, ρ4, h5, hm⟩ | ⟨ρ11, h5, hm⟩
  · refine zx_callV (σ := σ) C [] tC_10 k1 i2 Y_X10_rename W_5_102 W_5_103 W_5_104 (c_X10_rename h5) (by decide) (by decide) rfl (Nat.le_of_ble_eq_true rfl) dL_rename_3 rfl ?_
    refine zx_i2l C dL_rename_6 ?_
    obtain ⟨n8, k6, i7, hm⟩ := ckR_e hm
    obtain ⟨h9, hm⟩ := ckI_e hm
    refine zx_last C k6 i7 h9 dL_rename_7 ?_
    refine zx_goto C 14 dL_rename_8 (by decide) ?_
    refine zx_iconst (v := 0) C dL_rename_14 (by decide) ?_
    obtain ⟨rfl, rfl⟩ := ret_e hm
    exact zx_iret C rfl rfl rfl dL_rename_15
  · refine zx_catchV (σ := σ) (x9 := { startPc := 0, endPc := 8, handlerPc := 11, catchType := 13 }) C (tableOf []) (tableOf []) htab (by decide) (by decide) (by decide) (E := "java/lang/IllegalStateException") W_3_103 W_3_118 [] tC_10 k1 i2 Y_X10_rename W_5_102 W_5_103 W_5_104 (c_X10_rename h5) (by decide) (by decide) rfl (Nat.le_of_ble_eq_true rfl) dL_rename_3 rfl (fun q10 => ?_)
    refine zx_astore_n C [(2, .ref (q10)), (0, .ref (p0)), (1, .ref (p1))] dL_rename_11 rfl (by decide) rfl ?_
    refine zx_iconst (v := 1) C dL_rename_12 (by decide) ?_
    obtain ⟨rfl, rfl⟩ := ret_e hm
    exact zx_iret C rfl rfl rfl dL_rename_13
abbrev cL_close : ByteArray := method_11_code
def yL_close : MethodName := ⟨"SyncTreeLaw", "close", "(LSyncTree;I[J)I"⟩
theorem Y_L_close : tYH yL_close cL_close 4 (some .int) [(0, 9, 12, 13)] 3 := ⟨W_5_133, W_1_0, ⟨by decide +kernel, by decide +kernel⟩, by decide +kernel⟩
theorem dL_close_0 : decode cL_close 0 = .ok (.aload_n 2, 1) := by decide +kernel
theorem dL_close_1 : decode cL_close 1 = .ok (.iconst 0, 1) := by decide +kernel
theorem dL_close_2 : decode cL_close 2 = .ok (.aload_n 0, 1) := by decide +kernel
theorem dL_close_3 : decode cL_close 3 = .ok (.iload_n 1, 1) := by decide +kernel
theorem dL_close_4 : decode cL_close 4 = .ok (.invokevirtual 36, 3) := by decide +kernel
theorem dL_close_7 : decode cL_close 7 = .ok (.i2l, 1) := by decide +kernel
theorem dL_close_8 : decode cL_close 8 = .ok (.lastore, 1) := by decide +kernel
theorem dL_close_9 : decode cL_close 9 = .ok (.goto 6, 3) := by decide +kernel
theorem dL_close_12 : decode cL_close 12 = .ok (.astore_n 3, 1) := by decide +kernel
theorem dL_close_13 : decode cL_close 13 = .ok (.iconst 1, 1) := by decide +kernel
theorem dL_close_14 : decode cL_close 14 = .ok (.ireturn, 1) := by decide +kernel
theorem dL_close_15 : decode cL_close 15 = .ok (.iconst 0, 1) := by decide +kernel
theorem dL_close_16 : decode cL_close 16 = .ok (.ireturn, 1) := by decide +kernel
set_option maxRecDepth 100000 in
set_option maxHeartbeats 1000000 in
theorem c_L_close {l : Launch} {D : va_G} {aC : Nat → ClassId} {b0 fu : Nat} {p0 : Nat} {p1 : Int32} {p2 : Nat} {σ τ : tM} {v : Int32} (hm : m_L_close b0 fu p0 p1 p2 σ = some (v, τ)) : tMt l D aC b0 yL_close (Cond.codeWith yL_close cL_close 4 (some .int) [(0, 9, 12, 13)]) 13 241 [.ref (p0), .int (p1), .ref (p2)] σ (.inl (some (.int v))) τ := by
  unfold m_L_close at hm
  obtain ⟨hg, hm⟩ := grw_e hm
  refine tMt_ofH rfl (Nat.le_of_ble_eq_true rfl) hg ?_
  intro p e s m below meth c C htab hin
  refine zx_lv [0, 1, 2] [(0, .ref (p0)), (1, .int (p1)), (2, .ref (p2))] rfl ?_
  refine zx_aload_n C dL_close_0 2 rfl ?_
  refine zx_iconst (v := 0) C dL_close_1 (by decide) ?_
  refine zx_aload_n C dL_close_2 0 rfl ?_
  refine zx_iload_n C dL_close_3 1 rfl ?_
  obtain ⟨k1, i2, hm⟩ := ckO_e hm
  rcases cly_e hm with ⟨v3, ρ4, h5, hm⟩ | ⟨ρ11, h5, hm⟩
  · refine zx_callV (σ := σ) C [.int (p1)] tC_10 k1 i2 Y_X10_close W_5_134 W_5_135 W_5_136 (c_X10_close h5) (by decide) (by decide) rfl (Nat.le_of_ble_eq_true rfl) dL_close_4 rfl ?_
    refine zx_i2l C dL_close_7 ?_
    obtain ⟨n8, k6, i7, hm⟩ := ckR_e hm
    obtain ⟨h9, hm⟩ := ckI_e hm
    refine zx_last C k6 i7 h9 dL_close_8 ?_
    refine zx_goto C 15 dL_close_9 (by decide) ?_
    refine zx_iconst (v := 0) C dL_close_15 (by decide) ?_
    obtain ⟨rfl, rfl⟩ := ret_e hm
    exact zx_iret C rfl rfl rfl dL_close_16
  · refine zx_catchV (σ := σ) (x9 := { startPc := 0, endPc := 9, handlerPc := 12, catchType := 13 }) C (tableOf []) (tableOf []) htab (by decide) (by decide) (by decide) (E := "java/lang/IllegalStateException") W_3_103 W_3_118 [.int (p1)] tC_10 k1 i2 Y_X10_close W_5_134 W_5_135 W_5_136 (c_X10_close h5) (by decide) (by decide) rfl (Nat.le_of_ble_eq_true rfl) dL_close_4 rfl (fun q10 => ?_)
    refine zx_astore_n C [(3, .ref (q10)), (0, .ref (p0)), (1, .int (p1)), (2, .ref (p2))] dL_close_12 rfl (by decide) rfl ?_
    refine zx_iconst (v := 1) C dL_close_13 (by decide) ?_
    obtain ⟨rfl, rfl⟩ := ret_e hm
    exact zx_iret C rfl rfl rfl dL_close_14
abbrev cL_write : ByteArray := method_12_code
def yL_write : MethodName := ⟨"SyncTreeLaw", "write", "(LSyncTree;III[J)I"⟩
theorem Y_L_write : tYH yL_write cL_write 6 (some .int) [(0, 12, 15, 13)] 5 := ⟨W_5_144, W_1_0, ⟨by decide +kernel, by decide +kernel⟩, by decide +kernel⟩
theorem dL_write_0 : decode cL_write 0 = .ok (.aload 4, 2) := by decide +kernel
theorem dL_write_2 : decode cL_write 2 = .ok (.iconst 0, 1) := by decide +kernel
theorem dL_write_3 : decode cL_write 3 = .ok (.aload_n 0, 1) := by decide +kernel
theorem dL_write_4 : decode cL_write 4 = .ok (.iload_n 1, 1) := by decide +kernel
theorem dL_write_5 : decode cL_write 5 = .ok (.iload_n 2, 1) := by decide +kernel
theorem dL_write_6 : decode cL_write 6 = .ok (.iload_n 3, 1) := by decide +kernel
theorem dL_write_7 : decode cL_write 7 = .ok (.invokevirtual 40, 3) := by decide +kernel
theorem dL_write_10 : decode cL_write 10 = .ok (.i2l, 1) := by decide +kernel
theorem dL_write_11 : decode cL_write 11 = .ok (.lastore, 1) := by decide +kernel
theorem dL_write_12 : decode cL_write 12 = .ok (.goto 7, 3) := by decide +kernel
theorem dL_write_15 : decode cL_write 15 = .ok (.astore 5, 2) := by decide +kernel
theorem dL_write_17 : decode cL_write 17 = .ok (.iconst 1, 1) := by decide +kernel
theorem dL_write_18 : decode cL_write 18 = .ok (.ireturn, 1) := by decide +kernel
theorem dL_write_19 : decode cL_write 19 = .ok (.iconst 0, 1) := by decide +kernel
theorem dL_write_20 : decode cL_write 20 = .ok (.ireturn, 1) := by decide +kernel
set_option maxRecDepth 100000 in
set_option maxHeartbeats 1000000 in
theorem c_L_write {l : Launch} {D : va_G} {aC : Nat → ClassId} {b0 fu : Nat} {p0 : Nat} {p1 : Int32} {p2 : Int32} {p3 : Int32} {p4 : Nat} {σ τ : tM} {v : Int32} (hm : m_L_write b0 fu p0 p1 p2 p3 p4 σ = some (v, τ)) : tMt l D aC b0 yL_write (Cond.codeWith yL_write cL_write 6 (some .int) [(0, 12, 15, 13)]) 13 244 [.ref (p0), .int (p1), .int (p2), .int (p3), .ref (p4)] σ (.inl (some (.int v))) τ := by
  unfold m_L_write at hm
  obtain ⟨hg, hm⟩ := grw_e hm
  refine tMt_ofH rfl (Nat.le_of_ble_eq_true rfl) hg ?_
  intro p e s m below meth c C htab hin
  refine zx_lv [0, 1, 2, 3, 4] [(0, .ref (p0)), (1, .int (p1)), (2, .int (p2)), (3, .int (p3)), (4, .ref (p4))] rfl ?_
  refine zx_aload C dL_write_0 4 rfl ?_
  refine zx_iconst (v := 0) C dL_write_2 (by decide) ?_
  refine zx_aload_n C dL_write_3 0 rfl ?_
  refine zx_iload_n C dL_write_4 1 rfl ?_
  refine zx_iload_n C dL_write_5 2 rfl ?_
  refine zx_iload_n C dL_write_6 3 rfl ?_
  obtain ⟨k1, i2, hm⟩ := ckO_e hm
  rcases cly_e hm with ⟨v3, ρ4, h5, hm⟩ | ⟨ρ11, h5, hm⟩
  · refine zx_callV (σ := σ) C [.int (p1), .int (p2), .int (p3)] tC_10 k1 i2 Y_X10_write W_5_145 W_5_146 W_5_147 (c_X10_write h5) (by decide) (by decide) rfl (Nat.le_of_ble_eq_true rfl) dL_write_7 rfl ?_
    refine zx_i2l C dL_write_10 ?_
    obtain ⟨n8, k6, i7, hm⟩ := ckR_e hm
    obtain ⟨h9, hm⟩ := ckI_e hm
    refine zx_last C k6 i7 h9 dL_write_11 ?_
    refine zx_goto C 19 dL_write_12 (by decide) ?_
    refine zx_iconst (v := 0) C dL_write_19 (by decide) ?_
    obtain ⟨rfl, rfl⟩ := ret_e hm
    exact zx_iret C rfl rfl rfl dL_write_20
  · refine zx_catchV (σ := σ) (x9 := { startPc := 0, endPc := 12, handlerPc := 15, catchType := 13 }) C (tableOf []) (tableOf []) htab (by decide) (by decide) (by decide) (E := "java/lang/IllegalStateException") W_3_103 W_3_118 [.int (p1), .int (p2), .int (p3)] tC_10 k1 i2 Y_X10_write W_5_145 W_5_146 W_5_147 (c_X10_write h5) (by decide) (by decide) rfl (Nat.le_of_ble_eq_true rfl) dL_write_7 rfl (fun q10 => ?_)
    refine zx_astore C [(5, .ref (q10)), (0, .ref (p0)), (1, .int (p1)), (2, .int (p2)), (3, .int (p3)), (4, .ref (p4))] dL_write_15 (by decide) rfl ?_
    refine zx_iconst (v := 1) C dL_write_17 (by decide) ?_
    obtain ⟨rfl, rfl⟩ := ret_e hm
    exact zx_iret C rfl rfl rfl dL_write_18
abbrev cL_fill : ByteArray := method_13_code
def yL_fill : MethodName := ⟨"SyncTreeLaw", "fill", "(LSyncTree;IIII[J)I"⟩
theorem Y_L_fill : tYH yL_fill cL_fill 7 (some .int) [(0, 14, 17, 13)] 6 := ⟨W_5_165, W_1_0, ⟨by decide +kernel, by decide +kernel⟩, by decide +kernel⟩
theorem dL_fill_0 : decode cL_fill 0 = .ok (.aload 5, 2) := by decide +kernel
theorem dL_fill_2 : decode cL_fill 2 = .ok (.iconst 0, 1) := by decide +kernel
theorem dL_fill_3 : decode cL_fill 3 = .ok (.aload_n 0, 1) := by decide +kernel
theorem dL_fill_4 : decode cL_fill 4 = .ok (.iload_n 1, 1) := by decide +kernel
theorem dL_fill_5 : decode cL_fill 5 = .ok (.iload_n 2, 1) := by decide +kernel
theorem dL_fill_6 : decode cL_fill 6 = .ok (.iload_n 3, 1) := by decide +kernel
theorem dL_fill_7 : decode cL_fill 7 = .ok (.iload 4, 2) := by decide +kernel
theorem dL_fill_9 : decode cL_fill 9 = .ok (.invokevirtual 44, 3) := by decide +kernel
theorem dL_fill_12 : decode cL_fill 12 = .ok (.i2l, 1) := by decide +kernel
theorem dL_fill_13 : decode cL_fill 13 = .ok (.lastore, 1) := by decide +kernel
theorem dL_fill_14 : decode cL_fill 14 = .ok (.goto 7, 3) := by decide +kernel
theorem dL_fill_17 : decode cL_fill 17 = .ok (.astore 6, 2) := by decide +kernel
theorem dL_fill_19 : decode cL_fill 19 = .ok (.iconst 1, 1) := by decide +kernel
theorem dL_fill_20 : decode cL_fill 20 = .ok (.ireturn, 1) := by decide +kernel
theorem dL_fill_21 : decode cL_fill 21 = .ok (.iconst 0, 1) := by decide +kernel
theorem dL_fill_22 : decode cL_fill 22 = .ok (.ireturn, 1) := by decide +kernel
set_option maxRecDepth 100000 in
set_option maxHeartbeats 1000000 in
theorem c_L_fill {l : Launch} {D : va_G} {aC : Nat → ClassId} {b0 fu : Nat} {p0 : Nat} {p1 : Int32} {p2 : Int32} {p3 : Int32} {p4 : Int32} {p5 : Nat} {σ τ : tM} {v : Int32} (hm : m_L_fill b0 fu p0 p1 p2 p3 p4 p5 σ = some (v, τ)) : tMt l D aC b0 yL_fill (Cond.codeWith yL_fill cL_fill 7 (some .int) [(0, 14, 17, 13)]) 13 245 [.ref (p0), .int (p1), .int (p2), .int (p3), .int (p4), .ref (p5)] σ (.inl (some (.int v))) τ := by
  unfold m_L_fill at hm
  obtain ⟨hg, hm⟩ := grw_e hm
  refine tMt_ofH rfl (Nat.le_of_ble_eq_true rfl) hg ?_
  intro p e s m below meth c C htab hin
  refine zx_lv [0, 1, 2, 3, 4, 5] [(0, .ref (p0)), (1, .int (p1)), (2, .int (p2)), (3, .int (p3)), (4, .int (p4)), (5, .ref (p5))] rfl ?_
  refine zx_aload C dL_fill_0 5 rfl ?_
  refine zx_iconst (v := 0) C dL_fill_2 (by decide) ?_
  refine zx_aload_n C dL_fill_3 0 rfl ?_
  refine zx_iload_n C dL_fill_4 1 rfl ?_
  refine zx_iload_n C dL_fill_5 2 rfl ?_
  refine zx_iload_n C dL_fill_6 3 rfl ?_
  refine zx_iload C dL_fill_7 4 rfl ?_
  obtain ⟨k1, i2, hm⟩ := ckO_e hm
  rcases cly_e hm with ⟨v3, ρ4, h5, hm⟩ | ⟨ρ11, h5, hm⟩
  · refine zx_callV (σ := σ) C [.int (p1), .int (p2), .int (p3), .int (p4)] tC_10 k1 i2 Y_X10_fill W_5_166 W_5_167 W_5_168 (c_X10_fill h5) (by decide) (by decide) rfl (Nat.le_of_ble_eq_true rfl) dL_fill_9 rfl ?_
    refine zx_i2l C dL_fill_12 ?_
    obtain ⟨n8, k6, i7, hm⟩ := ckR_e hm
    obtain ⟨h9, hm⟩ := ckI_e hm
    refine zx_last C k6 i7 h9 dL_fill_13 ?_
    refine zx_goto C 21 dL_fill_14 (by decide) ?_
    refine zx_iconst (v := 0) C dL_fill_21 (by decide) ?_
    obtain ⟨rfl, rfl⟩ := ret_e hm
    exact zx_iret C rfl rfl rfl dL_fill_22
  · refine zx_catchV (σ := σ) (x9 := { startPc := 0, endPc := 14, handlerPc := 17, catchType := 13 }) C (tableOf []) (tableOf []) htab (by decide) (by decide) (by decide) (E := "java/lang/IllegalStateException") W_3_103 W_3_118 [.int (p1), .int (p2), .int (p3), .int (p4)] tC_10 k1 i2 Y_X10_fill W_5_166 W_5_167 W_5_168 (c_X10_fill h5) (by decide) (by decide) rfl (Nat.le_of_ble_eq_true rfl) dL_fill_9 rfl (fun q10 => ?_)
    refine zx_astore C [(6, .ref (q10)), (0, .ref (p0)), (1, .int (p1)), (2, .int (p2)), (3, .int (p3)), (4, .int (p4)), (5, .ref (p5))] dL_fill_17 (by decide) rfl ?_
    refine zx_iconst (v := 1) C dL_fill_19 (by decide) ?_
    obtain ⟨rfl, rfl⟩ := ret_e hm
    exact zx_iret C rfl rfl rfl dL_fill_20
abbrev cL_truncate : ByteArray := method_14_code
def yL_truncate : MethodName := ⟨"SyncTreeLaw", "truncate", "(LSyncTree;II[J)I"⟩
theorem Y_L_truncate : tYH yL_truncate cL_truncate 5 (some .int) [(0, 10, 13, 13)] 4 := ⟨W_5_176, W_1_0, ⟨by decide +kernel, by decide +kernel⟩, by decide +kernel⟩
theorem dL_truncate_0 : decode cL_truncate 0 = .ok (.aload_n 3, 1) := by decide +kernel
theorem dL_truncate_1 : decode cL_truncate 1 = .ok (.iconst 0, 1) := by decide +kernel
theorem dL_truncate_2 : decode cL_truncate 2 = .ok (.aload_n 0, 1) := by decide +kernel
theorem dL_truncate_3 : decode cL_truncate 3 = .ok (.iload_n 1, 1) := by decide +kernel
theorem dL_truncate_4 : decode cL_truncate 4 = .ok (.iload_n 2, 1) := by decide +kernel
theorem dL_truncate_5 : decode cL_truncate 5 = .ok (.invokevirtual 48, 3) := by decide +kernel
theorem dL_truncate_8 : decode cL_truncate 8 = .ok (.i2l, 1) := by decide +kernel
theorem dL_truncate_9 : decode cL_truncate 9 = .ok (.lastore, 1) := by decide +kernel
theorem dL_truncate_10 : decode cL_truncate 10 = .ok (.goto 7, 3) := by decide +kernel
theorem dL_truncate_13 : decode cL_truncate 13 = .ok (.astore 4, 2) := by decide +kernel
theorem dL_truncate_15 : decode cL_truncate 15 = .ok (.iconst 1, 1) := by decide +kernel
theorem dL_truncate_16 : decode cL_truncate 16 = .ok (.ireturn, 1) := by decide +kernel
theorem dL_truncate_17 : decode cL_truncate 17 = .ok (.iconst 0, 1) := by decide +kernel
theorem dL_truncate_18 : decode cL_truncate 18 = .ok (.ireturn, 1) := by decide +kernel
set_option maxRecDepth 100000 in
set_option maxHeartbeats 1000000 in
theorem c_L_truncate {l : Launch} {D : va_G} {aC : Nat → ClassId} {b0 fu : Nat} {p0 : Nat} {p1 : Int32} {p2 : Int32} {p3 : Nat} {σ τ : tM} {v : Int32} (hm : m_L_truncate b0 fu p0 p1 p2 p3 σ = some (v, τ)) : tMt l D aC b0 yL_truncate (Cond.codeWith yL_truncate cL_truncate 5 (some .int) [(0, 10, 13, 13)]) 13 242 [.ref (p0), .int (p1), .int (p2), .ref (p3)] σ (.inl (some (.int v))) τ := by
  unfold m_L_truncate at hm
  obtain ⟨hg, hm⟩ := grw_e hm
  refine tMt_ofH rfl (Nat.le_of_ble_eq_true rfl) hg ?_
  intro p e s m below meth c C htab hin
  refine zx_lv [0, 1, 2, 3] [(0, .ref (p0)), (1, .int (p1)), (2, .int (p2)), (3, .ref (p3))] rfl ?_
  refine zx_aload_n C dL_truncate_0 3 rfl ?_
  refine zx_iconst (v := 0) C dL_truncate_1 (by decide) ?_
  refine zx_aload_n C dL_truncate_2 0 rfl ?_
  refine zx_iload_n C dL_truncate_3 1 rfl ?_
  refine zx_iload_n C dL_truncate_4 2 rfl ?_
  obtain ⟨k1, i2, hm⟩ := ckO_e hm
  rcases cly_e hm with ⟨v3, ρ4, h5, hm⟩ | ⟨ρ11, h5, hm⟩
  · refine zx_callV (σ := σ) C [.int (p1), .int (p2)] tC_10 k1 i2 Y_X10_truncate W_5_177 W_5_178 W_5_179 (c_X10_truncate h5) (by decide) (by decide) rfl (Nat.le_of_ble_eq_true rfl) dL_truncate_5 rfl ?_
    refine zx_i2l C dL_truncate_8 ?_
    obtain ⟨n8, k6, i7, hm⟩ := ckR_e hm
    obtain ⟨h9, hm⟩ := ckI_e hm
    refine zx_last C k6 i7 h9 dL_truncate_9 ?_
    refine zx_goto C 17 dL_truncate_10 (by decide) ?_
    refine zx_iconst (v := 0) C dL_truncate_17 (by decide) ?_
    obtain ⟨rfl, rfl⟩ := ret_e hm
    exact zx_iret C rfl rfl rfl dL_truncate_18
  · refine zx_catchV (σ := σ) (x9 := { startPc := 0, endPc := 10, handlerPc := 13, catchType := 13 }) C (tableOf []) (tableOf []) htab (by decide) (by decide) (by decide) (E := "java/lang/IllegalStateException") W_3_103 W_3_118 [.int (p1), .int (p2)] tC_10 k1 i2 Y_X10_truncate W_5_177 W_5_178 W_5_179 (c_X10_truncate h5) (by decide) (by decide) rfl (Nat.le_of_ble_eq_true rfl) dL_truncate_5 rfl (fun q10 => ?_)
    refine zx_astore C [(4, .ref (q10)), (0, .ref (p0)), (1, .int (p1)), (2, .int (p2)), (3, .ref (p3))] dL_truncate_13 (by decide) rfl ?_
    refine zx_iconst (v := 1) C dL_truncate_15 (by decide) ?_
    obtain ⟨rfl, rfl⟩ := ret_e hm
    exact zx_iret C rfl rfl rfl dL_truncate_16
abbrev cL_recover : ByteArray := method_29_code
def yL_recover : MethodName := ⟨"SyncTreeLaw", "recover", "(LSyncTree;[J)I"⟩
theorem Y_L_recover : tYH yL_recover cL_recover 3 (some .int) [(0, 8, 11, 13)] 2 := ⟨W_6_112, W_1_0, ⟨by decide +kernel, by decide +kernel⟩, by decide +kernel⟩
theorem dL_recover_0 : decode cL_recover 0 = .ok (.aload_n 1, 1) := by decide +kernel
theorem dL_recover_1 : decode cL_recover 1 = .ok (.iconst 0, 1) := by decide +kernel
theorem dL_recover_2 : decode cL_recover 2 = .ok (.aload_n 0, 1) := by decide +kernel
theorem dL_recover_3 : decode cL_recover 3 = .ok (.invokevirtual 96, 3) := by decide +kernel
theorem dL_recover_6 : decode cL_recover 6 = .ok (.i2l, 1) := by decide +kernel
theorem dL_recover_7 : decode cL_recover 7 = .ok (.lastore, 1) := by decide +kernel
theorem dL_recover_8 : decode cL_recover 8 = .ok (.goto 6, 3) := by decide +kernel
theorem dL_recover_11 : decode cL_recover 11 = .ok (.astore_n 2, 1) := by decide +kernel
theorem dL_recover_12 : decode cL_recover 12 = .ok (.iconst 1, 1) := by decide +kernel
theorem dL_recover_13 : decode cL_recover 13 = .ok (.ireturn, 1) := by decide +kernel
theorem dL_recover_14 : decode cL_recover 14 = .ok (.iconst 0, 1) := by decide +kernel
theorem dL_recover_15 : decode cL_recover 15 = .ok (.ireturn, 1) := by decide +kernel
set_option maxRecDepth 100000 in
set_option maxHeartbeats 1000000 in
theorem c_L_recover {l : Launch} {D : va_G} {aC : Nat → ClassId} {b0 fu : Nat} {p0 : Nat} {p1 : Nat} {σ τ : tM} {v : Int32} (hm : m_L_recover b0 fu p0 p1 σ = some (v, τ)) : tMt l D aC b0 yL_recover (Cond.codeWith yL_recover cL_recover 3 (some .int) [(0, 8, 11, 13)]) 10 189 [.ref (p0), .ref (p1)] σ (.inl (some (.int v))) τ := by
  unfold m_L_recover at hm
  obtain ⟨hg, hm⟩ := grw_e hm
  refine tMt_ofH rfl (Nat.le_of_ble_eq_true rfl) hg ?_
  intro p e s m below meth c C htab hin
  refine zx_lv [0, 1] [(0, .ref (p0)), (1, .ref (p1))] rfl ?_
  refine zx_aload_n C dL_recover_0 1 rfl ?_
  refine zx_iconst (v := 0) C dL_recover_1 (by decide) ?_
  refine zx_aload_n C dL_recover_2 0 rfl ?_
  obtain ⟨k1, i2, hm⟩ := ckO_e hm
  rcases cly_e hm with ⟨v3, ρ4, h5, hm⟩ | ⟨ρ11, h5, hm⟩
  · refine zx_callV (σ := σ) C [] tC_10 k1 i2 Y_X10_recover W_6_113 W_6_114 W_6_115 (c_X10_recover h5) (by decide) (by decide) rfl (Nat.le_of_ble_eq_true rfl) dL_recover_3 rfl ?_
    refine zx_i2l C dL_recover_6 ?_
    obtain ⟨n8, k6, i7, hm⟩ := ckR_e hm
    obtain ⟨h9, hm⟩ := ckI_e hm
    refine zx_last C k6 i7 h9 dL_recover_7 ?_
    refine zx_goto C 14 dL_recover_8 (by decide) ?_
    refine zx_iconst (v := 0) C dL_recover_14 (by decide) ?_
    obtain ⟨rfl, rfl⟩ := ret_e hm
    exact zx_iret C rfl rfl rfl dL_recover_15
  · refine zx_catchV (σ := σ) (x9 := { startPc := 0, endPc := 8, handlerPc := 11, catchType := 13 }) C (tableOf []) (tableOf []) htab (by decide) (by decide) (by decide) (E := "java/lang/IllegalStateException") W_3_103 W_3_118 [] tC_10 k1 i2 Y_X10_recover W_6_113 W_6_114 W_6_115 (c_X10_recover h5) (by decide) (by decide) rfl (Nat.le_of_ble_eq_true rfl) dL_recover_3 rfl (fun q10 => ?_)
    refine zx_astore_n C [(2, .ref (q10)), (0, .ref (p0)), (1, .ref (p1))] dL_recover_11 rfl (by decide) rfl ?_
    refine zx_iconst (v := 1) C dL_recover_12 (by decide) ?_
    obtain ⟨rfl, rfl⟩ := ret_e hm
    exact zx_iret C rfl rfl rfl dL_recover_13
