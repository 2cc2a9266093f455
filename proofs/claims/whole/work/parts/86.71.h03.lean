abbrev cX12_fsync : ByteArray := prog_13_method_101_code
def yX12_fsync : MethodName := ⟨"SyncTreeModel", "fsync", "(I)I"⟩
theorem Y_X12_fsync : tYH yX12_fsync cX12_fsync 3 (some .int) [(5, 19, 51, 425), (20, 50, 51, 425)] 1 := ⟨W_9_43, W_1_14, ⟨by decide +kernel, by decide +kernel⟩, by decide +kernel⟩
theorem dX12_fsync_0 : decode cX12_fsync 0 = .ok (.aload_n 0, 1) := by decide +kernel
theorem dX12_fsync_1 : decode cX12_fsync 1 = .ok (.iconst 0, 1) := by decide +kernel
theorem dX12_fsync_2 : decode cX12_fsync 2 = .ok (.putfield 3, 3) := by decide +kernel
theorem dX12_fsync_5 : decode cX12_fsync 5 = .ok (.aload_n 0, 1) := by decide +kernel
theorem dX12_fsync_6 : decode cX12_fsync 6 = .ok (.invokevirtual 403, 3) := by decide +kernel
theorem dX12_fsync_9 : decode cX12_fsync 9 = .ok (.aload_n 0, 1) := by decide +kernel
theorem dX12_fsync_10 : decode cX12_fsync 10 = .ok (.iload_n 1, 1) := by decide +kernel
theorem dX12_fsync_11 : decode cX12_fsync 11 = .ok (.invokevirtual 446, 3) := by decide +kernel
theorem dX12_fsync_14 : decode cX12_fsync 14 = .ok (.ifCond .ne 6, 3) := by decide +kernel
theorem dX12_fsync_17 : decode cX12_fsync 17 = .ok (.bipush (-9), 2) := by decide +kernel
theorem dX12_fsync_19 : decode cX12_fsync 19 = .ok (.ireturn, 1) := by decide +kernel
theorem dX12_fsync_20 : decode cX12_fsync 20 = .ok (.aload_n 0, 1) := by decide +kernel
theorem dX12_fsync_21 : decode cX12_fsync 21 = .ok (.aload_n 0, 1) := by decide +kernel
theorem dX12_fsync_22 : decode cX12_fsync 22 = .ok (.getfield 286, 3) := by decide +kernel
theorem dX12_fsync_25 : decode cX12_fsync 25 = .ok (.iload_n 1, 1) := by decide +kernel
theorem dX12_fsync_26 : decode cX12_fsync 26 = .ok (.iaload, 1) := by decide +kernel
theorem dX12_fsync_27 : decode cX12_fsync 27 = .ok (.sipush 2000, 3) := by decide +kernel
theorem dX12_fsync_30 : decode cX12_fsync 30 = .ok (.invokevirtual 465, 3) := by decide +kernel
theorem dX12_fsync_33 : decode cX12_fsync 33 = .ok (.istore_n 2, 1) := by decide +kernel
theorem dX12_fsync_34 : decode cX12_fsync 34 = .ok (.aload_n 0, 1) := by decide +kernel
theorem dX12_fsync_35 : decode cX12_fsync 35 = .ok (.invokevirtual 171, 3) := by decide +kernel
theorem dX12_fsync_38 : decode cX12_fsync 38 = .ok (.ifCond .le 7, 3) := by decide +kernel
theorem dX12_fsync_41 : decode cX12_fsync 41 = .ok (.aload_n 0, 1) := by decide +kernel
theorem dX12_fsync_42 : decode cX12_fsync 42 = .ok (.invokevirtual 230, 3) := by decide +kernel
theorem dX12_fsync_45 : decode cX12_fsync 45 = .ok (.aload_n 0, 1) := by decide +kernel
theorem dX12_fsync_46 : decode cX12_fsync 46 = .ok (.invokevirtual 224, 3) := by decide +kernel
theorem dX12_fsync_49 : decode cX12_fsync 49 = .ok (.iload_n 2, 1) := by decide +kernel
theorem dX12_fsync_50 : decode cX12_fsync 50 = .ok (.ireturn, 1) := by decide +kernel
theorem dX12_fsync_51 : decode cX12_fsync 51 = .ok (.astore_n 2, 1) := by decide +kernel
theorem dX12_fsync_52 : decode cX12_fsync 52 = .ok (.aload_n 0, 1) := by decide +kernel
theorem dX12_fsync_53 : decode cX12_fsync 53 = .ok (.invokevirtual 427, 3) := by decide +kernel
theorem dX12_fsync_56 : decode cX12_fsync 56 = .ok (.ireturn, 1) := by decide +kernel
set_option maxRecDepth 100000 in
set_option maxHeartbeats 1000000 in
theorem j_X12_fsync_45 {p : Program} {l : Launch} {e : Env} {s : State} {m : MethodId} {args : Array Value} {below : List Frame} {meth : Method} {c : Code} {D : va_G} {aC : Nat → ClassId} {b0 fu : Nat} {σ0 τ : tM} {v : Int32}  (C : tCx p l s m args meth c yX12_fsync.cls cX12_fsync 3 (some .int) D aC b0 σ0) (htab : c.exceptionTable.toList = tableOf [(5, 19, 51, 425), (20, 50, 51, 425)]) (hin : meth.name = yX12_fsync.name)  {x0 : Nat} {x2 : Int32} {σ : tM} (hm : J_X12_fsync_45 b0 fu  x0 x2 σ = some (v, τ)) : tX p l e s m args below meth c 3 7 160 D aC b0 σ0 (.inl (some (.int v))) τ 45 [(0, .ref (x0)), (2, .int (x2))] [] σ := by
  unfold J_X12_fsync_45 at hm
  refine zx_aload_n C dX12_fsync_45 0 rfl ?_
  obtain ⟨k29, i30, hm⟩ := ckO_e hm
  rcases cly_e hm with ⟨v31, ρ32, h33, hm⟩ | ⟨ρ35, h33, hm⟩
  · refine zx_callV (σ := σ) C [] tC_11 k29 i30 Y_X12_flush W_7_208 W_7_210 Wp_63 (c_X12_flush h33) (by decide) (by decide) rfl (Nat.le_of_ble_eq_true rfl) dX12_fsync_46 rfl ?_
    refine zx_iload_n C dX12_fsync_49 1 rfl ?_
    obtain ⟨rfl, rfl⟩ := ret_e hm
    exact zx_iret C rfl rfl rfl dX12_fsync_50
  · refine zx_catchV (σ := σ) (x9 := { startPc := 20, endPc := 50, handlerPc := 51, catchType := 425 }) C (tableOf [(5, 19, 51, 425)]) (tableOf []) htab (by decide) (by decide) (by decide) (E := "SyncTreeModel$Off") W_7_174 W_9_132 [] tC_11 k29 i30 Y_X12_flush W_7_208 W_7_210 Wp_63 (c_X12_flush h33) (by decide) (by decide) rfl (Nat.le_of_ble_eq_true rfl) dX12_fsync_46 rfl (fun q34 => ?_)
    refine zx_astore_n C [(2, .ref (q34)), (0, .ref (x0))] dX12_fsync_51 rfl (by decide) rfl ?_
    refine zx_aload_n C dX12_fsync_52 1 rfl ?_
    obtain ⟨k36, i37, hm⟩ := ckO_e hm
    obtain ⟨v38, ρ39, h40, hm⟩ := cll_e hm
    refine zx_callV (σ := ρ35) C [] tC_11 k36 i37 Y_X12_off W_8_135 W_8_137 Wp_103 (c_X12_off h40) (by decide) (by decide) rfl (Nat.le_of_ble_eq_true rfl) dX12_fsync_53 rfl ?_
    obtain ⟨rfl, rfl⟩ := ret_e hm
    exact zx_iret C rfl rfl rfl dX12_fsync_56
set_option maxRecDepth 100000 in
set_option maxHeartbeats 1000000 in
theorem c_X12_fsync {l : Launch} {D : va_G} {aC : Nat → ClassId} {b0 fu : Nat} {a0 : Nat} {p0 : Int32} {σ τ : tM} {v : Int32} (hm : m_X12_fsync b0 fu a0 p0 σ = some (v, τ)) : tMt l D aC b0 yX12_fsync (Cond.codeWith yX12_fsync cX12_fsync 3 (some .int) [(5, 19, 51, 425), (20, 50, 51, 425)]) 7 160 [.ref (a0), .int (p0)] σ (.inl (some (.int v))) τ := by
  unfold m_X12_fsync at hm
  obtain ⟨hg, hm⟩ := grw_e hm
  refine tMt_ofH rfl (Nat.le_of_ble_eq_true rfl) hg ?_
  intro p e s m below meth c C htab hin
  refine zx_lv [0, 1] [(0, .ref (a0)), (1, .int (p0))] rfl ?_
  refine zx_aload_n C dX12_fsync_0 0 rfl ?_
  refine zx_iconst (v := 0) C dX12_fsync_1 (by decide) ?_
  obtain ⟨k1, i2, hm⟩ := ckO_e hm
  refine zx_put (j := 0) (ρ := sI (σ) (a0) 0 (0)) C tC_11 k1 i2 ⟨by decide, Or.inl W_6_220⟩ rfl rfl rfl (sI_ok (fun _ => rfl)) dX12_fsync_2 ?_
  refine zx_aload_n C dX12_fsync_5 0 rfl ?_
  rcases cly_e hm with ⟨v3, ρ4, h5, hm⟩ | ⟨ρ61, h5, hm⟩
  · refine zx_callV (σ := sI (σ) (a0) 0 (0)) C [] tC_11 k1 i2 Y_X12_up W_7_179 W_7_181 Wp_57 (c_X12_up h5) (by decide) (by decide) rfl (Nat.le_of_ble_eq_true rfl) dX12_fsync_6 rfl ?_
    refine zx_aload_n C dX12_fsync_9 0 rfl ?_
    refine zx_iload_n C dX12_fsync_10 1 rfl ?_
    obtain ⟨k6, i7, hm⟩ := ckO_e hm
    obtain ⟨v8, ρ9, h10, hm⟩ := cll_e hm
    refine zx_callV (σ := ρ4) C [.int (p0)] tC_11 k6 i7 Y_X12_isHandle W_8_221 W_8_223 Wp_116 (c_X12_isHandle h10) (by decide) (by decide) rfl (Nat.le_of_ble_eq_true rfl) dX12_fsync_11 rfl ?_
    refine zx_if_ne C 20 dX12_fsync_14 (by decide) (fun c11 => ?_) (fun c11 => ?_)
    · replace hm := in_e hm c11
      refine zx_aload_n C dX12_fsync_20 0 rfl ?_
      refine zx_aload_n C dX12_fsync_21 0 rfl ?_
      obtain ⟨k12, i13, hm⟩ := ckO_e hm
      obtain ⟨a14, h15, hm⟩ := osm_e hm
      refine zx_get (j := 58) C tC_11 k12 i13 ⟨by decide, Or.inl W_7_37⟩ dX12_fsync_22 (.ref a14) (rf_s h15) ?_
      refine zx_iload_n C dX12_fsync_25 1 rfl ?_
      obtain ⟨n18, k16, i17, hm⟩ := ckR_e hm
      obtain ⟨h19, hm⟩ := ckI_e hm
      refine zx_iald C k16 i17 h19 dX12_fsync_26 ?_
      refine zx_sipush (v := 2000) C dX12_fsync_27 (by decide) ?_
      rcases cly_e hm with ⟨v20, ρ21, h22, hm⟩ | ⟨ρ54, h22, hm⟩
      · refine zx_callV (σ := ρ9) C [.int (tI (ρ9) (a14) ((p0).toNatClampNeg)), .int (2000)] tC_11 k12 i13 Y_X12_writeDirty W_9_44 W_9_46 Wp_120 (c_X12_writeDirty h22) (by decide) (by decide) rfl (Nat.le_of_ble_eq_true rfl) dX12_fsync_30 rfl ?_
        refine zx_istore_n C [(2, .int (v20)), (0, .ref (a0)), (1, .int (p0))] dX12_fsync_33 rfl (by decide) rfl ?_
        refine zx_aload_n C dX12_fsync_34 1 rfl ?_
        obtain ⟨k23, i24, hm⟩ := ckO_e hm
        obtain ⟨v25, ρ26, h27, hm⟩ := cll_e hm
        refine zx_callV (σ := ρ21) C [] tC_11 k23 i24 Y_X12_groupSize W_7_189 W_7_191 Wp_59 (c_X12_groupSize h27) (by decide) (by decide) rfl (Nat.le_of_ble_eq_true rfl) dX12_fsync_35 rfl ?_
        refine zx_if_le C 45 dX12_fsync_38 (by decide) (fun c28 => ?_) (fun c28 => ?_)
        · replace hm := ip_e hm c28
          exact zx_lv [1, 0] [(0, .ref (a0)), (2, .int (v20))] rfl (j_X12_fsync_45 C htab hin    hm)
        · replace hm := in_e hm c28
          refine zx_aload_n C dX12_fsync_41 1 rfl ?_
          obtain ⟨k41, i42, hm⟩ := ckO_e hm
          rcases cly_e hm with ⟨v43, ρ44, h45, hm⟩ | ⟨ρ47, h45, hm⟩
          · refine zx_callV (σ := ρ26) C [] tC_11 k41 i42 Y_X12_commit W_7_196 W_7_198 Wp_60 (c_X12_commit h45) (by decide) (by decide) rfl (Nat.le_of_ble_eq_true rfl) dX12_fsync_42 rfl ?_
            exact zx_lv [1, 0] [(0, .ref (a0)), (2, .int (v20))] rfl (j_X12_fsync_45 C htab hin    hm)
          · refine zx_catchV (σ := ρ26) (x9 := { startPc := 20, endPc := 50, handlerPc := 51, catchType := 425 }) C (tableOf [(5, 19, 51, 425)]) (tableOf []) htab (by decide) (by decide) (by decide) (E := "SyncTreeModel$Off") W_7_174 W_9_132 [] tC_11 k41 i42 Y_X12_commit W_7_196 W_7_198 Wp_60 (c_X12_commit h45) (by decide) (by decide) rfl (Nat.le_of_ble_eq_true rfl) dX12_fsync_42 rfl (fun q46 => ?_)
            refine zx_astore_n C [(2, .ref (q46)), (0, .ref (a0)), (1, .int (p0))] dX12_fsync_51 rfl (by decide) rfl ?_
            refine zx_aload_n C dX12_fsync_52 1 rfl ?_
            obtain ⟨k48, i49, hm⟩ := ckO_e hm
            obtain ⟨v50, ρ51, h52, hm⟩ := cll_e hm
            refine zx_callV (σ := ρ47) C [] tC_11 k48 i49 Y_X12_off W_8_135 W_8_137 Wp_103 (c_X12_off h52) (by decide) (by decide) rfl (Nat.le_of_ble_eq_true rfl) dX12_fsync_53 rfl ?_
            obtain ⟨rfl, rfl⟩ := ret_e hm
            exact zx_iret C rfl rfl rfl dX12_fsync_56
      · refine zx_catchV (σ := ρ9) (x9 := { startPc := 20, endPc := 50, handlerPc := 51, catchType := 425 }) C (tableOf [(5, 19, 51, 425)]) (tableOf []) htab (by decide) (by decide) (by decide) (E := "SyncTreeModel$Off") W_7_174 W_9_132 [.int (tI (ρ9) (a14) ((p0).toNatClampNeg)), .int (2000)] tC_11 k12 i13 Y_X12_writeDirty W_9_44 W_9_46 Wp_120 (c_X12_writeDirty h22) (by decide) (by decide) rfl (Nat.le_of_ble_eq_true rfl) dX12_fsync_30 rfl (fun q53 => ?_)
        refine zx_astore_n C [(2, .ref (q53)), (0, .ref (a0)), (1, .int (p0))] dX12_fsync_51 rfl (by decide) rfl ?_
        refine zx_aload_n C dX12_fsync_52 1 rfl ?_
        obtain ⟨k55, i56, hm⟩ := ckO_e hm
        obtain ⟨v57, ρ58, h59, hm⟩ := cll_e hm
        refine zx_callV (σ := ρ54) C [] tC_11 k55 i56 Y_X12_off W_8_135 W_8_137 Wp_103 (c_X12_off h59) (by decide) (by decide) rfl (Nat.le_of_ble_eq_true rfl) dX12_fsync_53 rfl ?_
        obtain ⟨rfl, rfl⟩ := ret_e hm
        exact zx_iret C rfl rfl rfl dX12_fsync_56
    · replace hm := ip_e hm c11
      refine zx_bipush (v := (-9)) C dX12_fsync_17 (by decide) ?_
      obtain ⟨rfl, rfl⟩ := ret_e hm
      exact zx_iret C rfl rfl rfl dX12_fsync_19
  · refine zx_catchV (σ := sI (σ) (a0) 0 (0)) (x9 := { startPc := 5, endPc := 19, handlerPc := 51, catchType := 425 }) C (tableOf []) (tableOf [(20, 50, 51, 425)]) htab (by decide) (by decide) (by decide) (E := "SyncTreeModel$Off") W_7_174 W_9_132 [] tC_11 k1 i2 Y_X12_up W_7_179 W_7_181 Wp_57 (c_X12_up h5) (by decide) (by decide) rfl (Nat.le_of_ble_eq_true rfl) dX12_fsync_6 rfl (fun q60 => ?_)
    refine zx_astore_n C [(2, .ref (q60)), (0, .ref (a0)), (1, .int (p0))] dX12_fsync_51 rfl (by decide) rfl ?_
    refine zx_aload_n C dX12_fsync_52 1 rfl ?_
    obtain ⟨k62, i63, hm⟩ := ckO_e hm
    obtain ⟨v64, ρ65, h66, hm⟩ := cll_e hm
    refine zx_callV (σ := ρ61) C [] tC_11 k62 i63 Y_X12_off W_8_135 W_8_137 Wp_103 (c_X12_off h66) (by decide) (by decide) rfl (Nat.le_of_ble_eq_true rfl) dX12_fsync_53 rfl ?_
    obtain ⟨rfl, rfl⟩ := ret_e hm
    exact zx_iret C rfl rfl rfl dX12_fsync_56
abbrev cX12_fdatasync : ByteArray := prog_13_method_102_code
def yX12_fdatasync : MethodName := ⟨"SyncTreeModel", "fdatasync", "(I)I"⟩
theorem Y_X12_fdatasync : tYH yX12_fdatasync cX12_fdatasync 3 (some .int) [(5, 19, 58, 425), (20, 57, 58, 425)] 1 := ⟨W_9_51, W_1_14, ⟨by decide +kernel, by decide +kernel⟩, by decide +kernel⟩
theorem dX12_fdatasync_0 : decode cX12_fdatasync 0 = .ok (.aload_n 0, 1) := by decide +kernel
theorem dX12_fdatasync_1 : decode cX12_fdatasync 1 = .ok (.iconst 0, 1) := by decide +kernel
theorem dX12_fdatasync_2 : decode cX12_fdatasync 2 = .ok (.putfield 3, 3) := by decide +kernel
theorem dX12_fdatasync_5 : decode cX12_fdatasync 5 = .ok (.aload_n 0, 1) := by decide +kernel
theorem dX12_fdatasync_6 : decode cX12_fdatasync 6 = .ok (.invokevirtual 403, 3) := by decide +kernel
theorem dX12_fdatasync_9 : decode cX12_fdatasync 9 = .ok (.aload_n 0, 1) := by decide +kernel
theorem dX12_fdatasync_10 : decode cX12_fdatasync 10 = .ok (.iload_n 1, 1) := by decide +kernel
theorem dX12_fdatasync_11 : decode cX12_fdatasync 11 = .ok (.invokevirtual 446, 3) := by decide +kernel
theorem dX12_fdatasync_14 : decode cX12_fdatasync 14 = .ok (.ifCond .ne 6, 3) := by decide +kernel
theorem dX12_fdatasync_17 : decode cX12_fdatasync 17 = .ok (.bipush (-9), 2) := by decide +kernel
theorem dX12_fdatasync_19 : decode cX12_fdatasync 19 = .ok (.ireturn, 1) := by decide +kernel
theorem dX12_fdatasync_20 : decode cX12_fdatasync 20 = .ok (.aload_n 0, 1) := by decide +kernel
theorem dX12_fdatasync_21 : decode cX12_fdatasync 21 = .ok (.aload_n 0, 1) := by decide +kernel
theorem dX12_fdatasync_22 : decode cX12_fdatasync 22 = .ok (.getfield 286, 3) := by decide +kernel
theorem dX12_fdatasync_25 : decode cX12_fdatasync 25 = .ok (.iload_n 1, 1) := by decide +kernel
theorem dX12_fdatasync_26 : decode cX12_fdatasync 26 = .ok (.iaload, 1) := by decide +kernel
theorem dX12_fdatasync_27 : decode cX12_fdatasync 27 = .ok (.sipush 2000, 3) := by decide +kernel
theorem dX12_fdatasync_30 : decode cX12_fdatasync 30 = .ok (.invokevirtual 465, 3) := by decide +kernel
theorem dX12_fdatasync_33 : decode cX12_fdatasync 33 = .ok (.istore_n 2, 1) := by decide +kernel
theorem dX12_fdatasync_34 : decode cX12_fdatasync 34 = .ok (.aload_n 0, 1) := by decide +kernel
theorem dX12_fdatasync_35 : decode cX12_fdatasync 35 = .ok (.getfield 193, 3) := by decide +kernel
theorem dX12_fdatasync_38 : decode cX12_fdatasync 38 = .ok (.aload_n 0, 1) := by decide +kernel
theorem dX12_fdatasync_39 : decode cX12_fdatasync 39 = .ok (.getfield 286, 3) := by decide +kernel
theorem dX12_fdatasync_42 : decode cX12_fdatasync 42 = .ok (.iload_n 1, 1) := by decide +kernel
theorem dX12_fdatasync_43 : decode cX12_fdatasync 43 = .ok (.iaload, 1) := by decide +kernel
theorem dX12_fdatasync_44 : decode cX12_fdatasync 44 = .ok (.baload, 1) := by decide +kernel
theorem dX12_fdatasync_45 : decode cX12_fdatasync 45 = .ok (.ifCond .eq 7, 3) := by decide +kernel
theorem dX12_fdatasync_48 : decode cX12_fdatasync 48 = .ok (.aload_n 0, 1) := by decide +kernel
theorem dX12_fdatasync_49 : decode cX12_fdatasync 49 = .ok (.invokevirtual 230, 3) := by decide +kernel
theorem dX12_fdatasync_52 : decode cX12_fdatasync 52 = .ok (.aload_n 0, 1) := by decide +kernel
theorem dX12_fdatasync_53 : decode cX12_fdatasync 53 = .ok (.invokevirtual 224, 3) := by decide +kernel
theorem dX12_fdatasync_56 : decode cX12_fdatasync 56 = .ok (.iload_n 2, 1) := by decide +kernel
theorem dX12_fdatasync_57 : decode cX12_fdatasync 57 = .ok (.ireturn, 1) := by decide +kernel
theorem dX12_fdatasync_58 : decode cX12_fdatasync 58 = .ok (.astore_n 2, 1) := by decide +kernel
theorem dX12_fdatasync_59 : decode cX12_fdatasync 59 = .ok (.aload_n 0, 1) := by decide +kernel
theorem dX12_fdatasync_60 : decode cX12_fdatasync 60 = .ok (.invokevirtual 427, 3) := by decide +kernel
theorem dX12_fdatasync_63 : decode cX12_fdatasync 63 = .ok (.ireturn, 1) := by decide +kernel
set_option maxRecDepth 100000 in
set_option maxHeartbeats 1000000 in
theorem j_X12_fdatasync_52 {p : Program} {l : Launch} {e : Env} {s : State} {m : MethodId} {args : Array Value} {below : List Frame} {meth : Method} {c : Code} {D : va_G} {aC : Nat → ClassId} {b0 fu : Nat} {σ0 τ : tM} {v : Int32}  (C : tCx p l s m args meth c yX12_fdatasync.cls cX12_fdatasync 3 (some .int) D aC b0 σ0) (htab : c.exceptionTable.toList = tableOf [(5, 19, 58, 425), (20, 57, 58, 425)]) (hin : meth.name = yX12_fdatasync.name)  {x0 : Nat} {x2 : Int32} {σ : tM} (hm : J_X12_fdatasync_52 b0 fu  x0 x2 σ = some (v, τ)) : tX p l e s m args below meth c 3 7 160 D aC b0 σ0 (.inl (some (.int v))) τ 52 [(0, .ref (x0)), (2, .int (x2))] [] σ := by
  unfold J_X12_fdatasync_52 at hm
  refine zx_aload_n C dX12_fdatasync_52 0 rfl ?_
  obtain ⟨k38, i39, hm⟩ := ckO_e hm
  rcases cly_e hm with ⟨v40, ρ41, h42, hm⟩ | ⟨ρ44, h42, hm⟩
  · refine zx_callV (σ := σ) C [] tC_11 k38 i39 Y_X12_flush W_7_208 W_7_210 Wp_63 (c_X12_flush h42) (by decide) (by decide) rfl (Nat.le_of_ble_eq_true rfl) dX12_fdatasync_53 rfl ?_
    refine zx_iload_n C dX12_fdatasync_56 1 rfl ?_
    obtain ⟨rfl, rfl⟩ := ret_e hm
    exact zx_iret C rfl rfl rfl dX12_fdatasync_57
  · refine zx_catchV (σ := σ) (x9 := { startPc := 20, endPc := 57, handlerPc := 58, catchType := 425 }) C (tableOf [(5, 19, 58, 425)]) (tableOf []) htab (by decide) (by decide) (by decide) (E := "SyncTreeModel$Off") W_7_174 W_9_132 [] tC_11 k38 i39 Y_X12_flush W_7_208 W_7_210 Wp_63 (c_X12_flush h42) (by decide) (by decide) rfl (Nat.le_of_ble_eq_true rfl) dX12_fdatasync_53 rfl (fun q43 => ?_)
    refine zx_astore_n C [(2, .ref (q43)), (0, .ref (x0))] dX12_fdatasync_58 rfl (by decide) rfl ?_
    refine zx_aload_n C dX12_fdatasync_59 1 rfl ?_
    obtain ⟨k45, i46, hm⟩ := ckO_e hm
    obtain ⟨v47, ρ48, h49, hm⟩ := cll_e hm
    refine zx_callV (σ := ρ44) C [] tC_11 k45 i46 Y_X12_off W_8_135 W_8_137 Wp_103 (c_X12_off h49) (by decide) (by decide) rfl (Nat.le_of_ble_eq_true rfl) dX12_fdatasync_60 rfl ?_
    obtain ⟨rfl, rfl⟩ := ret_e hm
    exact zx_iret C rfl rfl rfl dX12_fdatasync_63
set_option maxRecDepth 100000 in
set_option maxHeartbeats 1000000 in
theorem c_X12_fdatasync {l : Launch} {D : va_G} {aC : Nat → ClassId} {b0 fu : Nat} {a0 : Nat} {p0 : Int32} {σ τ : tM} {v : Int32} (hm : m_X12_fdatasync b0 fu a0 p0 σ = some (v, τ)) : tMt l D aC b0 yX12_fdatasync (Cond.codeWith yX12_fdatasync cX12_fdatasync 3 (some .int) [(5, 19, 58, 425), (20, 57, 58, 425)]) 7 160 [.ref (a0), .int (p0)] σ (.inl (some (.int v))) τ := by
  unfold m_X12_fdatasync at hm
  obtain ⟨hg, hm⟩ := grw_e hm
  refine tMt_ofH rfl (Nat.le_of_ble_eq_true rfl) hg ?_
  intro p e s m below meth c C htab hin
  refine zx_lv [0, 1] [(0, .ref (a0)), (1, .int (p0))] rfl ?_
  refine zx_aload_n C dX12_fdatasync_0 0 rfl ?_
  refine zx_iconst (v := 0) C dX12_fdatasync_1 (by decide) ?_
  obtain ⟨k1, i2, hm⟩ := ckO_e hm
  refine zx_put (j := 0) (ρ := sI (σ) (a0) 0 (0)) C tC_11 k1 i2 ⟨by decide, Or.inl W_6_220⟩ rfl rfl rfl (sI_ok (fun _ => rfl)) dX12_fdatasync_2 ?_
  refine zx_aload_n C dX12_fdatasync_5 0 rfl ?_
  rcases cly_e hm with ⟨v3, ρ4, h5, hm⟩ | ⟨ρ68, h5, hm⟩
  · refine zx_callV (σ := sI (σ) (a0) 0 (0)) C [] tC_11 k1 i2 Y_X12_up W_7_179 W_7_181 Wp_57 (c_X12_up h5) (by decide) (by decide) rfl (Nat.le_of_ble_eq_true rfl) dX12_fdatasync_6 rfl ?_
    refine zx_aload_n C dX12_fdatasync_9 0 rfl ?_
    refine zx_iload_n C dX12_fdatasync_10 1 rfl ?_
    obtain ⟨k6, i7, hm⟩ := ckO_e hm
    obtain ⟨v8, ρ9, h10, hm⟩ := cll_e hm
    refine zx_callV (σ := ρ4) C [.int (p0)] tC_11 k6 i7 Y_X12_isHandle W_8_221 W_8_223 Wp_116 (c_X12_isHandle h10) (by decide) (by decide) rfl (Nat.le_of_ble_eq_true rfl) dX12_fdatasync_11 rfl ?_
    refine zx_if_ne C 20 dX12_fdatasync_14 (by decide) (fun c11 => ?_) (fun c11 => ?_)
    · replace hm := in_e hm c11
      refine zx_aload_n C dX12_fdatasync_20 0 rfl ?_
      refine zx_aload_n C dX12_fdatasync_21 0 rfl ?_
      obtain ⟨k12, i13, hm⟩ := ckO_e hm
      obtain ⟨a14, h15, hm⟩ := osm_e hm
      refine zx_get (j := 58) C tC_11 k12 i13 ⟨by decide, Or.inl W_7_37⟩ dX12_fdatasync_22 (.ref a14) (rf_s h15) ?_
      refine zx_iload_n C dX12_fdatasync_25 1 rfl ?_
      obtain ⟨n18, k16, i17, hm⟩ := ckR_e hm
      obtain ⟨h19, hm⟩ := ckI_e hm
      refine zx_iald C k16 i17 h19 dX12_fdatasync_26 ?_
      refine zx_sipush (v := 2000) C dX12_fdatasync_27 (by decide) ?_
      rcases cly_e hm with ⟨v20, ρ21, h22, hm⟩ | ⟨ρ61, h22, hm⟩
      · refine zx_callV (σ := ρ9) C [.int (tI (ρ9) (a14) ((p0).toNatClampNeg)), .int (2000)] tC_11 k12 i13 Y_X12_writeDirty W_9_44 W_9_46 Wp_120 (c_X12_writeDirty h22) (by decide) (by decide) rfl (Nat.le_of_ble_eq_true rfl) dX12_fdatasync_30 rfl ?_
        refine zx_istore_n C [(2, .int (v20)), (0, .ref (a0)), (1, .int (p0))] dX12_fdatasync_33 rfl (by decide) rfl ?_
        refine zx_aload_n C dX12_fdatasync_34 1 rfl ?_
        obtain ⟨k23, i24, hm⟩ := ckO_e hm
        obtain ⟨a25, h26, hm⟩ := osm_e hm
        refine zx_get (j := 25) C tC_11 k23 i24 ⟨by decide, Or.inl W_7_4⟩ dX12_fdatasync_35 (.ref a25) (rf_s h26) ?_
        refine zx_aload_n C dX12_fdatasync_38 1 rfl ?_
        obtain ⟨a27, h28, hm⟩ := osm_e hm
        refine zx_get (j := 58) C tC_11 k23 i24 ⟨by decide, Or.inl W_7_37⟩ dX12_fdatasync_39 (.ref a27) (rf_s h28) ?_
        refine zx_iload_n C dX12_fdatasync_42 2 rfl ?_
        obtain ⟨n31, k29, i30, hm⟩ := ckR_e hm
        obtain ⟨h32, hm⟩ := ckI_e hm
        refine zx_iald C k29 i30 h32 dX12_fdatasync_43 ?_
        obtain ⟨n35, k33, i34, hm⟩ := ckR_e hm
        obtain ⟨h36, hm⟩ := ckI_e hm
        refine zx_zald C k33 i34 h36 dX12_fdatasync_44 ?_
        refine zx_if_eq C 52 dX12_fdatasync_45 (by decide) (fun c37 => ?_) (fun c37 => ?_)
        · replace hm := ip_e hm c37
          exact zx_lv [1, 0] [(0, .ref (a0)), (2, .int (v20))] rfl (j_X12_fdatasync_52 C htab hin    hm)
        · replace hm := in_e hm c37
          refine zx_aload_n C dX12_fdatasync_48 1 rfl ?_
          rcases cly_e hm with ⟨v50, ρ51, h52, hm⟩ | ⟨ρ54, h52, hm⟩
          · refine zx_callV (σ := ρ21) C [] tC_11 k23 i24 Y_X12_commit W_7_196 W_7_198 Wp_60 (c_X12_commit h52) (by decide) (by decide) rfl (Nat.le_of_ble_eq_true rfl) dX12_fdatasync_49 rfl ?_
            exact zx_lv [1, 0] [(0, .ref (a0)), (2, .int (v20))] rfl (j_X12_fdatasync_52 C htab hin    hm)
          · refine zx_catchV (σ := ρ21) (x9 := { startPc := 20, endPc := 57, handlerPc := 58, catchType := 425 }) C (tableOf [(5, 19, 58, 425)]) (tableOf []) htab (by decide) (by decide) (by decide) (E := "SyncTreeModel$Off") W_7_174 W_9_132 [] tC_11 k23 i24 Y_X12_commit W_7_196 W_7_198 Wp_60 (c_X12_commit h52) (by decide) (by decide) rfl (Nat.le_of_ble_eq_true rfl) dX12_fdatasync_49 rfl (fun q53 => ?_)
            refine zx_astore_n C [(2, .ref (q53)), (0, .ref (a0)), (1, .int (p0))] dX12_fdatasync_58 rfl (by decide) rfl ?_
            refine zx_aload_n C dX12_fdatasync_59 1 rfl ?_
            obtain ⟨k55, i56, hm⟩ := ckO_e hm
            obtain ⟨v57, ρ58, h59, hm⟩ := cll_e hm
            refine zx_callV (σ := ρ54) C [] tC_11 k55 i56 Y_X12_off W_8_135 W_8_137 Wp_103 (c_X12_off h59) (by decide) (by decide) rfl (Nat.le_of_ble_eq_true rfl) dX12_fdatasync_60 rfl ?_
            obtain ⟨rfl, rfl⟩ := ret_e hm
            exact zx_iret C rfl rfl rfl dX12_fdatasync_63
      · refine zx_catchV (σ := ρ9) (x9 := { startPc := 20, endPc := 57, handlerPc := 58, catchType := 425 }) C (tableOf [(5, 19, 58, 425)]) (tableOf []) htab (by decide) (by decide) (by decide) (E := "SyncTreeModel$Off") W_7_174 W_9_132 [.int (tI (ρ9) (a14) ((p0).toNatClampNeg)), .int (2000)] tC_11 k12 i13 Y_X12_writeDirty W_9_44 W_9_46 Wp_120 (c_X12_writeDirty h22) (by decide) (by decide) rfl (Nat.le_of_ble_eq_true rfl) dX12_fdatasync_30 rfl (fun q60 => ?_)
        refine zx_astore_n C [(2, .ref (q60)), (0, .ref (a0)), (1, .int (p0))] dX12_fdatasync_58 rfl (by decide) rfl ?_
        refine zx_aload_n C dX12_fdatasync_59 1 rfl ?_
        obtain ⟨k62, i63, hm⟩ := ckO_e hm
        obtain ⟨v64, ρ65, h66, hm⟩ := cll_e hm
        refine zx_callV (σ := ρ61) C [] tC_11 k62 i63 Y_X12_off W_8_135 W_8_137 Wp_103 (c_X12_off h66) (by decide) (by decide) rfl (Nat.le_of_ble_eq_true rfl) dX12_fdatasync_60 rfl ?_
        obtain ⟨rfl, rfl⟩ := ret_e hm
        exact zx_iret C rfl rfl rfl dX12_fdatasync_63
    · replace hm := ip_e hm c11
      refine zx_bipush (v := (-9)) C dX12_fdatasync_17 (by decide) ?_
      obtain ⟨rfl, rfl⟩ := ret_e hm
      exact zx_iret C rfl rfl rfl dX12_fdatasync_19
  · refine zx_catchV (σ := sI (σ) (a0) 0 (0)) (x9 := { startPc := 5, endPc := 19, handlerPc := 58, catchType := 425 }) C (tableOf []) (tableOf [(20, 57, 58, 425)]) htab (by decide) (by decide) (by decide) (E := "SyncTreeModel$Off") W_7_174 W_9_132 [] tC_11 k1 i2 Y_X12_up W_7_179 W_7_181 Wp_57 (c_X12_up h5) (by decide) (by decide) rfl (Nat.le_of_ble_eq_true rfl) dX12_fdatasync_6 rfl (fun q67 => ?_)
    refine zx_astore_n C [(2, .ref (q67)), (0, .ref (a0)), (1, .int (p0))] dX12_fdatasync_58 rfl (by decide) rfl ?_
    refine zx_aload_n C dX12_fdatasync_59 1 rfl ?_
    obtain ⟨k69, i70, hm⟩ := ckO_e hm
    obtain ⟨v71, ρ72, h73, hm⟩ := cll_e hm
    refine zx_callV (σ := ρ68) C [] tC_11 k69 i70 Y_X12_off W_8_135 W_8_137 Wp_103 (c_X12_off h73) (by decide) (by decide) rfl (Nat.le_of_ble_eq_true rfl) dX12_fdatasync_60 rfl ?_
    obtain ⟨rfl, rfl⟩ := ret_e hm
    exact zx_iret C rfl rfl rfl dX12_fdatasync_63
abbrev cX12_sync : ByteArray := prog_13_method_103_code
def yX12_sync : MethodName := ⟨"SyncTreeModel", "sync", "()I"⟩
theorem Y_X12_sync : tYH yX12_sync cX12_sync 2 (some .int) [(5, 34, 35, 425)] 0 := ⟨W_9_55, W_1_14, ⟨by decide +kernel, by decide +kernel⟩, by decide +kernel⟩
theorem dX12_sync_0 : decode cX12_sync 0 = .ok (.aload_n 0, 1) := by decide +kernel
theorem dX12_sync_1 : decode cX12_sync 1 = .ok (.iconst 0, 1) := by decide +kernel
theorem dX12_sync_2 : decode cX12_sync 2 = .ok (.putfield 3, 3) := by decide +kernel
theorem dX12_sync_5 : decode cX12_sync 5 = .ok (.aload_n 0, 1) := by decide +kernel
theorem dX12_sync_6 : decode cX12_sync 6 = .ok (.invokevirtual 403, 3) := by decide +kernel
theorem dX12_sync_9 : decode cX12_sync 9 = .ok (.aload_n 0, 1) := by decide +kernel
theorem dX12_sync_10 : decode cX12_sync 10 = .ok (.iconst (-1), 1) := by decide +kernel
theorem dX12_sync_11 : decode cX12_sync 11 = .ok (.sipush 2000, 3) := by decide +kernel
theorem dX12_sync_14 : decode cX12_sync 14 = .ok (.invokevirtual 465, 3) := by decide +kernel
theorem dX12_sync_17 : decode cX12_sync 17 = .ok (.istore_n 1, 1) := by decide +kernel
theorem dX12_sync_18 : decode cX12_sync 18 = .ok (.aload_n 0, 1) := by decide +kernel
theorem dX12_sync_19 : decode cX12_sync 19 = .ok (.invokevirtual 171, 3) := by decide +kernel
theorem dX12_sync_22 : decode cX12_sync 22 = .ok (.ifCond .le 7, 3) := by decide +kernel
theorem dX12_sync_25 : decode cX12_sync 25 = .ok (.aload_n 0, 1) := by decide +kernel
theorem dX12_sync_26 : decode cX12_sync 26 = .ok (.invokevirtual 230, 3) := by decide +kernel
theorem dX12_sync_29 : decode cX12_sync 29 = .ok (.aload_n 0, 1) := by decide +kernel
theorem dX12_sync_30 : decode cX12_sync 30 = .ok (.invokevirtual 224, 3) := by decide +kernel
theorem dX12_sync_33 : decode cX12_sync 33 = .ok (.iload_n 1, 1) := by decide +kernel
theorem dX12_sync_34 : decode cX12_sync 34 = .ok (.ireturn, 1) := by decide +kernel
theorem dX12_sync_35 : decode cX12_sync 35 = .ok (.astore_n 1, 1) := by decide +kernel
theorem dX12_sync_36 : decode cX12_sync 36 = .ok (.aload_n 0, 1) := by decide +kernel
theorem dX12_sync_37 : decode cX12_sync 37 = .ok (.invokevirtual 427, 3) := by decide +kernel
theorem dX12_sync_40 : decode cX12_sync 40 = .ok (.ireturn, 1) := by decide +kernel
set_option maxRecDepth 100000 in
set_option maxHeartbeats 1000000 in
theorem j_X12_sync_29 {p : Program} {l : Launch} {e : Env} {s : State} {m : MethodId} {args : Array Value} {below : List Frame} {meth : Method} {c : Code} {D : va_G} {aC : Nat → ClassId} {b0 fu : Nat} {σ0 τ : tM} {v : Int32}  (C : tCx p l s m args meth c yX12_sync.cls cX12_sync 2 (some .int) D aC b0 σ0) (htab : c.exceptionTable.toList = tableOf [(5, 34, 35, 425)]) (hin : meth.name = yX12_sync.name)  {x0 : Nat} {x1 : Int32} {σ : tM} (hm : J_X12_sync_29 b0 fu  x0 x1 σ = some (v, τ)) : tX p l e s m args below meth c 2 7 160 D aC b0 σ0 (.inl (some (.int v))) τ 29 [(0, .ref (x0)), (1, .int (x1))] [] σ := by
  unfold J_X12_sync_29 at hm
  refine zx_aload_n C dX12_sync_29 0 rfl ?_
  obtain ⟨k17, i18, hm⟩ := ckO_e hm
  rcases cly_e hm with ⟨v19, ρ20, h21, hm⟩ | ⟨ρ23, h21, hm⟩
  · refine zx_callV (σ := σ) C [] tC_11 k17 i18 Y_X12_flush W_7_208 W_7_210 Wp_63 (c_X12_flush h21) (by decide) (by decide) rfl (Nat.le_of_ble_eq_true rfl) dX12_sync_30 rfl ?_
    refine zx_iload_n C dX12_sync_33 1 rfl ?_
    obtain ⟨rfl, rfl⟩ := ret_e hm
    exact zx_iret C rfl rfl rfl dX12_sync_34
  · refine zx_catchV (σ := σ) (x9 := { startPc := 5, endPc := 34, handlerPc := 35, catchType := 425 }) C (tableOf []) (tableOf []) htab (by decide) (by decide) (by decide) (E := "SyncTreeModel$Off") W_7_174 W_9_132 [] tC_11 k17 i18 Y_X12_flush W_7_208 W_7_210 Wp_63 (c_X12_flush h21) (by decide) (by decide) rfl (Nat.le_of_ble_eq_true rfl) dX12_sync_30 rfl (fun q22 => ?_)
    refine zx_astore_n C [(1, .ref (q22)), (0, .ref (x0))] dX12_sync_35 rfl (by decide) rfl ?_
    refine zx_aload_n C dX12_sync_36 1 rfl ?_
    obtain ⟨k24, i25, hm⟩ := ckO_e hm
    obtain ⟨v26, ρ27, h28, hm⟩ := cll_e hm
    refine zx_callV (σ := ρ23) C [] tC_11 k24 i25 Y_X12_off W_8_135 W_8_137 Wp_103 (c_X12_off h28) (by decide) (by decide) rfl (Nat.le_of_ble_eq_true rfl) dX12_sync_37 rfl ?_
    obtain ⟨rfl, rfl⟩ := ret_e hm
    exact zx_iret C rfl rfl rfl dX12_sync_40
set_option maxRecDepth 100000 in
set_option maxHeartbeats 1000000 in
theorem c_X12_sync {l : Launch} {D : va_G} {aC : Nat → ClassId} {b0 fu : Nat} {a0 : Nat} {σ τ : tM} {v : Int32} (hm : m_X12_sync b0 fu a0 σ = some (v, τ)) : tMt l D aC b0 yX12_sync (Cond.codeWith yX12_sync cX12_sync 2 (some .int) [(5, 34, 35, 425)]) 7 160 [.ref (a0)] σ (.inl (some (.int v))) τ := by
  unfold m_X12_sync at hm
  obtain ⟨hg, hm⟩ := grw_e hm
  refine tMt_ofH rfl (Nat.le_of_ble_eq_true rfl) hg ?_
  intro p e s m below meth c C htab hin
  refine zx_lv [0] [(0, .ref (a0))] rfl ?_
  refine zx_aload_n C dX12_sync_0 0 rfl ?_
  refine zx_iconst (v := 0) C dX12_sync_1 (by decide) ?_
  obtain ⟨k1, i2, hm⟩ := ckO_e hm
  refine zx_put (j := 0) (ρ := sI (σ) (a0) 0 (0)) C tC_11 k1 i2 ⟨by decide, Or.inl W_6_220⟩ rfl rfl rfl (sI_ok (fun _ => rfl)) dX12_sync_2 ?_
  refine zx_aload_n C dX12_sync_5 0 rfl ?_
  rcases cly_e hm with ⟨v3, ρ4, h5, hm⟩ | ⟨ρ49, h5, hm⟩
  · refine zx_callV (σ := sI (σ) (a0) 0 (0)) C [] tC_11 k1 i2 Y_X12_up W_7_179 W_7_181 Wp_57 (c_X12_up h5) (by decide) (by decide) rfl (Nat.le_of_ble_eq_true rfl) dX12_sync_6 rfl ?_
    refine zx_aload_n C dX12_sync_9 0 rfl ?_
    refine zx_iconst (v := (-1)) C dX12_sync_10 (by decide) ?_
    refine zx_sipush (v := 2000) C dX12_sync_11 (by decide) ?_
    obtain ⟨k6, i7, hm⟩ := ckO_e hm
    rcases cly_e hm with ⟨v8, ρ9, h10, hm⟩ | ⟨ρ42, h10, hm⟩
    · refine zx_callV (σ := ρ4) C [.int ((-1)), .int (2000)] tC_11 k6 i7 Y_X12_writeDirty W_9_44 W_9_46 Wp_120 (c_X12_writeDirty h10) (by decide) (by decide) rfl (Nat.le_of_ble_eq_true rfl) dX12_sync_14 rfl ?_
      refine zx_istore_n C [(1, .int (v8)), (0, .ref (a0))] dX12_sync_17 rfl (by decide) rfl ?_
      refine zx_aload_n C dX12_sync_18 1 rfl ?_
      obtain ⟨k11, i12, hm⟩ := ckO_e hm
      obtain ⟨v13, ρ14, h15, hm⟩ := cll_e hm
      refine zx_callV (σ := ρ9) C [] tC_11 k11 i12 Y_X12_groupSize W_7_189 W_7_191 Wp_59 (c_X12_groupSize h15) (by decide) (by decide) rfl (Nat.le_of_ble_eq_true rfl) dX12_sync_19 rfl ?_
      refine zx_if_le C 29 dX12_sync_22 (by decide) (fun c16 => ?_) (fun c16 => ?_)
      · replace hm := ip_e hm c16
        exact zx_lv [1, 0] [(0, .ref (a0)), (1, .int (v8))] rfl (j_X12_sync_29 C htab hin    hm)
      · replace hm := in_e hm c16
        refine zx_aload_n C dX12_sync_25 1 rfl ?_
        obtain ⟨k29, i30, hm⟩ := ckO_e hm
        rcases cly_e hm with ⟨v31, ρ32, h33, hm⟩ | ⟨ρ35, h33, hm⟩
        · refine zx_callV (σ := ρ14) C [] tC_11 k29 i30 Y_X12_commit W_7_196 W_7_198 Wp_60 (c_X12_commit h33) (by decide) (by decide) rfl (Nat.le_of_ble_eq_true rfl) dX12_sync_26 rfl ?_
          exact zx_lv [1, 0] [(0, .ref (a0)), (1, .int (v8))] rfl (j_X12_sync_29 C htab hin    hm)
        · refine zx_catchV (σ := ρ14) (x9 := { startPc := 5, endPc := 34, handlerPc := 35, catchType := 425 }) C (tableOf []) (tableOf []) htab (by decide) (by decide) (by decide) (E := "SyncTreeModel$Off") W_7_174 W_9_132 [] tC_11 k29 i30 Y_X12_commit W_7_196 W_7_198 Wp_60 (c_X12_commit h33) (by decide) (by decide) rfl (Nat.le_of_ble_eq_true rfl) dX12_sync_26 rfl (fun q34 => ?_)
          refine zx_astore_n C [(1, .ref (q34)), (0, .ref (a0))] dX12_sync_35 rfl (by decide) rfl ?_
          refine zx_aload_n C dX12_sync_36 1 rfl ?_
          obtain ⟨k36, i37, hm⟩ := ckO_e hm
          obtain ⟨v38, ρ39, h40, hm⟩ := cll_e hm
          refine zx_callV (σ := ρ35) C [] tC_11 k36 i37 Y_X12_off W_8_135 W_8_137 Wp_103 (c_X12_off h40) (by decide) (by decide) rfl (Nat.le_of_ble_eq_true rfl) dX12_sync_37 rfl ?_
          obtain ⟨rfl, rfl⟩ := ret_e hm
          exact zx_iret C rfl rfl rfl dX12_sync_40
    · refine zx_catchV (σ := ρ4) (x9 := { startPc := 5, endPc := 34, handlerPc := 35, catchType := 425 }) C (tableOf []) (tableOf []) htab (by decide) (by decide) (by decide) (E := "SyncTreeModel$Off") W_7_174 W_9_132 [.int ((-1)), .int (2000)] tC_11 k6 i7 Y_X12_writeDirty W_9_44 W_9_46 Wp_120 (c_X12_writeDirty h10) (by decide) (by decide) rfl (Nat.le_of_ble_eq_true rfl) dX12_sync_14 rfl (fun q41 => ?_)
      refine zx_astore_n C [(1, .ref (q41)), (0, .ref (a0))] dX12_sync_35 rfl (by decide) rfl ?_
      refine zx_aload_n C dX12_sync_36 1 rfl ?_
      obtain ⟨k43, i44, hm⟩ := ckO_e hm
      obtain ⟨v45, ρ46, h47, hm⟩ := cll_e hm
      refine zx_callV (σ := ρ42) C [] tC_11 k43 i44 Y_X12_off W_8_135 W_8_137 Wp_103 (c_X12_off h47) (by decide) (by decide) rfl (Nat.le_of_ble_eq_true rfl) dX12_sync_37 rfl ?_
      obtain ⟨rfl, rfl⟩ := ret_e hm
      exact zx_iret C rfl rfl rfl dX12_sync_40
  · refine zx_catchV (σ := sI (σ) (a0) 0 (0)) (x9 := { startPc := 5, endPc := 34, handlerPc := 35, catchType := 425 }) C (tableOf []) (tableOf []) htab (by decide) (by decide) (by decide) (E := "SyncTreeModel$Off") W_7_174 W_9_132 [] tC_11 k1 i2 Y_X12_up W_7_179 W_7_181 Wp_57 (c_X12_up h5) (by decide) (by decide) rfl (Nat.le_of_ble_eq_true rfl) dX12_sync_6 rfl (fun q48 => ?_)
    refine zx_astore_n C [(1, .ref (q48)), (0, .ref (a0))] dX12_sync_35 rfl (by decide) rfl ?_
    refine zx_aload_n C dX12_sync_36 1 rfl ?_
    obtain ⟨k50, i51, hm⟩ := ckO_e hm
    obtain ⟨v52, ρ53, h54, hm⟩ := cll_e hm
    refine zx_callV (σ := ρ49) C [] tC_11 k50 i51 Y_X12_off W_8_135 W_8_137 Wp_103 (c_X12_off h54) (by decide) (by decide) rfl (Nat.le_of_ble_eq_true rfl) dX12_sync_37 rfl ?_
    obtain ⟨rfl, rfl⟩ := ret_e hm
    exact zx_iret C rfl rfl rfl dX12_sync_40
abbrev cX12_post : ByteArray := prog_13_method_104_code
def yX12_post : MethodName := ⟨"SyncTreeModel", "post", "()I"⟩
theorem Y_X12_post : tYH yX12_post cX12_post 2 (some .int) [(5, 23, 24, 425)] 0 := ⟨W_9_59, W_1_14, ⟨by decide +kernel, by decide +kernel⟩, by decide +kernel⟩
theorem dX12_post_0 : decode cX12_post 0 = .ok (.aload_n 0, 1) := by decide +kernel
theorem dX12_post_1 : decode cX12_post 1 = .ok (.iconst 0, 1) := by decide +kernel
theorem dX12_post_2 : decode cX12_post 2 = .ok (.putfield 3, 3) := by decide +kernel
theorem dX12_post_5 : decode cX12_post 5 = .ok (.aload_n 0, 1) := by decide +kernel
theorem dX12_post_6 : decode cX12_post 6 = .ok (.invokevirtual 403, 3) := by decide +kernel
theorem dX12_post_9 : decode cX12_post 9 = .ok (.aload_n 0, 1) := by decide +kernel
theorem dX12_post_10 : decode cX12_post 10 = .ok (.invokevirtual 171, 3) := by decide +kernel
theorem dX12_post_13 : decode cX12_post 13 = .ok (.istore_n 1, 1) := by decide +kernel
theorem dX12_post_14 : decode cX12_post 14 = .ok (.iload_n 1, 1) := by decide +kernel
theorem dX12_post_15 : decode cX12_post 15 = .ok (.ifCond .le 7, 3) := by decide +kernel
theorem dX12_post_18 : decode cX12_post 18 = .ok (.aload_n 0, 1) := by decide +kernel
theorem dX12_post_19 : decode cX12_post 19 = .ok (.invokevirtual 230, 3) := by decide +kernel
theorem dX12_post_22 : decode cX12_post 22 = .ok (.iload_n 1, 1) := by decide +kernel
theorem dX12_post_23 : decode cX12_post 23 = .ok (.ireturn, 1) := by decide +kernel
theorem dX12_post_24 : decode cX12_post 24 = .ok (.astore_n 1, 1) := by decide +kernel
theorem dX12_post_25 : decode cX12_post 25 = .ok (.aload_n 0, 1) := by decide +kernel
theorem dX12_post_26 : decode cX12_post 26 = .ok (.invokevirtual 427, 3) := by decide +kernel
theorem dX12_post_29 : decode cX12_post 29 = .ok (.ireturn, 1) := by decide +kernel
set_option maxRecDepth 100000 in
set_option maxHeartbeats 1000000 in
theorem j_X12_post_22 {p : Program} {l : Launch} {e : Env} {s : State} {m : MethodId} {args : Array Value} {below : List Frame} {meth : Method} {c : Code} {D : va_G} {aC : Nat → ClassId} {b0 fu : Nat} {σ0 τ : tM} {v : Int32}  (C : tCx p l s m args meth c yX12_post.cls cX12_post 2 (some .int) D aC b0 σ0) (htab : c.exceptionTable.toList = tableOf [(5, 23, 24, 425)]) (hin : meth.name = yX12_post.name)  {x1 : Int32} {σ : tM} (hm : J_X12_post_22 b0 fu  x1 σ = some (v, τ)) : tX p l e s m args below meth c 2 7 160 D aC b0 σ0 (.inl (some (.int v))) τ 22 [(1, .int (x1))] [] σ := by
  unfold J_X12_post_22 at hm
  refine zx_iload_n C dX12_post_22 0 rfl ?_
  obtain ⟨rfl, rfl⟩ := ret_e hm
  exact zx_iret C rfl rfl rfl dX12_post_23
set_option maxRecDepth 100000 in
set_option maxHeartbeats 1000000 in
theorem c_X12_post {l : Launch} {D : va_G} {aC : Nat → ClassId} {b0 fu : Nat} {a0 : Nat} {σ τ : tM} {v : Int32} (hm : m_X12_post b0 fu a0 σ = some (v, τ)) : tMt l D aC b0 yX12_post (Cond.codeWith yX12_post cX12_post 2 (some .int) [(5, 23, 24, 425)]) 7 160 [.ref (a0)] σ (.inl (some (.int v))) τ := by
  unfold m_X12_post at hm
  obtain ⟨hg, hm⟩ := grw_e hm
  refine tMt_ofH rfl (Nat.le_of_ble_eq_true rfl) hg ?_
  intro p e s m below meth c C htab hin
  refine zx_lv [0] [(0, .ref (a0))] rfl ?_
  refine zx_aload_n C dX12_post_0 0 rfl ?_
  refine zx_iconst (v := 0) C dX12_post_1 (by decide) ?_
  obtain ⟨k1, i2, hm⟩ := ckO_e hm
  refine zx_put (j := 0) (ρ := sI (σ) (a0) 0 (0)) C tC_11 k1 i2 ⟨by decide, Or.inl W_6_220⟩ rfl rfl rfl (sI_ok (fun _ => rfl)) dX12_post_2 ?_
  refine zx_aload_n C dX12_post_5 0 rfl ?_
  rcases cly_e hm with ⟨v3, ρ4, h5, hm⟩ | ⟨ρ25, h5, hm⟩
  · refine zx_callV (σ := sI (σ) (a0) 0 (0)) C [] tC_11 k1 i2 Y_X12_up W_7_179 W_7_181 Wp_57 (c_X12_up h5) (by decide) (by decide) rfl (Nat.le_of_ble_eq_true rfl) dX12_post_6 rfl ?_
    refine zx_aload_n C dX12_post_9 0 rfl ?_
    obtain ⟨k6, i7, hm⟩ := ckO_e hm
    obtain ⟨v8, ρ9, h10, hm⟩ := cll_e hm
    refine zx_callV (σ := ρ4) C [] tC_11 k6 i7 Y_X12_groupSize W_7_189 W_7_191 Wp_59 (c_X12_groupSize h10) (by decide) (by decide) rfl (Nat.le_of_ble_eq_true rfl) dX12_post_10 rfl ?_
    refine zx_istore_n C [(1, .int (v8)), (0, .ref (a0))] dX12_post_13 rfl (by decide) rfl ?_
    refine zx_iload_n C dX12_post_14 0 rfl ?_
    refine zx_if_le C 22 dX12_post_15 (by decide) (fun c11 => ?_) (fun c11 => ?_)
    · replace hm := ip_e hm c11
      exact zx_lv [0] [(1, .int (v8))] rfl (j_X12_post_22 C htab hin    hm)
    · replace hm := in_e hm c11
      refine zx_aload_n C dX12_post_18 1 rfl ?_
      obtain ⟨k12, i13, hm⟩ := ckO_e hm
      rcases cly_e hm with ⟨v14, ρ15, h16, hm⟩ | ⟨ρ18, h16, hm⟩
      · refine zx_callV (σ := ρ9) C [] tC_11 k12 i13 Y_X12_commit W_7_196 W_7_198 Wp_60 (c_X12_commit h16) (by decide) (by decide) rfl (Nat.le_of_ble_eq_true rfl) dX12_post_19 rfl ?_
        exact zx_lv [0] [(1, .int (v8))] rfl (j_X12_post_22 C htab hin    hm)
      · refine zx_catchV (σ := ρ9) (x9 := { startPc := 5, endPc := 23, handlerPc := 24, catchType := 425 }) C (tableOf []) (tableOf []) htab (by decide) (by decide) (by decide) (E := "SyncTreeModel$Off") W_7_174 W_9_132 [] tC_11 k12 i13 Y_X12_commit W_7_196 W_7_198 Wp_60 (c_X12_commit h16) (by decide) (by decide) rfl (Nat.le_of_ble_eq_true rfl) dX12_post_19 rfl (fun q17 => ?_)
        refine zx_astore_n C [(1, .ref (q17)), (0, .ref (a0))] dX12_post_24 rfl (by decide) rfl ?_
        refine zx_aload_n C dX12_post_25 1 rfl ?_
        obtain ⟨k19, i20, hm⟩ := ckO_e hm
        obtain ⟨v21, ρ22, h23, hm⟩ := cll_e hm
        refine zx_callV (σ := ρ18) C [] tC_11 k19 i20 Y_X12_off W_8_135 W_8_137 Wp_103 (c_X12_off h23) (by decide) (by decide) rfl (Nat.le_of_ble_eq_true rfl) dX12_post_26 rfl ?_
        obtain ⟨rfl, rfl⟩ := ret_e hm
        exact zx_iret C rfl rfl rfl dX12_post_29
  · refine zx_catchV (σ := sI (σ) (a0) 0 (0)) (x9 := { startPc := 5, endPc := 23, handlerPc := 24, catchType := 425 }) C (tableOf []) (tableOf []) htab (by decide) (by decide) (by decide) (E := "SyncTreeModel$Off") W_7_174 W_9_132 [] tC_11 k1 i2 Y_X12_up W_7_179 W_7_181 Wp_57 (c_X12_up h5) (by decide) (by decide) rfl (Nat.le_of_ble_eq_true rfl) dX12_post_6 rfl (fun q24 => ?_)
    refine zx_astore_n C [(1, .ref (q24)), (0, .ref (a0))] dX12_post_24 rfl (by decide) rfl ?_
    refine zx_aload_n C dX12_post_25 1 rfl ?_
    obtain ⟨k26, i27, hm⟩ := ckO_e hm
    obtain ⟨v28, ρ29, h30, hm⟩ := cll_e hm
    refine zx_callV (σ := ρ25) C [] tC_11 k26 i27 Y_X12_off W_8_135 W_8_137 Wp_103 (c_X12_off h30) (by decide) (by decide) rfl (Nat.le_of_ble_eq_true rfl) dX12_post_26 rfl ?_
    obtain ⟨rfl, rfl⟩ := ret_e hm
    exact zx_iret C rfl rfl rfl dX12_post_29
abbrev cX12_recover : ByteArray := prog_13_method_112_code
def yX12_recover : MethodName := ⟨"SyncTreeModel", "recover", "()I"⟩
theorem Y_X12_recover : tYH yX12_recover cX12_recover 2 (some .int) [(15, 19, 20, 425)] 0 := ⟨W_9_93, W_1_14, ⟨by decide +kernel, by decide +kernel⟩, by decide +kernel⟩
theorem dX12_recover_0 : decode cX12_recover 0 = .ok (.aload_n 0, 1) := by decide +kernel
theorem dX12_recover_1 : decode cX12_recover 1 = .ok (.iconst 0, 1) := by decide +kernel
theorem dX12_recover_2 : decode cX12_recover 2 = .ok (.putfield 3, 3) := by decide +kernel
theorem dX12_recover_5 : decode cX12_recover 5 = .ok (.aload_n 0, 1) := by decide +kernel
theorem dX12_recover_6 : decode cX12_recover 6 = .ok (.getfield 58, 3) := by decide +kernel
theorem dX12_recover_9 : decode cX12_recover 9 = .ok (.ifCond .eq 6, 3) := by decide +kernel
theorem dX12_recover_12 : decode cX12_recover 12 = .ok (.bipush (-9), 2) := by decide +kernel
theorem dX12_recover_14 : decode cX12_recover 14 = .ok (.ireturn, 1) := by decide +kernel
theorem dX12_recover_15 : decode cX12_recover 15 = .ok (.aload_n 0, 1) := by decide +kernel
theorem dX12_recover_16 : decode cX12_recover 16 = .ok (.invokevirtual 472, 3) := by decide +kernel
theorem dX12_recover_19 : decode cX12_recover 19 = .ok (.ireturn, 1) := by decide +kernel
theorem dX12_recover_20 : decode cX12_recover 20 = .ok (.astore_n 1, 1) := by decide +kernel
theorem dX12_recover_21 : decode cX12_recover 21 = .ok (.aload_n 0, 1) := by decide +kernel
theorem dX12_recover_22 : decode cX12_recover 22 = .ok (.invokevirtual 427, 3) := by decide +kernel
theorem dX12_recover_25 : decode cX12_recover 25 = .ok (.ireturn, 1) := by decide +kernel
set_option maxRecDepth 100000 in
set_option maxHeartbeats 1000000 in
theorem c_X12_recover {l : Launch} {D : va_G} {aC : Nat → ClassId} {b0 fu : Nat} {a0 : Nat} {σ τ : tM} {v : Int32} (hm : m_X12_recover b0 fu a0 σ = some (v, τ)) : tMt l D aC b0 yX12_recover (Cond.codeWith yX12_recover cX12_recover 2 (some .int) [(15, 19, 20, 425)]) 9 215 [.ref (a0)] σ (.inl (some (.int v))) τ := by
  unfold m_X12_recover at hm
  obtain ⟨hg, hm⟩ := grw_e hm
  refine tMt_ofH rfl (Nat.le_of_ble_eq_true rfl) hg ?_
  intro p e s m below meth c C htab hin
  refine zx_lv [0] [(0, .ref (a0))] rfl ?_
  refine zx_aload_n C dX12_recover_0 0 rfl ?_
  refine zx_iconst (v := 0) C dX12_recover_1 (by decide) ?_
  obtain ⟨k1, i2, hm⟩ := ckO_e hm
  refine zx_put (j := 0) (ρ := sI (σ) (a0) 0 (0)) C tC_11 k1 i2 ⟨by decide, Or.inl W_6_220⟩ rfl rfl rfl (sI_ok (fun _ => rfl)) dX12_recover_2 ?_
  refine zx_aload_n C dX12_recover_5 0 rfl ?_
  refine zx_get (j := 18) C tC_11 k1 i2 ⟨by decide, Or.inl W_6_237⟩ dX12_recover_6 (.int (tI (sI (σ) (a0) 0 (0)) (a0) 18)) rfl ?_
  refine zx_if_eq C 15 dX12_recover_9 (by decide) (fun c3 => ?_) (fun c3 => ?_)
  · replace hm := ip_e hm c3
    refine zx_aload_n C dX12_recover_15 0 rfl ?_
    rcases cly_e hm with ⟨v4, ρ5, h6, hm⟩ | ⟨ρ8, h6, hm⟩
    · refine zx_callV (σ := sI (σ) (a0) 0 (0)) C [] tC_11 k1 i2 Y_X12_recovery W_9_94 W_9_96 Wp_121 (c_X12_recovery h6) (by decide) (by decide) rfl (Nat.le_of_ble_eq_true rfl) dX12_recover_16 rfl ?_
      obtain ⟨rfl, rfl⟩ := ret_e hm
      exact zx_iret C rfl rfl rfl dX12_recover_19
    · refine zx_catchV (σ := sI (σ) (a0) 0 (0)) (x9 := { startPc := 15, endPc := 19, handlerPc := 20, catchType := 425 }) C (tableOf []) (tableOf []) htab (by decide) (by decide) (by decide) (E := "SyncTreeModel$Off") W_7_174 W_9_132 [] tC_11 k1 i2 Y_X12_recovery W_9_94 W_9_96 Wp_121 (c_X12_recovery h6) (by decide) (by decide) rfl (Nat.le_of_ble_eq_true rfl) dX12_recover_16 rfl (fun q7 => ?_)
      refine zx_astore_n C [(1, .ref (q7)), (0, .ref (a0))] dX12_recover_20 rfl (by decide) rfl ?_
      refine zx_aload_n C dX12_recover_21 1 rfl ?_
      obtain ⟨k9, i10, hm⟩ := ckO_e hm
      obtain ⟨v11, ρ12, h13, hm⟩ := cll_e hm
      refine zx_callV (σ := ρ8) C [] tC_11 k9 i10 Y_X12_off W_8_135 W_8_137 Wp_103 (c_X12_off h13) (by decide) (by decide) rfl (Nat.le_of_ble_eq_true rfl) dX12_recover_22 rfl ?_
      obtain ⟨rfl, rfl⟩ := ret_e hm
      exact zx_iret C rfl rfl rfl dX12_recover_25
  · replace hm := in_e hm c3
    refine zx_bipush (v := (-9)) C dX12_recover_12 (by decide) ?_
    obtain ⟨rfl, rfl⟩ := ret_e hm
    exact zx_iret C rfl rfl rfl dX12_recover_14
abbrev cL_open : ByteArray := method_10_code
def yL_open : MethodName := ⟨"SyncTreeLaw", "open", "(LSyncTree;[J)I"⟩
theorem Y_L_open : tYH yL_open cL_open 3 (some .int) [(0, 8, 11, 13)] 2 := ⟨W_5_125, W_1_0, ⟨by decide +kernel, by decide +kernel⟩, by decide +kernel⟩
theorem dL_open_0 : decode cL_open 0 = .ok (.aload_n 1, 1) := by decide +kernel
theorem dL_open_1 : decode cL_open 1 = .ok (.iconst 0, 1) := by decide +kernel
theorem dL_open_2 : decode cL_open 2 = .ok (.aload_n 0, 1) := by decide +kernel
theorem dL_open_3 : decode cL_open 3 = .ok (.invokevirtual 33, 3) := by decide +kernel
theorem dL_open_6 : decode cL_open 6 = .ok (.i2l, 1) := by decide +kernel
theorem dL_open_7 : decode cL_open 7 = .ok (.lastore, 1) := by decide +kernel
theorem dL_open_8 : decode cL_open 8 = .ok (.goto 6, 3) := by decide +kernel
theorem dL_open_11 : decode cL_open 11 = .ok (.astore_n 2, 1) := by decide +kernel
theorem dL_open_12 : decode cL_open 12 = .ok (.iconst 1, 1) := by decide +kernel
theorem dL_open_13 : decode cL_open 13 = .ok (.ireturn, 1) := by decide +kernel
theorem dL_open_14 : decode cL_open 14 = .ok (.iconst 0, 1) := by decide +kernel
theorem dL_open_15 : decode cL_open 15 = .ok (.ireturn, 1) := by decide +kernel
set_option maxRecDepth 100000 in
set_option maxHeartbeats 1000000 in
theorem c_L_open {l : Launch} {D : va_G} {aC : Nat → ClassId} {b0 fu : Nat} {p0 : Nat} {p1 : Nat} {σ τ : tM} {v : Int32} (hm : m_L_open b0 fu p0 p1 σ = some (v, τ)) : tMt l D aC b0 yL_open (Cond.codeWith yL_open cL_open 3 (some .int) [(0, 8, 11, 13)]) 8 172 [.ref (p0), .ref (p1)] σ (.inl (some (.int v))) τ := by
  unfold m_L_open at hm
  obtain ⟨hg, hm⟩ := grw_e hm
  refine tMt_ofH rfl (Nat.le_of_ble_eq_true rfl) hg ?_
  intro p e s m below meth c C htab hin
  refine zx_lv [0, 1] [(0, .ref (p0)), (1, .ref (p1))] rfl ?_
  refine zx_aload_n C dL_open_0 1 rfl ?_
  refine zx_iconst (v := 0) C dL_open_1 (by decide) ?_
  refine zx_aload_n C dL_open_2 0 rfl ?_
  obtain ⟨k1, i2, hm⟩ := ckO_e hm
  rcases cly_e hm with ⟨v3, ρ4, h5, hm⟩ | ⟨ρ11, h5, hm⟩
  · refine zx_callV (σ := σ) C [] tC_10 k1 i2 Y_X10_open W_5_126 W_5_127 W_5_128 (c_X10_open h5) (by decide) (by decide) rfl (Nat.le_of_ble_eq_true rfl) dL_open_3 rfl ?_
    refine zx_i2l C dL_open_6 ?_
    obtain ⟨n8, k6, i7, hm⟩ := ckR_e hm
    obtain ⟨h9, hm⟩ := ckI_e hm
    refine zx_last C k6 i7 h9 dL_open_7 ?_
    refine zx_goto C 14 dL_open_8 (by decide) ?_
    refine zx_iconst (v := 0) C dL_open_14 (by decide) ?_
    obtain ⟨rfl, rfl⟩ := ret_e hm
    exact zx_iret C rfl rfl rfl dL_open_15
  · refine zx_catchV (σ := σ) (x9 := { startPc := 0, endPc := 8, handlerPc := 11, catchType := 13 }) C (tableOf []) (tableOf []) htab (by decide) (by decide) (by decide) (E := "java/lang/IllegalStateException") W_3_103 W_3_118 [] tC_10 k1 i2 Y_X10_open W_5_126 W_5_127 W_5_128 (c_X10_open h5) (by decide) (by decide) rfl (Nat.le_of_ble_eq_true rfl) dL_open_3 rfl (fun q10 => ?_)
    refine zx_astore_n C [(2, .ref (q10)), (0, .ref (p0)), (1, .ref (p1))] dL_open_11 rfl (by decide) rfl ?_
    refine zx_iconst (v := 1) C dL_open_12 (by decide) ?_
    obtain ⟨rfl, rfl⟩ := ret_e hm
    exact zx_iret C rfl rfl rfl dL_open_13
abbrev cL_info : ByteArray := method_17_code
def yL_info : MethodName := ⟨"SyncTreeLaw", "info", "(LSyncTree;IZ[J)I"⟩
theorem Y_L_info : tYH yL_info cL_info 5 (some .int) [(0, 10, 13, 13)] 4 := ⟨W_5_211, W_1_0, ⟨by decide +kernel, by decide +kernel⟩, by decide +kernel⟩
theorem dL_info_0 : decode cL_info 0 = .ok (.aload_n 3, 1) := by decide +kernel
theorem dL_info_1 : decode cL_info 1 = .ok (.iconst 0, 1) := by decide +kernel
theorem dL_info_2 : decode cL_info 2 = .ok (.aload_n 0, 1) := by decide +kernel
theorem dL_info_3 : decode cL_info 3 = .ok (.iload_n 1, 1) := by decide +kernel
theorem dL_info_4 : decode cL_info 4 = .ok (.iload_n 2, 1) := by decide +kernel
theorem dL_info_5 : decode cL_info 5 = .ok (.invokevirtual 59, 3) := by decide +kernel
theorem dL_info_8 : decode cL_info 8 = .ok (.i2l, 1) := by decide +kernel
theorem dL_info_9 : decode cL_info 9 = .ok (.lastore, 1) := by decide +kernel
theorem dL_info_10 : decode cL_info 10 = .ok (.goto 7, 3) := by decide +kernel
theorem dL_info_13 : decode cL_info 13 = .ok (.astore 4, 2) := by decide +kernel
theorem dL_info_15 : decode cL_info 15 = .ok (.iconst 1, 1) := by decide +kernel
theorem dL_info_16 : decode cL_info 16 = .ok (.ireturn, 1) := by decide +kernel
theorem dL_info_17 : decode cL_info 17 = .ok (.iconst 0, 1) := by decide +kernel
theorem dL_info_18 : decode cL_info 18 = .ok (.ireturn, 1) := by decide +kernel
set_option maxRecDepth 100000 in
set_option maxHeartbeats 1000000 in
theorem c_L_info {l : Launch} {D : va_G} {aC : Nat → ClassId} {b0 fu : Nat} {p0 : Nat} {p1 : Int32} {p2 : Int32} {p3 : Nat} {σ τ : tM} {v : Int32} (hm : m_L_info b0 fu p0 p1 p2 p3 σ = some (v, τ)) : tMt l D aC b0 yL_info (Cond.codeWith yL_info cL_info 5 (some .int) [(0, 10, 13, 13)]) 8 173 [.ref (p0), .int (p1), .int (p2), .ref (p3)] σ (.inl (some (.int v))) τ := by
  unfold m_L_info at hm
  obtain ⟨hg, hm⟩ := grw_e hm
  refine tMt_ofH rfl (Nat.le_of_ble_eq_true rfl) hg ?_
  intro p e s m below meth c C htab hin
  refine zx_lv [0, 1, 2, 3] [(0, .ref (p0)), (1, .int (p1)), (2, .int (p2)), (3, .ref (p3))] rfl ?_
  refine zx_aload_n C dL_info_0 3 rfl ?_
  refine zx_iconst (v := 0) C dL_info_1 (by decide) ?_
  refine zx_aload_n C dL_info_2 0 rfl ?_
  refine zx_iload_n C dL_info_3 1 rfl ?_
  refine zx_iload_n C dL_info_4 2 rfl ?_
  obtain ⟨k1, i2, hm⟩ := ckO_e hm
  rcases cly_e hm with ⟨v3, ρ4, h5, hm⟩ | ⟨ρ11, h5, hm⟩
  · refine zx_callV (σ := σ) C [.int (p1), .int (p2)] tC_10 k1 i2 Y_X10_info W_5_212 W_5_213 W_5_214 (c_X10_info h5) (by decide) (by decide) rfl (Nat.le_of_ble_eq_true rfl) dL_info_5 rfl ?_
    refine zx_i2l C dL_info_8 ?_
    obtain ⟨n8, k6, i7, hm⟩ := ckR_e hm
    obtain ⟨h9, hm⟩ := ckI_e hm
    refine zx_last C k6 i7 h9 dL_info_9 ?_
    refine zx_goto C 17 dL_info_10 (by decide) ?_
    refine zx_iconst (v := 0) C dL_info_17 (by decide) ?_
    obtain ⟨rfl, rfl⟩ := ret_e hm
    exact zx_iret C rfl rfl rfl dL_info_18
  · refine zx_catchV (σ := σ) (x9 := { startPc := 0, endPc := 10, handlerPc := 13, catchType := 13 }) C (tableOf []) (tableOf []) htab (by decide) (by decide) (by decide) (E := "java/lang/IllegalStateException") W_3_103 W_3_118 [.int (p1), .int (p2)] tC_10 k1 i2 Y_X10_info W_5_212 W_5_213 W_5_214 (c_X10_info h5) (by decide) (by decide) rfl (Nat.le_of_ble_eq_true rfl) dL_info_5 rfl (fun q10 => ?_)
    refine zx_astore C [(4, .ref (q10)), (0, .ref (p0)), (1, .int (p1)), (2, .int (p2)), (3, .ref (p3))] dL_info_13 (by decide) rfl ?_
    refine zx_iconst (v := 1) C dL_info_15 (by decide) ?_
    obtain ⟨rfl, rfl⟩ := ret_e hm
    exact zx_iret C rfl rfl rfl dL_info_16
abbrev cL_infoOf : ByteArray := method_18_code
def yL_infoOf : MethodName := ⟨"SyncTreeLaw", "infoOf", "(LSyncTree;II[J)I"⟩
theorem Y_L_infoOf : tYH yL_infoOf cL_infoOf 5 (some .int) [(0, 10, 13, 13)] 4 := ⟨W_5_232, W_1_0, ⟨by decide +kernel, by decide +kernel⟩, by decide +kernel⟩
theorem dL_infoOf_0 : decode cL_infoOf 0 = .ok (.aload_n 3, 1) := by decide +kernel
theorem dL_infoOf_1 : decode cL_infoOf 1 = .ok (.iconst 0, 1) := by decide +kernel
theorem dL_infoOf_2 : decode cL_infoOf 2 = .ok (.aload_n 0, 1) := by decide +kernel
theorem dL_infoOf_3 : decode cL_infoOf 3 = .ok (.iload_n 1, 1) := by decide +kernel
theorem dL_infoOf_4 : decode cL_infoOf 4 = .ok (.iload_n 2, 1) := by decide +kernel
theorem dL_infoOf_5 : decode cL_infoOf 5 = .ok (.invokevirtual 63, 3) := by decide +kernel
theorem dL_infoOf_8 : decode cL_infoOf 8 = .ok (.i2l, 1) := by decide +kernel
theorem dL_infoOf_9 : decode cL_infoOf 9 = .ok (.lastore, 1) := by decide +kernel
theorem dL_infoOf_10 : decode cL_infoOf 10 = .ok (.goto 7, 3) := by decide +kernel
theorem dL_infoOf_13 : decode cL_infoOf 13 = .ok (.astore 4, 2) := by decide +kernel
theorem dL_infoOf_15 : decode cL_infoOf 15 = .ok (.iconst 1, 1) := by decide +kernel
theorem dL_infoOf_16 : decode cL_infoOf 16 = .ok (.ireturn, 1) := by decide +kernel
theorem dL_infoOf_17 : decode cL_infoOf 17 = .ok (.iconst 0, 1) := by decide +kernel
theorem dL_infoOf_18 : decode cL_infoOf 18 = .ok (.ireturn, 1) := by decide +kernel
set_option maxRecDepth 100000 in
set_option maxHeartbeats 1000000 in
theorem c_L_infoOf {l : Launch} {D : va_G} {aC : Nat → ClassId} {b0 fu : Nat} {p0 : Nat} {p1 : Int32} {p2 : Int32} {p3 : Nat} {σ τ : tM} {v : Int32} (hm : m_L_infoOf b0 fu p0 p1 p2 p3 σ = some (v, τ)) : tMt l D aC b0 yL_infoOf (Cond.codeWith yL_infoOf cL_infoOf 5 (some .int) [(0, 10, 13, 13)]) 8 138 [.ref (p0), .int (p1), .int (p2), .ref (p3)] σ (.inl (some (.int v))) τ := by
  unfold m_L_infoOf at hm
  obtain ⟨hg, hm⟩ := grw_e hm
  refine tMt_ofH rfl (Nat.le_of_ble_eq_true rfl) hg ?_
  intro p e s m below meth c C htab hin
  refine zx_lv [0, 1, 2, 3] [(0, .ref (p0)), (1, .int (p1)), (2, .int (p2)), (3, .ref (p3))] rfl ?_
  refine zx_aload_n C dL_infoOf_0 3 rfl ?_
  refine zx_iconst (v := 0) C dL_infoOf_1 (by decide) ?_
  refine zx_aload_n C dL_infoOf_2 0 rfl ?_
  refine zx_iload_n C dL_infoOf_3 1 rfl ?_
  refine zx_iload_n C dL_infoOf_4 2 rfl ?_
  obtain ⟨k1, i2, hm⟩ := ckO_e hm
  rcases cly_e hm with ⟨v3, ρ4, h5, hm⟩ | ⟨ρ11, h5, hm⟩
  · refine zx_callV (σ := σ) C [.int (p1), .int (p2)] tC_10 k1 i2 Y_X10_infoOf W_5_233 W_5_234 W_5_235 (c_X10_infoOf h5) (by decide) (by decide) rfl (Nat.le_of_ble_eq_true rfl) dL_infoOf_5 rfl ?_
    refine zx_i2l C dL_infoOf_8 ?_
    obtain ⟨n8, k6, i7, hm⟩ := ckR_e hm
    obtain ⟨h9, hm⟩ := ckI_e hm
    refine zx_last C k6 i7 h9 dL_infoOf_9 ?_
    refine zx_goto C 17 dL_infoOf_10 (by decide) ?_
    refine zx_iconst (v := 0) C dL_infoOf_17 (by decide) ?_
    obtain ⟨rfl, rfl⟩ := ret_e hm
    exact zx_iret C rfl rfl rfl dL_infoOf_18
  · refine zx_catchV (σ := σ) (x9 := { startPc := 0, endPc := 10, handlerPc := 13, catchType := 13 }) C (tableOf []) (tableOf []) htab (by decide) (by decide) (by decide) (E := "java/lang/IllegalStateException") W_3_103 W_3_118 [.int (p1), .int (p2)] tC_10 k1 i2 Y_X10_infoOf W_5_233 W_5_234 W_5_235 (c_X10_infoOf h5) (by decide) (by decide) rfl (Nat.le_of_ble_eq_true rfl) dL_infoOf_5 rfl (fun q10 => ?_)
    refine zx_astore C [(4, .ref (q10)), (0, .ref (p0)), (1, .int (p1)), (2, .int (p2)), (3, .ref (p3))] dL_infoOf_13 (by decide) rfl ?_
    refine zx_iconst (v := 1) C dL_infoOf_15 (by decide) ?_
    obtain ⟨rfl, rfl⟩ := ret_e hm
    exact zx_iret C rfl rfl rfl dL_infoOf_16
abbrev cL_entry : ByteArray := method_19_code
def yL_entry : MethodName := ⟨"SyncTreeLaw", "entry", "(LSyncTree;II[J)I"⟩
theorem Y_L_entry : tYH yL_entry cL_entry 5 (some .int) [(0, 10, 13, 13)] 4 := ⟨W_5_239, W_1_0, ⟨by decide +kernel, by decide +kernel⟩, by decide +kernel⟩
theorem dL_entry_0 : decode cL_entry 0 = .ok (.aload_n 3, 1) := by decide +kernel
theorem dL_entry_1 : decode cL_entry 1 = .ok (.iconst 0, 1) := by decide +kernel
theorem dL_entry_2 : decode cL_entry 2 = .ok (.aload_n 0, 1) := by decide +kernel
theorem dL_entry_3 : decode cL_entry 3 = .ok (.iload_n 1, 1) := by decide +kernel
theorem dL_entry_4 : decode cL_entry 4 = .ok (.iload_n 2, 1) := by decide +kernel
theorem dL_entry_5 : decode cL_entry 5 = .ok (.invokevirtual 66, 3) := by decide +kernel
theorem dL_entry_8 : decode cL_entry 8 = .ok (.i2l, 1) := by decide +kernel
theorem dL_entry_9 : decode cL_entry 9 = .ok (.lastore, 1) := by decide +kernel
theorem dL_entry_10 : decode cL_entry 10 = .ok (.goto 7, 3) := by decide +kernel
theorem dL_entry_13 : decode cL_entry 13 = .ok (.astore 4, 2) := by decide +kernel
theorem dL_entry_15 : decode cL_entry 15 = .ok (.iconst 1, 1) := by decide +kernel
theorem dL_entry_16 : decode cL_entry 16 = .ok (.ireturn, 1) := by decide +kernel
theorem dL_entry_17 : decode cL_entry 17 = .ok (.iconst 0, 1) := by decide +kernel
theorem dL_entry_18 : decode cL_entry 18 = .ok (.ireturn, 1) := by decide +kernel
set_option maxRecDepth 100000 in
set_option maxHeartbeats 1000000 in
theorem c_L_entry {l : Launch} {D : va_G} {aC : Nat → ClassId} {b0 fu : Nat} {p0 : Nat} {p1 : Int32} {p2 : Int32} {p3 : Nat} {σ τ : tM} {v : Int32} (hm : m_L_entry b0 fu p0 p1 p2 p3 σ = some (v, τ)) : tMt l D aC b0 yL_entry (Cond.codeWith yL_entry cL_entry 5 (some .int) [(0, 10, 13, 13)]) 8 174 [.ref (p0), .int (p1), .int (p2), .ref (p3)] σ (.inl (some (.int v))) τ := by
  unfold m_L_entry at hm
  obtain ⟨hg, hm⟩ := grw_e hm
  refine tMt_ofH rfl (Nat.le_of_ble_eq_true rfl) hg ?_
  intro p e s m below meth c C htab hin
  refine zx_lv [0, 1, 2, 3] [(0, .ref (p0)), (1, .int (p1)), (2, .int (p2)), (3, .ref (p3))] rfl ?_
  refine zx_aload_n C dL_entry_0 3 rfl ?_
  refine zx_iconst (v := 0) C dL_entry_1 (by decide) ?_
  refine zx_aload_n C dL_entry_2 0 rfl ?_
  refine zx_iload_n C dL_entry_3 1 rfl ?_
  refine zx_iload_n C dL_entry_4 2 rfl ?_
  obtain ⟨k1, i2, hm⟩ := ckO_e hm
  rcases cly_e hm with ⟨v3, ρ4, h5, hm⟩ | ⟨ρ11, h5, hm⟩
  · refine zx_callV (σ := σ) C [.int (p1), .int (p2)] tC_10 k1 i2 Y_X10_entry W_6_0 W_6_1 W_6_2 (c_X10_entry h5) (by decide) (by decide) rfl (Nat.le_of_ble_eq_true rfl) dL_entry_5 rfl ?_
    refine zx_i2l C dL_entry_8 ?_
    obtain ⟨n8, k6, i7, hm⟩ := ckR_e hm
    obtain ⟨h9, hm⟩ := ckI_e hm
    refine zx_last C k6 i7 h9 dL_entry_9 ?_
    refine zx_goto C 17 dL_entry_10 (by decide) ?_
    refine zx_iconst (v := 0) C dL_entry_17 (by decide) ?_
    obtain ⟨rfl, rfl⟩ := ret_e hm
    exact zx_iret C rfl rfl rfl dL_entry_18
  · refine zx_catchV (σ := σ) (x9 := { startPc := 0, endPc := 10, handlerPc := 13, catchType := 13 }) C (tableOf []) (tableOf []) htab (by decide) (by decide) (by decide) (E := "java/lang/IllegalStateException") W_3_103 W_3_118 [.int (p1), .int (p2)] tC_10 k1 i2 Y_X10_entry W_6_0 W_6_1 W_6_2 (c_X10_entry h5) (by decide) (by decide) rfl (Nat.le_of_ble_eq_true rfl) dL_entry_5 rfl (fun q10 => ?_)
    refine zx_astore C [(4, .ref (q10)), (0, .ref (p0)), (1, .int (p1)), (2, .int (p2)), (3, .ref (p3))] dL_entry_13 (by decide) rfl ?_
    refine zx_iconst (v := 1) C dL_entry_15 (by decide) ?_
    obtain ⟨rfl, rfl⟩ := ret_e hm
    exact zx_iret C rfl rfl rfl dL_entry_16
abbrev cL_textAt : ByteArray := method_20_code
def yL_textAt : MethodName := ⟨"SyncTreeLaw", "textAt", "(LSyncTree;I[J)I"⟩
theorem Y_L_textAt : tYH yL_textAt cL_textAt 4 (some .int) [(0, 9, 12, 13)] 3 := ⟨W_6_12, W_1_0, ⟨by decide +kernel, by decide +kernel⟩, by decide +kernel⟩
theorem dL_textAt_0 : decode cL_textAt 0 = .ok (.aload_n 2, 1) := by decide +kernel
theorem dL_textAt_1 : decode cL_textAt 1 = .ok (.iconst 0, 1) := by decide +kernel
theorem dL_textAt_2 : decode cL_textAt 2 = .ok (.aload_n 0, 1) := by decide +kernel
theorem dL_textAt_3 : decode cL_textAt 3 = .ok (.iload_n 1, 1) := by decide +kernel
theorem dL_textAt_4 : decode cL_textAt 4 = .ok (.invokevirtual 69, 3) := by decide +kernel
theorem dL_textAt_7 : decode cL_textAt 7 = .ok (.i2l, 1) := by decide +kernel
theorem dL_textAt_8 : decode cL_textAt 8 = .ok (.lastore, 1) := by decide +kernel
theorem dL_textAt_9 : decode cL_textAt 9 = .ok (.goto 6, 3) := by decide +kernel
theorem dL_textAt_12 : decode cL_textAt 12 = .ok (.astore_n 3, 1) := by decide +kernel
theorem dL_textAt_13 : decode cL_textAt 13 = .ok (.iconst 1, 1) := by decide +kernel
theorem dL_textAt_14 : decode cL_textAt 14 = .ok (.ireturn, 1) := by decide +kernel
theorem dL_textAt_15 : decode cL_textAt 15 = .ok (.iconst 0, 1) := by decide +kernel
theorem dL_textAt_16 : decode cL_textAt 16 = .ok (.ireturn, 1) := by decide +kernel
set_option maxRecDepth 100000 in
set_option maxHeartbeats 1000000 in
theorem c_L_textAt {l : Launch} {D : va_G} {aC : Nat → ClassId} {b0 fu : Nat} {p0 : Nat} {p1 : Int32} {p2 : Nat} {σ τ : tM} {v : Int32} (hm : m_L_textAt b0 fu p0 p1 p2 σ = some (v, τ)) : tMt l D aC b0 yL_textAt (Cond.codeWith yL_textAt cL_textAt 4 (some .int) [(0, 9, 12, 13)]) 8 172 [.ref (p0), .int (p1), .ref (p2)] σ (.inl (some (.int v))) τ := by
  unfold m_L_textAt at hm
  obtain ⟨hg, hm⟩ := grw_e hm
  refine tMt_ofH rfl (Nat.le_of_ble_eq_true rfl) hg ?_
  intro p e s m below meth c C htab hin
  refine zx_lv [0, 1, 2] [(0, .ref (p0)), (1, .int (p1)), (2, .ref (p2))] rfl ?_
  refine zx_aload_n C dL_textAt_0 2 rfl ?_
  refine zx_iconst (v := 0) C dL_textAt_1 (by decide) ?_
  refine zx_aload_n C dL_textAt_2 0 rfl ?_
  refine zx_iload_n C dL_textAt_3 1 rfl ?_
  obtain ⟨k1, i2, hm⟩ := ckO_e hm
  rcases cly_e hm with ⟨v3, ρ4, h5, hm⟩ | ⟨ρ11, h5, hm⟩
  · refine zx_callV (σ := σ) C [.int (p1)] tC_10 k1 i2 Y_X10_textAt W_6_13 W_6_14 W_6_15 (c_X10_textAt h5) (by decide) (by decide) rfl (Nat.le_of_ble_eq_true rfl) dL_textAt_4 rfl ?_
    refine zx_i2l C dL_textAt_7 ?_
    obtain ⟨n8, k6, i7, hm⟩ := ckR_e hm
    obtain ⟨h9, hm⟩ := ckI_e hm
    refine zx_last C k6 i7 h9 dL_textAt_8 ?_
    refine zx_goto C 15 dL_textAt_9 (by decide) ?_
    refine zx_iconst (v := 0) C dL_textAt_15 (by decide) ?_
    obtain ⟨rfl, rfl⟩ := ret_e hm
    exact zx_iret C rfl rfl rfl dL_textAt_16
  · refine zx_catchV (σ := σ) (x9 := { startPc := 0, endPc := 9, handlerPc := 12, catchType := 13 }) C (tableOf []) (tableOf []) htab (by decide) (by decide) (by decide) (E := "java/lang/IllegalStateException") W_3_103 W_3_118 [.int (p1)] tC_10 k1 i2 Y_X10_textAt W_6_13 W_6_14 W_6_15 (c_X10_textAt h5) (by decide) (by decide) rfl (Nat.le_of_ble_eq_true rfl) dL_textAt_4 rfl (fun q10 => ?_)
    refine zx_astore_n C [(3, .ref (q10)), (0, .ref (p0)), (1, .int (p1)), (2, .ref (p2))] dL_textAt_12 rfl (by decide) rfl ?_
    refine zx_iconst (v := 1) C dL_textAt_13 (by decide) ?_
    obtain ⟨rfl, rfl⟩ := ret_e hm
    exact zx_iret C rfl rfl rfl dL_textAt_14
abbrev cL_writeBack : ByteArray := method_26_code
def yL_writeBack : MethodName := ⟨"SyncTreeLaw", "writeBack", "(LSyncTree;I[J)I"⟩
theorem Y_L_writeBack : tYH yL_writeBack cL_writeBack 4 (some .int) [(0, 9, 12, 13)] 3 := ⟨W_6_89, W_1_0, ⟨by decide +kernel, by decide +kernel⟩, by decide +kernel⟩
theorem dL_writeBack_0 : decode cL_writeBack 0 = .ok (.aload_n 2, 1) := by decide +kernel
theorem dL_writeBack_1 : decode cL_writeBack 1 = .ok (.iconst 0, 1) := by decide +kernel
theorem dL_writeBack_2 : decode cL_writeBack 2 = .ok (.aload_n 0, 1) := by decide +kernel
theorem dL_writeBack_3 : decode cL_writeBack 3 = .ok (.iload_n 1, 1) := by decide +kernel
theorem dL_writeBack_4 : decode cL_writeBack 4 = .ok (.invokevirtual 87, 3) := by decide +kernel
theorem dL_writeBack_7 : decode cL_writeBack 7 = .ok (.i2l, 1) := by decide +kernel
theorem dL_writeBack_8 : decode cL_writeBack 8 = .ok (.lastore, 1) := by decide +kernel
theorem dL_writeBack_9 : decode cL_writeBack 9 = .ok (.goto 6, 3) := by decide +kernel
theorem dL_writeBack_12 : decode cL_writeBack 12 = .ok (.astore_n 3, 1) := by decide +kernel
theorem dL_writeBack_13 : decode cL_writeBack 13 = .ok (.iconst 1, 1) := by decide +kernel
theorem dL_writeBack_14 : decode cL_writeBack 14 = .ok (.ireturn, 1) := by decide +kernel
theorem dL_writeBack_15 : decode cL_writeBack 15 = .ok (.iconst 0, 1) := by decide +kernel
theorem dL_writeBack_16 : decode cL_writeBack 16 = .ok (.ireturn, 1) := by decide +kernel
set_option maxRecDepth 100000 in
set_option maxHeartbeats 1000000 in
theorem c_L_writeBack {l : Launch} {D : va_G} {aC : Nat → ClassId} {b0 fu : Nat} {p0 : Nat} {p1 : Int32} {p2 : Nat} {σ τ : tM} {v : Int32} (hm : m_L_writeBack b0 fu p0 p1 p2 σ = some (v, τ)) : tMt l D aC b0 yL_writeBack (Cond.codeWith yL_writeBack cL_writeBack 4 (some .int) [(0, 9, 12, 13)]) 10 178 [.ref (p0), .int (p1), .ref (p2)] σ (.inl (some (.int v))) τ := by
  unfold m_L_writeBack at hm
  obtain ⟨hg, hm⟩ := grw_e hm
  refine tMt_ofH rfl (Nat.le_of_ble_eq_true rfl) hg ?_
  intro p e s m below meth c C htab hin
  refine zx_lv [0, 1, 2] [(0, .ref (p0)), (1, .int (p1)), (2, .ref (p2))] rfl ?_
  refine zx_aload_n C dL_writeBack_0 2 rfl ?_
  refine zx_iconst (v := 0) C dL_writeBack_1 (by decide) ?_
  refine zx_aload_n C dL_writeBack_2 0 rfl ?_
  refine zx_iload_n C dL_writeBack_3 1 rfl ?_
  obtain ⟨k1, i2, hm⟩ := ckO_e hm
  rcases cly_e hm with ⟨v3, ρ4, h5, hm⟩ | ⟨ρ11, h5, hm⟩
  · refine zx_callV (σ := σ) C [.int (p1)] tC_10 k1 i2 Y_X10_writeBack W_6_90 W_6_91 W_6_92 (c_X10_writeBack h5) (by decide) (by decide) rfl (Nat.le_of_ble_eq_true rfl) dL_writeBack_4 rfl ?_
    refine zx_i2l C dL_writeBack_7 ?_
    obtain ⟨n8, k6, i7, hm⟩ := ckR_e hm
    obtain ⟨h9, hm⟩ := ckI_e hm
    refine zx_last C k6 i7 h9 dL_writeBack_8 ?_
    refine zx_goto C 15 dL_writeBack_9 (by decide) ?_
    refine zx_iconst (v := 0) C dL_writeBack_15 (by decide) ?_
    obtain ⟨rfl, rfl⟩ := ret_e hm
    exact zx_iret C rfl rfl rfl dL_writeBack_16
  · refine zx_catchV (σ := σ) (x9 := { startPc := 0, endPc := 9, handlerPc := 12, catchType := 13 }) C (tableOf []) (tableOf []) htab (by decide) (by decide) (by decide) (E := "java/lang/IllegalStateException") W_3_103 W_3_118 [.int (p1)] tC_10 k1 i2 Y_X10_writeBack W_6_90 W_6_91 W_6_92 (c_X10_writeBack h5) (by decide) (by decide) rfl (Nat.le_of_ble_eq_true rfl) dL_writeBack_4 rfl (fun q10 => ?_)
    refine zx_astore_n C [(3, .ref (q10)), (0, .ref (p0)), (1, .int (p1)), (2, .ref (p2))] dL_writeBack_12 rfl (by decide) rfl ?_
    refine zx_iconst (v := 1) C dL_writeBack_13 (by decide) ?_
    obtain ⟨rfl, rfl⟩ := ret_e hm
    exact zx_iret C rfl rfl rfl dL_writeBack_14
abbrev cL_apply : ByteArray := method_27_code
def yL_apply : MethodName := ⟨"SyncTreeLaw", "apply", "(LSyncTree;I[J)I"⟩
theorem Y_L_apply : tYH yL_apply cL_apply 4 (some .int) [(0, 9, 12, 13)] 3 := ⟨W_6_96, W_1_0, ⟨by decide +kernel, by decide +kernel⟩, by decide +kernel⟩
theorem dL_apply_0 : decode cL_apply 0 = .ok (.aload_n 2, 1) := by decide +kernel
theorem dL_apply_1 : decode cL_apply 1 = .ok (.iconst 0, 1) := by decide +kernel
theorem dL_apply_2 : decode cL_apply 2 = .ok (.aload_n 0, 1) := by decide +kernel
theorem dL_apply_3 : decode cL_apply 3 = .ok (.iload_n 1, 1) := by decide +kernel
theorem dL_apply_4 : decode cL_apply 4 = .ok (.invokevirtual 90, 3) := by decide +kernel
theorem dL_apply_7 : decode cL_apply 7 = .ok (.i2l, 1) := by decide +kernel
theorem dL_apply_8 : decode cL_apply 8 = .ok (.lastore, 1) := by decide +kernel
theorem dL_apply_9 : decode cL_apply 9 = .ok (.goto 6, 3) := by decide +kernel
theorem dL_apply_12 : decode cL_apply 12 = .ok (.astore_n 3, 1) := by decide +kernel
theorem dL_apply_13 : decode cL_apply 13 = .ok (.iconst 1, 1) := by decide +kernel
theorem dL_apply_14 : decode cL_apply 14 = .ok (.ireturn, 1) := by decide +kernel
theorem dL_apply_15 : decode cL_apply 15 = .ok (.iconst 0, 1) := by decide +kernel
theorem dL_apply_16 : decode cL_apply 16 = .ok (.ireturn, 1) := by decide +kernel
set_option maxRecDepth 100000 in
set_option maxHeartbeats 1000000 in
theorem c_L_apply {l : Launch} {D : va_G} {aC : Nat → ClassId} {b0 fu : Nat} {p0 : Nat} {p1 : Int32} {p2 : Nat} {σ τ : tM} {v : Int32} (hm : m_L_apply b0 fu p0 p1 p2 σ = some (v, τ)) : tMt l D aC b0 yL_apply (Cond.codeWith yL_apply cL_apply 4 (some .int) [(0, 9, 12, 13)]) 10 178 [.ref (p0), .int (p1), .ref (p2)] σ (.inl (some (.int v))) τ := by
  unfold m_L_apply at hm
  obtain ⟨hg, hm⟩ := grw_e hm
  refine tMt_ofH rfl (Nat.le_of_ble_eq_true rfl) hg ?_
  intro p e s m below meth c C htab hin
  refine zx_lv [0, 1, 2] [(0, .ref (p0)), (1, .int (p1)), (2, .ref (p2))] rfl ?_
  refine zx_aload_n C dL_apply_0 2 rfl ?_
  refine zx_iconst (v := 0) C dL_apply_1 (by decide) ?_
  refine zx_aload_n C dL_apply_2 0 rfl ?_
  refine zx_iload_n C dL_apply_3 1 rfl ?_
  obtain ⟨k1, i2, hm⟩ := ckO_e hm
  rcases cly_e hm with ⟨v3, ρ4, h5, hm⟩ | ⟨ρ11, h5, hm⟩
  · refine zx_callV (σ := σ) C [.int (p1)] tC_10 k1 i2 Y_X10_apply W_6_97 W_6_98 W_6_99 (c_X10_apply h5) (by decide) (by decide) rfl (Nat.le_of_ble_eq_true rfl) dL_apply_4 rfl ?_
    refine zx_i2l C dL_apply_7 ?_
    obtain ⟨n8, k6, i7, hm⟩ := ckR_e hm
    obtain ⟨h9, hm⟩ := ckI_e hm
    refine zx_last C k6 i7 h9 dL_apply_8 ?_
    refine zx_goto C 15 dL_apply_9 (by decide) ?_
    refine zx_iconst (v := 0) C dL_apply_15 (by decide) ?_
    obtain ⟨rfl, rfl⟩ := ret_e hm
    exact zx_iret C rfl rfl rfl dL_apply_16
  · refine zx_catchV (σ := σ) (x9 := { startPc := 0, endPc := 9, handlerPc := 12, catchType := 13 }) C (tableOf []) (tableOf []) htab (by decide) (by decide) (by decide) (E := "java/lang/IllegalStateException") W_3_103 W_3_118 [.int (p1)] tC_10 k1 i2 Y_X10_apply W_6_97 W_6_98 W_6_99 (c_X10_apply h5) (by decide) (by decide) rfl (Nat.le_of_ble_eq_true rfl) dL_apply_4 rfl (fun q10 => ?_)
    refine zx_astore_n C [(3, .ref (q10)), (0, .ref (p0)), (1, .int (p1)), (2, .ref (p2))] dL_apply_12 rfl (by decide) rfl ?_
    refine zx_iconst (v := 1) C dL_apply_13 (by decide) ?_
    obtain ⟨rfl, rfl⟩ := ret_e hm
    exact zx_iret C rfl rfl rfl dL_apply_14
abbrev cL_fsync : ByteArray := method_22_code
def yL_fsync : MethodName := ⟨"SyncTreeLaw", "fsync", "(LSyncTree;I[J)I"⟩
theorem Y_L_fsync : tYH yL_fsync cL_fsync 4 (some .int) [(0, 9, 12, 13)] 3 := ⟨W_6_30, W_1_0, ⟨by decide +kernel, by decide +kernel⟩, by decide +kernel⟩
theorem dL_fsync_0 : decode cL_fsync 0 = .ok (.aload_n 2, 1) := by decide +kernel
theorem dL_fsync_1 : decode cL_fsync 1 = .ok (.iconst 0, 1) := by decide +kernel
theorem dL_fsync_2 : decode cL_fsync 2 = .ok (.aload_n 0, 1) := by decide +kernel
theorem dL_fsync_3 : decode cL_fsync 3 = .ok (.iload_n 1, 1) := by decide +kernel
theorem dL_fsync_4 : decode cL_fsync 4 = .ok (.invokevirtual 75, 3) := by decide +kernel
theorem dL_fsync_7 : decode cL_fsync 7 = .ok (.i2l, 1) := by decide +kernel
theorem dL_fsync_8 : decode cL_fsync 8 = .ok (.lastore, 1) := by decide +kernel
theorem dL_fsync_9 : decode cL_fsync 9 = .ok (.goto 6, 3) := by decide +kernel
theorem dL_fsync_12 : decode cL_fsync 12 = .ok (.astore_n 3, 1) := by decide +kernel
theorem dL_fsync_13 : decode cL_fsync 13 = .ok (.iconst 1, 1) := by decide +kernel
theorem dL_fsync_14 : decode cL_fsync 14 = .ok (.ireturn, 1) := by decide +kernel
theorem dL_fsync_15 : decode cL_fsync 15 = .ok (.iconst 0, 1) := by decide +kernel
theorem dL_fsync_16 : decode cL_fsync 16 = .ok (.ireturn, 1) := by decide +kernel
set_option maxRecDepth 100000 in
set_option maxHeartbeats 1000000 in
theorem c_L_fsync {l : Launch} {D : va_G} {aC : Nat → ClassId} {b0 fu : Nat} {p0 : Nat} {p1 : Int32} {p2 : Nat} {σ τ : tM} {v : Int32} (hm : m_L_fsync b0 fu p0 p1 p2 σ = some (v, τ)) : tMt l D aC b0 yL_fsync (Cond.codeWith yL_fsync cL_fsync 4 (some .int) [(0, 9, 12, 13)]) 12 222 [.ref (p0), .int (p1), .ref (p2)] σ (.inl (some (.int v))) τ := by
  unfold m_L_fsync at hm
  obtain ⟨hg, hm⟩ := grw_e hm
  refine tMt_ofH rfl (Nat.le_of_ble_eq_true rfl) hg ?_
  intro p e s m below meth c C htab hin
  refine zx_lv [0, 1, 2] [(0, .ref (p0)), (1, .int (p1)), (2, .ref (p2))] rfl ?_
  refine zx_aload_n C dL_fsync_0 2 rfl ?_
  refine zx_iconst (v := 0) C dL_fsync_1 (by decide) ?_
  refine zx_aload_n C dL_fsync_2 0 rfl ?_
  refine zx_iload_n C dL_fsync_3 1 rfl ?_
  obtain ⟨k1, i2, hm⟩ := ckO_e hm
  rcases cly_e hm with ⟨v3, ρ4, h5, hm⟩ | ⟨ρ11, h5, hm⟩
  · refine zx_callV (σ := σ) C [.int (p1)] tC_10 k1 i2 Y_X10_fsync W_6_31 W_6_32 W_6_33 (c_X10_fsync h5) (by decide) (by decide) rfl (Nat.le_of_ble_eq_true rfl) dL_fsync_4 rfl ?_
    refine zx_i2l C dL_fsync_7 ?_
    obtain ⟨n8, k6, i7, hm⟩ := ckR_e hm
    obtain ⟨h9, hm⟩ := ckI_e hm
    refine zx_last C k6 i7 h9 dL_fsync_8 ?_
    refine zx_goto C 15 dL_fsync_9 (by decide) ?_
    refine zx_iconst (v := 0) C dL_fsync_15 (by decide) ?_
    obtain ⟨rfl, rfl⟩ := ret_e hm
    exact zx_iret C rfl rfl rfl dL_fsync_16
  · refine zx_catchV (σ := σ) (x9 := { startPc := 0, endPc := 9, handlerPc := 12, catchType := 13 }) C (tableOf []) (tableOf []) htab (by decide) (by decide) (by decide) (E := "java/lang/IllegalStateException") W_3_103 W_3_118 [.int (p1)] tC_10 k1 i2 Y_X10_fsync W_6_31 W_6_32 W_6_33 (c_X10_fsync h5) (by decide) (by decide) rfl (Nat.le_of_ble_eq_true rfl) dL_fsync_4 rfl (fun q10 => ?_)
    refine zx_astore_n C [(3, .ref (q10)), (0, .ref (p0)), (1, .int (p1)), (2, .ref (p2))] dL_fsync_12 rfl (by decide) rfl ?_
    refine zx_iconst (v := 1) C dL_fsync_13 (by decide) ?_
    obtain ⟨rfl, rfl⟩ := ret_e hm
    exact zx_iret C rfl rfl rfl dL_fsync_14
abbrev cL_fdatasync : ByteArray := method_23_code
def yL_fdatasync : MethodName := ⟨"SyncTreeLaw", "fdatasync", "(LSyncTree;I[J)I"⟩
theorem Y_L_fdatasync : tYH yL_fdatasync cL_fdatasync 4 (some .int) [(0, 9, 12, 13)] 3 := ⟨W_6_64, W_1_0, ⟨by decide +kernel, by decide +kernel⟩, by decide +kernel⟩
theorem dL_fdatasync_0 : decode cL_fdatasync 0 = .ok (.aload_n 2, 1) := by decide +kernel
theorem dL_fdatasync_1 : decode cL_fdatasync 1 = .ok (.iconst 0, 1) := by decide +kernel
theorem dL_fdatasync_2 : decode cL_fdatasync 2 = .ok (.aload_n 0, 1) := by decide +kernel
theorem dL_fdatasync_3 : decode cL_fdatasync 3 = .ok (.iload_n 1, 1) := by decide +kernel
theorem dL_fdatasync_4 : decode cL_fdatasync 4 = .ok (.invokevirtual 78, 3) := by decide +kernel
theorem dL_fdatasync_7 : decode cL_fdatasync 7 = .ok (.i2l, 1) := by decide +kernel
theorem dL_fdatasync_8 : decode cL_fdatasync 8 = .ok (.lastore, 1) := by decide +kernel
theorem dL_fdatasync_9 : decode cL_fdatasync 9 = .ok (.goto 6, 3) := by decide +kernel
theorem dL_fdatasync_12 : decode cL_fdatasync 12 = .ok (.astore_n 3, 1) := by decide +kernel
theorem dL_fdatasync_13 : decode cL_fdatasync 13 = .ok (.iconst 1, 1) := by decide +kernel
theorem dL_fdatasync_14 : decode cL_fdatasync 14 = .ok (.ireturn, 1) := by decide +kernel
theorem dL_fdatasync_15 : decode cL_fdatasync 15 = .ok (.iconst 0, 1) := by decide +kernel
theorem dL_fdatasync_16 : decode cL_fdatasync 16 = .ok (.ireturn, 1) := by decide +kernel
set_option maxRecDepth 100000 in
set_option maxHeartbeats 1000000 in
theorem c_L_fdatasync {l : Launch} {D : va_G} {aC : Nat → ClassId} {b0 fu : Nat} {p0 : Nat} {p1 : Int32} {p2 : Nat} {σ τ : tM} {v : Int32} (hm : m_L_fdatasync b0 fu p0 p1 p2 σ = some (v, τ)) : tMt l D aC b0 yL_fdatasync (Cond.codeWith yL_fdatasync cL_fdatasync 4 (some .int) [(0, 9, 12, 13)]) 12 222 [.ref (p0), .int (p1), .ref (p2)] σ (.inl (some (.int v))) τ := by
  unfold m_L_fdatasync at hm
  obtain ⟨hg, hm⟩ := grw_e hm
  refine tMt_ofH rfl (Nat.le_of_ble_eq_true rfl) hg ?_
  intro p e s m below meth c C htab hin
  refine zx_lv [0, 1, 2] [(0, .ref (p0)), (1, .int (p1)), (2, .ref (p2))] rfl ?_
  refine zx_aload_n C dL_fdatasync_0 2 rfl ?_
  refine zx_iconst (v := 0) C dL_fdatasync_1 (by decide) ?_
  refine zx_aload_n C dL_fdatasync_2 0 rfl ?_
  refine zx_iload_n C dL_fdatasync_3 1 rfl ?_
  obtain ⟨k1, i2, hm⟩ := ckO_e hm
  rcases cly_e hm with ⟨v3, ρ4, h5, hm⟩ | ⟨ρ11, h5, hm⟩
  · refine zx_callV (σ := σ) C [.int (p1)] tC_10 k1 i2 Y_X10_fdatasync W_6_65 W_6_66 W_6_67 (c_X10_fdatasync h5) (by decide) (by decide) rfl (Nat.le_of_ble_eq_true rfl) dL_fdatasync_4 rfl ?_
    refine zx_i2l C dL_fdatasync_7 ?_
    obtain ⟨n8, k6, i7, hm⟩ := ckR_e hm
    obtain ⟨h9, hm⟩ := ckI_e hm
    refine zx_last C k6 i7 h9 dL_fdatasync_8 ?_
    refine zx_goto C 15 dL_fdatasync_9 (by decide) ?_
    refine zx_iconst (v := 0) C dL_fdatasync_15 (by decide) ?_
    obtain ⟨rfl, rfl⟩ := ret_e hm
    exact zx_iret C rfl rfl rfl dL_fdatasync_16
  · refine zx_catchV (σ := σ) (x9 := { startPc := 0, endPc := 9, handlerPc := 12, catchType := 13 }) C (tableOf []) (tableOf []) htab (by decide) (by decide) (by decide) (E := "java/lang/IllegalStateException") W_3_103 W_3_118 [.int (p1)] tC_10 k1 i2 Y_X10_fdatasync W_6_65 W_6_66 W_6_67 (c_X10_fdatasync h5) (by decide) (by decide) rfl (Nat.le_of_ble_eq_true rfl) dL_fdatasync_4 rfl (fun q10 => ?_)
    refine zx_astore_n C [(3, .ref (q10)), (0, .ref (p0)), (1, .int (p1)), (2, .ref (p2))] dL_fdatasync_12 rfl (by decide) rfl ?_
    refine zx_iconst (v := 1) C dL_fdatasync_13 (by decide) ?_
    obtain ⟨rfl, rfl⟩ := ret_e hm
    exact zx_iret C rfl rfl rfl dL_fdatasync_14
abbrev cL_sync : ByteArray := method_24_code
def yL_sync : MethodName := ⟨"SyncTreeLaw", "sync", "(LSyncTree;[J)I"⟩
theorem Y_L_sync : tYH yL_sync cL_sync 3 (some .int) [(0, 8, 11, 13)] 2 := ⟨W_6_75, W_1_0, ⟨by decide +kernel, by decide +kernel⟩, by decide +kernel⟩
theorem dL_sync_0 : decode cL_sync 0 = .ok (.aload_n 1, 1) := by decide +kernel
theorem dL_sync_1 : decode cL_sync 1 = .ok (.iconst 0, 1) := by decide +kernel
theorem dL_sync_2 : decode cL_sync 2 = .ok (.aload_n 0, 1) := by decide +kernel
theorem dL_sync_3 : decode cL_sync 3 = .ok (.invokevirtual 81, 3) := by decide +kernel
theorem dL_sync_6 : decode cL_sync 6 = .ok (.i2l, 1) := by decide +kernel
theorem dL_sync_7 : decode cL_sync 7 = .ok (.lastore, 1) := by decide +kernel
theorem dL_sync_8 : decode cL_sync 8 = .ok (.goto 6, 3) := by decide +kernel
theorem dL_sync_11 : decode cL_sync 11 = .ok (.astore_n 2, 1) := by decide +kernel
theorem dL_sync_12 : decode cL_sync 12 = .ok (.iconst 1, 1) := by decide +kernel
theorem dL_sync_13 : decode cL_sync 13 = .ok (.ireturn, 1) := by decide +kernel
theorem dL_sync_14 : decode cL_sync 14 = .ok (.iconst 0, 1) := by decide +kernel
theorem dL_sync_15 : decode cL_sync 15 = .ok (.ireturn, 1) := by decide +kernel
set_option maxRecDepth 100000 in
set_option maxHeartbeats 1000000 in
theorem c_L_sync {l : Launch} {D : va_G} {aC : Nat → ClassId} {b0 fu : Nat} {p0 : Nat} {p1 : Nat} {σ τ : tM} {v : Int32} (hm : m_L_sync b0 fu p0 p1 σ = some (v, τ)) : tMt l D aC b0 yL_sync (Cond.codeWith yL_sync cL_sync 3 (some .int) [(0, 8, 11, 13)]) 12 220 [.ref (p0), .ref (p1)] σ (.inl (some (.int v))) τ := by
  unfold m_L_sync at hm
  obtain ⟨hg, hm⟩ := grw_e hm
  refine tMt_ofH rfl (Nat.le_of_ble_eq_true rfl) hg ?_
  intro p e s m below meth c C htab hin
  refine zx_lv [0, 1] [(0, .ref (p0)), (1, .ref (p1))] rfl ?_
  refine zx_aload_n C dL_sync_0 1 rfl ?_
  refine zx_iconst (v := 0) C dL_sync_1 (by decide) ?_
  refine zx_aload_n C dL_sync_2 0 rfl ?_
  obtain ⟨k1, i2, hm⟩ := ckO_e hm
  rcases cly_e hm with ⟨v3, ρ4, h5, hm⟩ | ⟨ρ11, h5, hm⟩
  · refine zx_callV (σ := σ) C [] tC_10 k1 i2 Y_X10_sync W_6_76 W_6_77 W_6_78 (c_X10_sync h5) (by decide) (by decide) rfl (Nat.le_of_ble_eq_true rfl) dL_sync_3 rfl ?_
    refine zx_i2l C dL_sync_6 ?_
    obtain ⟨n8, k6, i7, hm⟩ := ckR_e hm
    obtain ⟨h9, hm⟩ := ckI_e hm
    refine zx_last C k6 i7 h9 dL_sync_7 ?_
    refine zx_goto C 14 dL_sync_8 (by decide) ?_
    refine zx_iconst (v := 0) C dL_sync_14 (by decide) ?_
    obtain ⟨rfl, rfl⟩ := ret_e hm
    exact zx_iret C rfl rfl rfl dL_sync_15
  · refine zx_catchV (σ := σ) (x9 := { startPc := 0, endPc := 8, handlerPc := 11, catchType := 13 }) C (tableOf []) (tableOf []) htab (by decide) (by decide) (by decide) (E := "java/lang/IllegalStateException") W_3_103 W_3_118 [] tC_10 k1 i2 Y_X10_sync W_6_76 W_6_77 W_6_78 (c_X10_sync h5) (by decide) (by decide) rfl (Nat.le_of_ble_eq_true rfl) dL_sync_3 rfl (fun q10 => ?_)
    refine zx_astore_n C [(2, .ref (q10)), (0, .ref (p0)), (1, .ref (p1))] dL_sync_11 rfl (by decide) rfl ?_
    refine zx_iconst (v := 1) C dL_sync_12 (by decide) ?_
    obtain ⟨rfl, rfl⟩ := ret_e hm
    exact zx_iret C rfl rfl rfl dL_sync_13
abbrev cL_post : ByteArray := method_25_code
def yL_post : MethodName := ⟨"SyncTreeLaw", "post", "(LSyncTree;[J)I"⟩
theorem Y_L_post : tYH yL_post cL_post 3 (some .int) [(0, 8, 11, 13)] 2 := ⟨W_6_82, W_1_0, ⟨by decide +kernel, by decide +kernel⟩, by decide +kernel⟩
theorem dL_post_0 : decode cL_post 0 = .ok (.aload_n 1, 1) := by decide +kernel
theorem dL_post_1 : decode cL_post 1 = .ok (.iconst 0, 1) := by decide +kernel
theorem dL_post_2 : decode cL_post 2 = .ok (.aload_n 0, 1) := by decide +kernel
theorem dL_post_3 : decode cL_post 3 = .ok (.invokevirtual 84, 3) := by decide +kernel
theorem dL_post_6 : decode cL_post 6 = .ok (.i2l, 1) := by decide +kernel
theorem dL_post_7 : decode cL_post 7 = .ok (.lastore, 1) := by decide +kernel
theorem dL_post_8 : decode cL_post 8 = .ok (.goto 6, 3) := by decide +kernel
theorem dL_post_11 : decode cL_post 11 = .ok (.astore_n 2, 1) := by decide +kernel
theorem dL_post_12 : decode cL_post 12 = .ok (.iconst 1, 1) := by decide +kernel
theorem dL_post_13 : decode cL_post 13 = .ok (.ireturn, 1) := by decide +kernel
theorem dL_post_14 : decode cL_post 14 = .ok (.iconst 0, 1) := by decide +kernel
theorem dL_post_15 : decode cL_post 15 = .ok (.ireturn, 1) := by decide +kernel
set_option maxRecDepth 100000 in
set_option maxHeartbeats 1000000 in
theorem c_L_post {l : Launch} {D : va_G} {aC : Nat → ClassId} {b0 fu : Nat} {p0 : Nat} {p1 : Nat} {σ τ : tM} {v : Int32} (hm : m_L_post b0 fu p0 p1 σ = some (v, τ)) : tMt l D aC b0 yL_post (Cond.codeWith yL_post cL_post 3 (some .int) [(0, 8, 11, 13)]) 12 219 [.ref (p0), .ref (p1)] σ (.inl (some (.int v))) τ := by
  unfold m_L_post at hm
  obtain ⟨hg, hm⟩ := grw_e hm
  refine tMt_ofH rfl (Nat.le_of_ble_eq_true rfl) hg ?_
  intro p e s m below meth c C htab hin
  refine zx_lv [0, 1] [(0, .ref (p0)), (1, .ref (p1))] rfl ?_
  refine zx_aload_n C dL_post_0 1 rfl ?_
  refine zx_iconst (v := 0) C dL_post_1 (by decide) ?_
  refine zx_aload_n C dL_post_2 0 rfl ?_
  obtain ⟨k1, i2, hm⟩ := ckO_e hm
  rcases cly_e hm with ⟨v3, ρ4, h5, hm⟩ | ⟨ρ11, h5, hm⟩
  · refine zx_callV (σ := σ) C [] tC_10 k1 i2 Y_X10_post W_6_83 W_6_84 W_6_85 (c_X10_post h5) (by decide) (by decide) rfl (Nat.le_of_ble_eq_true rfl) dL_post_3 rfl ?_
    refine zx_i2l C dL_post_6 ?_
    obtain ⟨n8, k6, i7, hm⟩ := ckR_e hm
    obtain ⟨h9, hm⟩ := ckI_e hm
    refine zx_last C k6 i7 h9 dL_post_7 ?_
    refine zx_goto C 14 dL_post_8 (by decide) ?_
    refine zx_iconst (v := 0) C dL_post_14 (by decide) ?_
    obtain ⟨rfl, rfl⟩ := ret_e hm
    exact zx_iret C rfl rfl rfl dL_post_15
  · refine zx_catchV (σ := σ) (x9 := { startPc := 0, endPc := 8, handlerPc := 11, catchType := 13 }) C (tableOf []) (tableOf []) htab (by decide) (by decide) (by decide) (E := "java/lang/IllegalStateException") W_3_103 W_3_118 [] tC_10 k1 i2 Y_X10_post W_6_83 W_6_84 W_6_85 (c_X10_post h5) (by decide) (by decide) rfl (Nat.le_of_ble_eq_true rfl) dL_post_3 rfl (fun q10 => ?_)
    refine zx_astore_n C [(2, .ref (q10)), (0, .ref (p0)), (1, .ref (p1))] dL_post_11 rfl (by decide) rfl ?_
    refine zx_iconst (v := 1) C dL_post_12 (by decide) ?_
    obtain ⟨rfl, rfl⟩ := ret_e hm
    exact zx_iret C rfl rfl rfl dL_post_13
abbrev cL_create : ByteArray := method_3_code
def yL_create : MethodName := ⟨"SyncTreeLaw", "create", "(LSyncTree;[J)I"⟩
theorem Y_L_create : tYH yL_create cL_create 3 (some .int) [(0, 8, 11, 13)] 2 := ⟨W_3_102, W_1_0, ⟨by decide +kernel, by decide +kernel⟩, by decide +kernel⟩
theorem dL_create_0 : decode cL_create 0 = .ok (.aload_n 1, 1) := by decide +kernel
theorem dL_create_1 : decode cL_create 1 = .ok (.iconst 0, 1) := by decide +kernel
theorem dL_create_2 : decode cL_create 2 = .ok (.aload_n 0, 1) := by decide +kernel
theorem dL_create_3 : decode cL_create 3 = .ok (.invokevirtual 7, 3) := by decide +kernel
theorem dL_create_6 : decode cL_create 6 = .ok (.i2l, 1) := by decide +kernel
theorem dL_create_7 : decode cL_create 7 = .ok (.lastore, 1) := by decide +kernel
theorem dL_create_8 : decode cL_create 8 = .ok (.goto 6, 3) := by decide +kernel
theorem dL_create_11 : decode cL_create 11 = .ok (.astore_n 2, 1) := by decide +kernel
theorem dL_create_12 : decode cL_create 12 = .ok (.iconst 1, 1) := by decide +kernel
theorem dL_create_13 : decode cL_create 13 = .ok (.ireturn, 1) := by decide +kernel
theorem dL_create_14 : decode cL_create 14 = .ok (.iconst 0, 1) := by decide +kernel
theorem dL_create_15 : decode cL_create 15 = .ok (.ireturn, 1) := by decide +kernel
set_option maxRecDepth 100000 in
set_option maxHeartbeats 1000000 in
theorem c_L_create {l : Launch} {D : va_G} {aC : Nat → ClassId} {b0 fu : Nat} {p0 : Nat} {p1 : Nat} {σ τ : tM} {v : Int32} (hm : m_L_create b0 fu p0 p1 σ = some (v, τ)) : tMt l D aC b0 yL_create (Cond.codeWith yL_create cL_create 3 (some .int) [(0, 8, 11, 13)]) 13 239 [.ref (p0), .ref (p1)] σ (.inl (some (.int v))) τ := by
  unfold m_L_create at hm
  obtain ⟨hg, hm⟩ := grw_e hm
  refine tMt_ofH rfl (Nat.le_of_ble_eq_true rfl) hg ?_
  intro p e s m below meth c C htab hin
  refine zx_lv [0, 1] [(0, .ref (p0)), (1, .ref (p1))] rfl ?_
  refine zx_aload_n C dL_create_0 1 rfl ?_
  refine zx_iconst (v := 0) C dL_create_1 (by decide) ?_
  refine zx_aload_n C dL_create_2 0 rfl ?_
  obtain ⟨k1, i2, hm⟩ := ckO_e hm
  rcases cly_e hm with ⟨v3, ρ4, h5, hm⟩ | ⟨ρ11, h5, hm⟩
  · refine zx_callV (σ := σ) C [] tC_10 k1 i2 Y_X10_create W_3_104 W_3_105 W_3_106 (c_X10_create h5) (by decide) (by decide) rfl (Nat.le_of_ble_eq_true rfl) dL_create_3 rfl ?_
    refine zx_i2l C dL_create_6 ?_
    obtain ⟨n8, k6, i7, hm⟩ := ckR_e hm
    obtain ⟨h9, hm⟩ := ckI_e hm
    refine zx_last C k6 i7 h9 dL_create_7 ?_
    refine zx_goto C 14 dL_create_8 (by decide) ?_
    refine zx_iconst (v := 0) C dL_create_14 (by decide) ?_
    obtain ⟨rfl, rfl⟩ := ret_e hm
    exact zx_iret C rfl rfl rfl dL_create_15
  · refine zx_catchV (σ := σ) (x9 := { startPc := 0, endPc := 8, handlerPc := 11, catchType := 13 }) C (tableOf []) (tableOf []) htab (by decide) (by decide) (by decide) (E := "java/lang/IllegalStateException") W_3_103 W_3_118 [] tC_10 k1 i2 Y_X10_create W_3_104 W_3_105 W_3_106 (c_X10_create h5) (by decide) (by decide) rfl (Nat.le_of_ble_eq_true rfl) dL_create_3 rfl (fun q10 => ?_)
    refine zx_astore_n C [(2, .ref (q10)), (0, .ref (p0)), (1, .ref (p1))] dL_create_11 rfl (by decide) rfl ?_
    refine zx_iconst (v := 1) C dL_create_12 (by decide) ?_
    obtain ⟨rfl, rfl⟩ := ret_e hm
    exact zx_iret C rfl rfl rfl dL_create_13
abbrev cL_mkdir : ByteArray := method_4_code
def yL_mkdir : MethodName := ⟨"SyncTreeLaw", "mkdir", "(LSyncTree;[J)I"⟩
theorem Y_L_mkdir : tYH yL_mkdir cL_mkdir 3 (some .int) [(0, 8, 11, 13)] 2 := ⟨W_4_231, W_1_0, ⟨by decide +kernel, by decide +kernel⟩, by decide +kernel⟩
theorem dL_mkdir_0 : decode cL_mkdir 0 = .ok (.aload_n 1, 1) := by decide +kernel
theorem dL_mkdir_1 : decode cL_mkdir 1 = .ok (.iconst 0, 1) := by decide +kernel
theorem dL_mkdir_2 : decode cL_mkdir 2 = .ok (.aload_n 0, 1) := by decide +kernel
theorem dL_mkdir_3 : decode cL_mkdir 3 = .ok (.invokevirtual 15, 3) := by decide +kernel
theorem dL_mkdir_6 : decode cL_mkdir 6 = .ok (.i2l, 1) := by decide +kernel
theorem dL_mkdir_7 : decode cL_mkdir 7 = .ok (.lastore, 1) := by decide +kernel
theorem dL_mkdir_8 : decode cL_mkdir 8 = .ok (.goto 6, 3) := by decide +kernel
theorem dL_mkdir_11 : decode cL_mkdir 11 = .ok (.astore_n 2, 1) := by decide +kernel
theorem dL_mkdir_12 : decode cL_mkdir 12 = .ok (.iconst 1, 1) := by decide +kernel
theorem dL_mkdir_13 : decode cL_mkdir 13 = .ok (.ireturn, 1) := by decide +kernel
theorem dL_mkdir_14 : decode cL_mkdir 14 = .ok (.iconst 0, 1) := by decide +kernel
theorem dL_mkdir_15 : decode cL_mkdir 15 = .ok (.ireturn, 1) := by decide +kernel
set_option maxRecDepth 100000 in
set_option maxHeartbeats 1000000 in
theorem c_L_mkdir {l : Launch} {D : va_G} {aC : Nat → ClassId} {b0 fu : Nat} {p0 : Nat} {p1 : Nat} {σ τ : tM} {v : Int32} (hm : m_L_mkdir b0 fu p0 p1 σ = some (v, τ)) : tMt l D aC b0 yL_mkdir (Cond.codeWith yL_mkdir cL_mkdir 3 (some .int) [(0, 8, 11, 13)]) 13 239 [.ref (p0), .ref (p1)] σ (.inl (some (.int v))) τ := by
  unfold m_L_mkdir at hm
  obtain ⟨hg, hm⟩ := grw_e hm
  refine tMt_ofH rfl (Nat.le_of_ble_eq_true rfl) hg ?_
  intro p e s m below meth c C htab hin
  refine zx_lv [0, 1] [(0, .ref (p0)), (1, .ref (p1))] rfl ?_
  refine zx_aload_n C dL_mkdir_0 1 rfl ?_
  refine zx_iconst (v := 0) C dL_mkdir_1 (by decide) ?_
  refine zx_aload_n C dL_mkdir_2 0 rfl ?_
  obtain ⟨k1, i2, hm⟩ := ckO_e hm
  rcases cly_e hm with ⟨v3, ρ4, h5, hm⟩ | ⟨ρ11, h5, hm⟩
  · refine zx_callV (σ := σ) C [] tC_10 k1 i2 Y_X10_mkdir W_4_232 W_4_233 W_4_234 (c_X10_mkdir h5) (by decide) (by decide) rfl (Nat.le_of_ble_eq_true rfl) dL_mkdir_3 rfl ?_
    refine zx_i2l C dL_mkdir_6 ?_
    obtain ⟨n8, k6, i7, hm⟩ := ckR_e hm
    obtain ⟨h9, hm⟩ := ckI_e hm
    refine zx_last C k6 i7 h9 dL_mkdir_7 ?_
    refine zx_goto C 14 dL_mkdir_8 (by decide) ?_
    refine zx_iconst (v := 0) C dL_mkdir_14 (by decide) ?_
    obtain ⟨rfl, rfl⟩ := ret_e hm
    exact zx_iret C rfl rfl rfl dL_mkdir_15
  · refine zx_catchV (σ := σ) (x9 := { startPc := 0, endPc := 8, handlerPc := 11, catchType := 13 }) C (tableOf []) (tableOf []) htab (by decide) (by decide) (by decide) (E := "java/lang/IllegalStateException") W_3_103 W_3_118 [] tC_10 k1 i2 Y_X10_mkdir W_4_232 W_4_233 W_4_234 (c_X10_mkdir h5) (by decide) (by decide) rfl (Nat.le_of_ble_eq_true rfl) dL_mkdir_3 rfl (fun q10 => ?_)
    refine zx_astore_n C [(2, .ref (q10)), (0, .ref (p0)), (1, .ref (p1))] dL_mkdir_11 rfl (by decide) rfl ?_
    refine zx_iconst (v := 1) C dL_mkdir_12 (by decide) ?_
    obtain ⟨rfl, rfl⟩ := ret_e hm
    exact zx_iret C rfl rfl rfl dL_mkdir_13
abbrev cL_symlink : ByteArray := method_5_code
def yL_symlink : MethodName := ⟨"SyncTreeLaw", "symlink", "(LSyncTree;[J)I"⟩
theorem Y_L_symlink : tYH yL_symlink cL_symlink 3 (some .int) [(0, 8, 11, 13)] 2 := ⟨W_4_238, W_1_0, ⟨by decide +kernel, by decide +kernel⟩, by decide +kernel⟩
theorem dL_symlink_0 : decode cL_symlink 0 = .ok (.aload_n 1, 1) := by decide +kernel
theorem dL_symlink_1 : decode cL_symlink 1 = .ok (.iconst 0, 1) := by decide +kernel
theorem dL_symlink_2 : decode cL_symlink 2 = .ok (.aload_n 0, 1) := by decide +kernel
theorem dL_symlink_3 : decode cL_symlink 3 = .ok (.invokevirtual 18, 3) := by decide +kernel
theorem dL_symlink_6 : decode cL_symlink 6 = .ok (.i2l, 1) := by decide +kernel
theorem dL_symlink_7 : decode cL_symlink 7 = .ok (.lastore, 1) := by decide +kernel
theorem dL_symlink_8 : decode cL_symlink 8 = .ok (.goto 6, 3) := by decide +kernel
theorem dL_symlink_11 : decode cL_symlink 11 = .ok (.astore_n 2, 1) := by decide +kernel
theorem dL_symlink_12 : decode cL_symlink 12 = .ok (.iconst 1, 1) := by decide +kernel
theorem dL_symlink_13 : decode cL_symlink 13 = .ok (.ireturn, 1) := by decide +kernel
theorem dL_symlink_14 : decode cL_symlink 14 = .ok (.iconst 0, 1) := by decide +kernel
theorem dL_symlink_15 : decode cL_symlink 15 = .ok (.ireturn, 1) := by decide +kernel
set_option maxRecDepth 100000 in
set_option maxHeartbeats 1000000 in
theorem c_L_symlink {l : Launch} {D : va_G} {aC : Nat → ClassId} {b0 fu : Nat} {p0 : Nat} {p1 : Nat} {σ τ : tM} {v : Int32} (hm : m_L_symlink b0 fu p0 p1 σ = some (v, τ)) : tMt l D aC b0 yL_symlink (Cond.codeWith yL_symlink cL_symlink 3 (some .int) [(0, 8, 11, 13)]) 13 239 [.ref (p0), .ref (p1)] σ (.inl (some (.int v))) τ := by
  unfold m_L_symlink at hm
  obtain ⟨hg, hm⟩ := grw_e hm
  refine tMt_ofH rfl (Nat.le_of_ble_eq_true rfl) hg ?_
  intro p e s m below meth c C htab hin
  refine zx_lv [0, 1] [(0, .ref (p0)), (1, .ref (p1))] rfl ?_
  refine zx_aload_n C dL_symlink_0 1 rfl ?_
  refine zx_iconst (v := 0) C dL_symlink_1 (by decide) ?_
  refine zx_aload_n C dL_symlink_2 0 rfl ?_
  obtain ⟨k1, i2, hm⟩ := ckO_e hm
  rcases cly_e hm with ⟨v3, ρ4, h5, hm⟩ | ⟨ρ11, h5, hm⟩
  · refine zx_callV (σ := σ) C [] tC_10 k1 i2 Y_X10_symlink W_4_239 W_5_0 W_5_1 (c_X10_symlink h5) (by decide) (by decide) rfl (Nat.le_of_ble_eq_true rfl) dL_symlink_3 rfl ?_
    refine zx_i2l C dL_symlink_6 ?_
    obtain ⟨n8, k6, i7, hm⟩ := ckR_e hm
    obtain ⟨h9, hm⟩ := ckI_e hm
    refine zx_last C k6 i7 h9 dL_symlink_7 ?_
    refine zx_goto C 14 dL_symlink_8 (by decide) ?_
    refine zx_iconst (v := 0) C dL_symlink_14 (by decide) ?_
    obtain ⟨rfl, rfl⟩ := ret_e hm
    exact zx_iret C rfl rfl rfl dL_symlink_15
  · refine zx_catchV (σ := σ) (x9 := { startPc := 0, endPc := 8, handlerPc := 11, catchType := 13 }) C (tableOf []) (tableOf []) htab (by decide) (by decide) (by decide) (E := "java/lang/IllegalStateException") W_3_103 W_3_118 [] tC_10 k1 i2 Y_X10_symlink W_4_239 W_5_0 W_5_1 (c_X10_symlink h5) (by decide) (by decide) rfl (Nat.le_of_ble_eq_true rfl) dL_symlink_3 rfl (fun q10 => ?_)
    refine zx_astore_n C [(2, .ref (q10)), (0, .ref (p0)), (1, .ref (p1))] dL_symlink_11 rfl (by decide) rfl ?_
    refine zx_iconst (v := 1) C dL_symlink_12 (by decide) ?_
    obtain ⟨rfl, rfl⟩ := ret_e hm
    exact zx_iret C rfl rfl rfl dL_symlink_13
abbrev cL_link : ByteArray := method_6_code
def yL_link : MethodName := ⟨"SyncTreeLaw", "link", "(LSyncTree;[J)I"⟩
theorem Y_L_link : tYH yL_link cL_link 3 (some .int) [(0, 8, 11, 13)] 2 := ⟨W_5_5, W_1_0, ⟨by decide +kernel, by decide +kernel⟩, by decide +kernel⟩
theorem dL_link_0 : decode cL_link 0 = .ok (.aload_n 1, 1) := by decide +kernel
theorem dL_link_1 : decode cL_link 1 = .ok (.iconst 0, 1) := by decide +kernel
theorem dL_link_2 : decode cL_link 2 = .ok (.aload_n 0, 1) := by decide +kernel
theorem dL_link_3 : decode cL_link 3 = .ok (.invokevirtual 21, 3) := by decide +kernel
theorem dL_link_6 : decode cL_link 6 = .ok (.i2l, 1) := by decide +kernel
theorem dL_link_7 : decode cL_link 7 = .ok (.lastore, 1) := by decide +kernel
theorem dL_link_8 : decode cL_link 8 = .ok (.goto 6, 3) := by decide +kernel
theorem dL_link_11 : decode cL_link 11 = .ok (.astore_n 2, 1) := by decide +kernel
theorem dL_link_12 : decode cL_link 12 = .ok (.iconst 1, 1) := by decide +kernel
theorem dL_link_13 : decode cL_link 13 = .ok (.ireturn, 1) := by decide +kernel
theorem dL_link_14 : decode cL_link 14 = .ok (.iconst 0, 1) := by decide +kernel
theorem dL_link_15 : decode cL_link 15 = .ok (.ireturn, 1) := by decide +kernel
set_option maxRecDepth 100000 in
set_option maxHeartbeats 1000000 in
theorem c_L_link {l : Launch} {D : va_G} {aC : Nat → ClassId} {b0 fu : Nat} {p0 : Nat} {p1 : Nat} {σ τ : tM} {v : Int32} (hm : m_L_link b0 fu p0 p1 σ = some (v, τ)) : tMt l D aC b0 yL_link (Cond.codeWith yL_link cL_link 3 (some .int) [(0, 8, 11, 13)]) 13 242 [.ref (p0), .ref (p1)] σ (.inl (some (.int v))) τ := by
  unfold m_L_link at hm
  obtain ⟨hg, hm⟩ := grw_e hm
  refine tMt_ofH rfl (Nat.le_of_ble_eq_true rfl) hg ?_
  intro p e s m below meth c C htab hin
  refine zx_lv [0, 1] [(0, .ref (p0)), (1, .ref (p1))] rfl ?_
  refine zx_aload_n C dL_link_0 1 rfl ?_
  refine zx_iconst (v := 0) C dL_link_1 (by decide) ?_
  refine zx_aload_n C dL_link_2 0 rfl ?_
  obtain ⟨k1, i2, hm⟩ := ckO_e hm
  rcases cly_e hm with ⟨v3, ρ4, h5, hm⟩ | ⟨ρ11, h5, hm⟩
  · refine zx_callV (σ := σ) C [] tC_10 k1 i2 Y_X10_link W_5_6 W_5_7 W_5_8 (c_X10_link h5) (by decide) (by decide) rfl (Nat.le_of_ble_eq_true rfl) dL_link_3 rfl ?_
    refine zx_i2l C dL_link_6 ?_
    obtain ⟨n8, k6, i7, hm⟩ := ckR_e hm
    obtain ⟨h9, hm⟩ := ckI_e hm
    refine zx_last C k6 i7 h9 dL_link_7 ?_
    refine zx_goto C 14 dL_link_8 (by decide) ?_
    refine zx_iconst (v := 0) C dL_link_14 (by decide) ?_
    obtain ⟨rfl, rfl⟩ := ret_e hm
    exact zx_iret C rfl rfl rfl dL_link_15
  · refine zx_catchV (σ := σ) (x9 := { startPc := 0, endPc := 8, handlerPc := 11, catchType := 13 }) C (tableOf []) (tableOf []) htab (by decide) (by decide) (by decide) (E := "java/lang/IllegalStateException") W_3_103 W_3_118 [] tC_10 k1 i2 Y_X10_link W_5_6 W_5_7 W_5_8 (c_X10_link h5) (by decide) (by decide) rfl (Nat.le_of_ble_eq_true rfl) dL_link_3 rfl (fun q10 => ?_)
    refine zx_astore_n C [(2, .ref (q10)), (0, .ref (p0)), (1, .ref (p1))] dL_link_11 rfl (by decide) rfl ?_
    refine zx_iconst (v := 1) C dL_link_12 (by decide) ?_
    obtain ⟨rfl, rfl⟩ := ret_e hm
    exact zx_iret C rfl rfl rfl dL_link_13
