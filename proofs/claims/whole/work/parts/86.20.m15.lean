abbrev cX10_writeBack : ByteArray := prog_1_method_39_code
def yX10_writeBack : MethodName := ⟨"SyncTree", "writeBack", "(I)I"⟩
theorem Y_X10_writeBack : tY yX10_writeBack cX10_writeBack 2 (some .int) 1 := ⟨W_6_93, W_1_1, ⟨by decide +kernel, by decide +kernel⟩, by decide +kernel⟩
theorem dX10_writeBack_0 : decode cX10_writeBack 0 = .ok (.aload_n 0, 1) := by decide +kernel
theorem dX10_writeBack_1 : decode cX10_writeBack 1 = .ok (.getfield 12, 3) := by decide +kernel
theorem dX10_writeBack_4 : decode cX10_writeBack 4 = .ok (.invokevirtual 221, 3) := by decide +kernel
theorem dX10_writeBack_7 : decode cX10_writeBack 7 = .ok (.iload_n 1, 1) := by decide +kernel
theorem dX10_writeBack_8 : decode cX10_writeBack 8 = .ok (.ifCond .ge 8, 3) := by decide +kernel
theorem dX10_writeBack_11 : decode cX10_writeBack 11 = .ok (.bipush (-9), 2) := by decide +kernel
theorem dX10_writeBack_13 : decode cX10_writeBack 13 = .ok (.goto 9, 3) := by decide +kernel
theorem dX10_writeBack_16 : decode cX10_writeBack 16 = .ok (.aload_n 0, 1) := by decide +kernel
theorem dX10_writeBack_17 : decode cX10_writeBack 17 = .ok (.iconst (-1), 1) := by decide +kernel
theorem dX10_writeBack_18 : decode cX10_writeBack 18 = .ok (.iload_n 1, 1) := by decide +kernel
theorem dX10_writeBack_19 : decode cX10_writeBack 19 = .ok (.invokevirtual 299, 3) := by decide +kernel
theorem dX10_writeBack_22 : decode cX10_writeBack 22 = .ok (.ireturn, 1) := by decide +kernel
set_option maxRecDepth 100000 in
set_option maxHeartbeats 1000000 in
theorem j_X10_writeBack_22 {p : Program} {l : Launch} {e : Env} {s : State} {m : MethodId} {args : Array Value} {below : List Frame} {meth : Method} {c : Code} {D : va_G} {aC : Nat → ClassId} {b0 fu : Nat} {σ0 τ : tM} {v : (Int32) ⊕ Unit}  (C : tCx p l s m args meth c yX10_writeBack.cls cX10_writeBack 2 (some .int) D aC b0 σ0) (htab : ∀ x ∈ c.exceptionTable.toList, False) (hin : meth.name = yX10_writeBack.name)  {s0 : Int32} {σ : tM} (hm : J_X10_writeBack_22 b0 fu  s0 σ = some (v, τ)) : tX p l e s m args below meth c 2 9 157 D aC b0 σ0 (rxI "java/lang/IllegalStateException" v) τ 22 [] [.int (s0)] σ := by
  unfold J_X10_writeBack_22 at hm
  obtain ⟨rfl, rfl⟩ := ret_e hm
  exact zx_iret C rfl rfl rfl dX10_writeBack_22
set_option maxRecDepth 100000 in
set_option maxHeartbeats 1000000 in
theorem c_X10_writeBack {l : Launch} {D : va_G} {aC : Nat → ClassId} {b0 fu : Nat} {a0 : Nat} {p0 : Int32} {σ τ : tM} {v : (Int32) ⊕ Unit} (hm : m_X10_writeBack b0 fu a0 p0 σ = some (v, τ)) : tMt l D aC b0 yX10_writeBack (Cond.code yX10_writeBack cX10_writeBack 2 (some .int)) 9 157 [.ref (a0), .int (p0)] σ (rxI "java/lang/IllegalStateException" v) τ := by
  unfold m_X10_writeBack at hm
  obtain ⟨hg, hm⟩ := grw_e hm
  refine tMt_of (n := 0) rfl (Nat.le_of_ble_eq_true rfl) hg ?_
  intro p e s m below meth c C htab hin
  refine zx_lv [0, 1] [(0, .ref (a0)), (1, .int (p0))] rfl ?_
  refine zx_aload_n C dX10_writeBack_0 0 rfl ?_
  obtain ⟨k1, i2, hm⟩ := ckO_e hm
  obtain ⟨a3, h4, hm⟩ := osm_e hm
  refine zx_get (j := 0) C tC_10 k1 i2 ⟨by decide, Or.inl W_2_213⟩ dX10_writeBack_1 (.ref a3) (rf_s h4) ?_
  obtain ⟨k5, i6, hm⟩ := ckO_e hm
  rcases clx_e hm with ⟨v7, ρ8, h9, hm⟩ | ⟨ρ8, h9, hm⟩
  · refine zx_callV (σ := σ) C [] tC_0 k5 i6 Y_X0_demandPower W_5_130 W_3_113 W_3_114 (c_X0_demandPower h9) (by decide) (by decide) rfl (Nat.le_of_ble_eq_true rfl) dX10_writeBack_4 rfl ?_
    refine zx_iload_n C dX10_writeBack_7 1 rfl ?_
    refine zx_if_ge C 16 dX10_writeBack_8 (by decide) (fun c10 => ?_) (fun c10 => ?_)
    · replace hm := ip_e hm c10
      refine zx_aload_n C dX10_writeBack_16 0 rfl ?_
      refine zx_iconst (v := (-1)) C dX10_writeBack_17 (by decide) ?_
      refine zx_iload_n C dX10_writeBack_18 1 rfl ?_
      obtain ⟨k11, i12, hm⟩ := ckO_e hm
      rcases clx_e hm with ⟨v13, ρ14, h15, hm⟩ | ⟨ρ14, h15, hm⟩
      · refine zx_callV (σ := ρ8) C [.int ((-1)), .int (p0)] tC_10 k11 i12 Y_X10_writeDirty W_6_36 W_6_38 Wp_45 (c_X10_writeDirty h15) (by decide) (by decide) rfl (Nat.le_of_ble_eq_true rfl) dX10_writeBack_19 rfl ?_
        exact zx_lv [] [] rfl (j_X10_writeBack_22 C htab hin    hm)
      · cases hm
        exact zx_outV (σ := ρ8) C htab [.int ((-1)), .int (p0)] tC_10 k11 i12 Y_X10_writeDirty W_6_36 W_6_38 Wp_45 (c_X10_writeDirty h15) rfl (by decide) (by decide) rfl (Nat.le_of_ble_eq_true rfl) dX10_writeBack_19 rfl
    · replace hm := in_e hm c10
      refine zx_bipush (v := (-9)) C dX10_writeBack_11 (by decide) ?_
      refine zx_goto C 22 dX10_writeBack_13 (by decide) ?_
      exact zx_lv [] [] rfl (j_X10_writeBack_22 C htab hin    hm)
  · cases hm
    exact zx_outV (σ := σ) C htab [] tC_0 k5 i6 Y_X0_demandPower W_5_130 W_3_113 W_3_114 (c_X0_demandPower h9) rfl (by decide) (by decide) rfl (Nat.le_of_ble_eq_true rfl) dX10_writeBack_4 rfl
abbrev cX10_apply : ByteArray := prog_1_method_40_code
def yX10_apply : MethodName := ⟨"SyncTree", "apply", "(I)I"⟩
theorem Y_X10_apply : tY yX10_apply cX10_apply 2 (some .int) 1 := ⟨W_6_100, W_1_1, ⟨by decide +kernel, by decide +kernel⟩, by decide +kernel⟩
theorem dX10_apply_0 : decode cX10_apply 0 = .ok (.aload_n 0, 1) := by decide +kernel
theorem dX10_apply_1 : decode cX10_apply 1 = .ok (.getfield 12, 3) := by decide +kernel
theorem dX10_apply_4 : decode cX10_apply 4 = .ok (.invokevirtual 221, 3) := by decide +kernel
theorem dX10_apply_7 : decode cX10_apply 7 = .ok (.iload_n 1, 1) := by decide +kernel
theorem dX10_apply_8 : decode cX10_apply 8 = .ok (.ifCond .ge 8, 3) := by decide +kernel
theorem dX10_apply_11 : decode cX10_apply 11 = .ok (.bipush (-9), 2) := by decide +kernel
theorem dX10_apply_13 : decode cX10_apply 13 = .ok (.goto 11, 3) := by decide +kernel
theorem dX10_apply_16 : decode cX10_apply 16 = .ok (.aload_n 0, 1) := by decide +kernel
theorem dX10_apply_17 : decode cX10_apply 17 = .ok (.getfield 37, 3) := by decide +kernel
theorem dX10_apply_20 : decode cX10_apply 20 = .ok (.iload_n 1, 1) := by decide +kernel
theorem dX10_apply_21 : decode cX10_apply 21 = .ok (.invokevirtual 340, 3) := by decide +kernel
theorem dX10_apply_24 : decode cX10_apply 24 = .ok (.ireturn, 1) := by decide +kernel
set_option maxRecDepth 100000 in
set_option maxHeartbeats 1000000 in
theorem j_X10_apply_24 {p : Program} {l : Launch} {e : Env} {s : State} {m : MethodId} {args : Array Value} {below : List Frame} {meth : Method} {c : Code} {D : va_G} {aC : Nat → ClassId} {b0 fu : Nat} {σ0 τ : tM} {v : (Int32) ⊕ Unit}  (C : tCx p l s m args meth c yX10_apply.cls cX10_apply 2 (some .int) D aC b0 σ0) (htab : ∀ x ∈ c.exceptionTable.toList, False) (hin : meth.name = yX10_apply.name)  {s0 : Int32} {σ : tM} (hm : J_X10_apply_24 b0 fu  s0 σ = some (v, τ)) : tX p l e s m args below meth c 2 9 157 D aC b0 σ0 (rxI "java/lang/IllegalStateException" v) τ 24 [] [.int (s0)] σ := by
  unfold J_X10_apply_24 at hm
  obtain ⟨rfl, rfl⟩ := ret_e hm
  exact zx_iret C rfl rfl rfl dX10_apply_24
set_option maxRecDepth 100000 in
set_option maxHeartbeats 1000000 in
theorem c_X10_apply {l : Launch} {D : va_G} {aC : Nat → ClassId} {b0 fu : Nat} {a0 : Nat} {p0 : Int32} {σ τ : tM} {v : (Int32) ⊕ Unit} (hm : m_X10_apply b0 fu a0 p0 σ = some (v, τ)) : tMt l D aC b0 yX10_apply (Cond.code yX10_apply cX10_apply 2 (some .int)) 9 157 [.ref (a0), .int (p0)] σ (rxI "java/lang/IllegalStateException" v) τ := by
  unfold m_X10_apply at hm
  obtain ⟨hg, hm⟩ := grw_e hm
  refine tMt_of (n := 0) rfl (Nat.le_of_ble_eq_true rfl) hg ?_
  intro p e s m below meth c C htab hin
  refine zx_lv [0, 1] [(0, .ref (a0)), (1, .int (p0))] rfl ?_
  refine zx_aload_n C dX10_apply_0 0 rfl ?_
  obtain ⟨k1, i2, hm⟩ := ckO_e hm
  obtain ⟨a3, h4, hm⟩ := osm_e hm
  refine zx_get (j := 0) C tC_10 k1 i2 ⟨by decide, Or.inl W_2_213⟩ dX10_apply_1 (.ref a3) (rf_s h4) ?_
  obtain ⟨k5, i6, hm⟩ := ckO_e hm
  rcases clx_e hm with ⟨v7, ρ8, h9, hm⟩ | ⟨ρ8, h9, hm⟩
  · refine zx_callV (σ := σ) C [] tC_0 k5 i6 Y_X0_demandPower W_5_130 W_3_113 W_3_114 (c_X0_demandPower h9) (by decide) (by decide) rfl (Nat.le_of_ble_eq_true rfl) dX10_apply_4 rfl ?_
    refine zx_iload_n C dX10_apply_7 1 rfl ?_
    refine zx_if_ge C 16 dX10_apply_8 (by decide) (fun c10 => ?_) (fun c10 => ?_)
    · replace hm := ip_e hm c10
      refine zx_aload_n C dX10_apply_16 0 rfl ?_
      obtain ⟨k11, i12, hm⟩ := ckO_e hm
      obtain ⟨a13, h14, hm⟩ := osm_e hm
      refine zx_get (j := 3) C tC_10 k11 i12 ⟨by decide, Or.inl W_2_216⟩ dX10_apply_17 (.ref a13) (rf_s h14) ?_
      refine zx_iload_n C dX10_apply_20 1 rfl ?_
      obtain ⟨k15, i16, hm⟩ := ckO_e hm
      rcases clx_e hm with ⟨v17, ρ18, h19, hm⟩ | ⟨ρ18, h19, hm⟩
      · refine zx_callV (σ := ρ8) C [.int (p0)] tC_1 k15 i16 Y_X1_applySome W_6_101 W_3_234 W_3_235 (c_X1_applySome h19) (by decide) (by decide) rfl (Nat.le_of_ble_eq_true rfl) dX10_apply_21 rfl ?_
        exact zx_lv [] [] rfl (j_X10_apply_24 C htab hin    hm)
      · cases hm
        exact zx_outV (σ := ρ8) C htab [.int (p0)] tC_1 k15 i16 Y_X1_applySome W_6_101 W_3_234 W_3_235 (c_X1_applySome h19) rfl (by decide) (by decide) rfl (Nat.le_of_ble_eq_true rfl) dX10_apply_21 rfl
    · replace hm := in_e hm c10
      refine zx_bipush (v := (-9)) C dX10_apply_11 (by decide) ?_
      refine zx_goto C 24 dX10_apply_13 (by decide) ?_
      exact zx_lv [] [] rfl (j_X10_apply_24 C htab hin    hm)
  · cases hm
    exact zx_outV (σ := σ) C htab [] tC_0 k5 i6 Y_X0_demandPower W_5_130 W_3_113 W_3_114 (c_X0_demandPower h9) rfl (by decide) (by decide) rfl (Nat.le_of_ble_eq_true rfl) dX10_apply_4 rfl
abbrev cX1_reset : ByteArray := prog_3_method_3_code
def yX1_reset : MethodName := ⟨"SyncTree$Journal", "reset", "(I)V"⟩
theorem Y_X1_reset : tY yX1_reset cX1_reset 3 none 1 := ⟨W_2_167, W_1_5, ⟨by decide +kernel, by decide +kernel⟩, by decide +kernel⟩
theorem dX1_reset_0 : decode cX1_reset 0 = .ok (.aload_n 0, 1) := by decide +kernel
theorem dX1_reset_1 : decode cX1_reset 1 = .ok (.iload_n 1, 1) := by decide +kernel
theorem dX1_reset_2 : decode cX1_reset 2 = .ok (.putfield 46, 3) := by decide +kernel
theorem dX1_reset_5 : decode cX1_reset 5 = .ok (.aload_n 0, 1) := by decide +kernel
theorem dX1_reset_6 : decode cX1_reset 6 = .ok (.iconst 0, 1) := by decide +kernel
theorem dX1_reset_7 : decode cX1_reset 7 = .ok (.putfield 49, 3) := by decide +kernel
theorem dX1_reset_10 : decode cX1_reset 10 = .ok (.aload_n 0, 1) := by decide +kernel
theorem dX1_reset_11 : decode cX1_reset 11 = .ok (.iconst 0, 1) := by decide +kernel
theorem dX1_reset_12 : decode cX1_reset 12 = .ok (.putfield 52, 3) := by decide +kernel
theorem dX1_reset_15 : decode cX1_reset 15 = .ok (.aload_n 0, 1) := by decide +kernel
theorem dX1_reset_16 : decode cX1_reset 16 = .ok (.iconst 0, 1) := by decide +kernel
theorem dX1_reset_17 : decode cX1_reset 17 = .ok (.invokevirtual 55, 3) := by decide +kernel
theorem dX1_reset_20 : decode cX1_reset 20 = .ok (.aload_n 0, 1) := by decide +kernel
theorem dX1_reset_21 : decode cX1_reset 21 = .ok (.invokevirtual 59, 3) := by decide +kernel
theorem dX1_reset_24 : decode cX1_reset 24 = .ok (.astore_n 2, 1) := by decide +kernel
theorem dX1_reset_25 : decode cX1_reset 25 = .ok (.aload_n 0, 1) := by decide +kernel
theorem dX1_reset_26 : decode cX1_reset 26 = .ok (.getfield 25, 3) := by decide +kernel
theorem dX1_reset_29 : decode cX1_reset 29 = .ok (.iconst 2, 1) := by decide +kernel
theorem dX1_reset_30 : decode cX1_reset 30 = .ok (.aload_n 2, 1) := by decide +kernel
theorem dX1_reset_31 : decode cX1_reset 31 = .ok (.invokevirtual 63, 3) := by decide +kernel
theorem dX1_reset_34 : decode cX1_reset 34 = .ok (.aload_n 0, 1) := by decide +kernel
theorem dX1_reset_35 : decode cX1_reset 35 = .ok (.iconst 2, 1) := by decide +kernel
theorem dX1_reset_36 : decode cX1_reset 36 = .ok (.aload_n 2, 1) := by decide +kernel
theorem dX1_reset_37 : decode cX1_reset 37 = .ok (.invokevirtual 42, 3) := by decide +kernel
theorem dX1_reset_40 : decode cX1_reset 40 = .ok (.return_, 1) := by decide +kernel
set_option maxRecDepth 100000 in
set_option maxHeartbeats 1000000 in
theorem c_X1_reset {l : Launch} {D : va_G} {aC : Nat → ClassId} {b0 fu : Nat} {a0 : Nat} {p0 : Int32} {σ τ : tM} {v : Unit} (hm : m_X1_reset b0 fu a0 p0 σ = some (v, τ)) : tMt l D aC b0 yX1_reset (Cond.code yX1_reset cX1_reset 3 none) 3 64 [.ref (a0), .int (p0)] σ (.inl none) τ := by
  unfold m_X1_reset at hm
  obtain ⟨hg, hm⟩ := grw_e hm
  refine tMt_of (n := 0) rfl (Nat.le_of_ble_eq_true rfl) hg ?_
  intro p e s m below meth c C htab hin
  refine zx_lv [0, 1] [(0, .ref (a0)), (1, .int (p0))] rfl ?_
  refine zx_aload_n C dX1_reset_0 0 rfl ?_
  refine zx_iload_n C dX1_reset_1 1 rfl ?_
  obtain ⟨k1, i2, hm⟩ := ckO_e hm
  refine zx_put (j := 8) (ρ := sI (σ) (a0) 8 (p0)) C tC_1 k1 i2 ⟨by decide, Or.inl W_1_188⟩ rfl rfl rfl (sI_ok (fun _ => rfl)) dX1_reset_2 ?_
  refine zx_aload_n C dX1_reset_5 0 rfl ?_
  refine zx_iconst (v := 0) C dX1_reset_6 (by decide) ?_
  refine zx_put (j := 11) (ρ := sI (sI (σ) (a0) 8 (p0)) (a0) 11 (0)) C tC_1 k1 i2 ⟨by decide, Or.inl W_1_191⟩ rfl rfl rfl (sI_ok (fun _ => rfl)) dX1_reset_7 ?_
  refine zx_aload_n C dX1_reset_10 0 rfl ?_
  refine zx_iconst (v := 0) C dX1_reset_11 (by decide) ?_
  refine zx_put (j := 17) (ρ := sI (sI (sI (σ) (a0) 8 (p0)) (a0) 11 (0)) (a0) 17 (0)) C tC_1 k1 i2 ⟨by decide, Or.inl W_1_197⟩ rfl rfl rfl (sI_ok (fun _ => rfl)) dX1_reset_12 ?_
  refine zx_aload_n C dX1_reset_15 0 rfl ?_
  refine zx_iconst (v := 0) C dX1_reset_16 (by decide) ?_
  obtain ⟨v3, ρ4, h5, hm⟩ := cll_e hm
  refine zx_callV (σ := sI (sI (sI (σ) (a0) 8 (p0)) (a0) 11 (0)) (a0) 17 (0)) C [.int (0)] tC_1 k1 i2 Y_X1_restart W_2_168 W_2_170 Wp_8 (c_X1_restart h5) (by decide) (by decide) rfl (Nat.le_of_ble_eq_true rfl) dX1_reset_17 rfl ?_
  refine zx_aload_n C dX1_reset_20 0 rfl ?_
  obtain ⟨k6, i7, hm⟩ := ckO_e hm
  obtain ⟨v8, ρ9, h10, hm⟩ := cll_e hm
  rcases omt_e hm with ⟨a11, h12, hm⟩ | ⟨h12, hm⟩
  · subst h12
    refine zx_callV (σ := ρ4) C [] tC_1 k6 i7 Y_X1_takeRow W_2_180 W_2_182 Wp_9 (c_X1_takeRow h10) (by decide) (by decide) rfl (Nat.le_of_ble_eq_true rfl) dX1_reset_21 rfl ?_
    refine zx_astore_n C [(2, .ref (a11)), (0, .ref (a0)), (1, .int (p0))] dX1_reset_24 rfl (by decide) rfl ?_
    refine zx_aload_n C dX1_reset_25 1 rfl ?_
    obtain ⟨k13, i14, hm⟩ := ckO_e hm
    obtain ⟨a15, h16, hm⟩ := osm_e hm
    refine zx_get (j := 1) C tC_1 k13 i14 ⟨by decide, Or.inl W_1_181⟩ dX1_reset_26 (.ref a15) (rf_s h16) ?_
    refine zx_iconst (v := 2) C dX1_reset_29 (by decide) ?_
    refine zx_aload_n C dX1_reset_30 0 rfl ?_
    obtain ⟨k17, i18, hm⟩ := ckO_e hm
    obtain ⟨v19, ρ20, h21, hm⟩ := cll_e hm
    refine zx_callV (σ := ρ9) C [.int (2), va_rf (some (a11))] tC_5 k17 i18 Y_X5_save W_2_198 W_2_199 W_2_200 (c_X5_save h21) (by decide) (by decide) rfl (Nat.le_of_ble_eq_true rfl) dX1_reset_31 rfl ?_
    refine zx_aload_n C dX1_reset_34 1 rfl ?_
    refine zx_iconst (v := 2) C dX1_reset_35 (by decide) ?_
    refine zx_aload_n C dX1_reset_36 0 rfl ?_
    obtain ⟨k22, i23, hm⟩ := ckO_e hm
    obtain ⟨v24, ρ25, h26, hm⟩ := cll_e hm
    refine zx_callV (σ := ρ20) C [.int (2), va_rf (some (a11))] tC_1 k22 i23 Y_X1_setBase W_2_97 W_2_99 Wp_3 (c_X1_setBase h26) (by decide) (by decide) rfl (Nat.le_of_ble_eq_true rfl) dX1_reset_37 rfl ?_
    obtain ⟨rfl, rfl⟩ := ret_e hm
    exact zx_vret C rfl rfl rfl dX1_reset_40
  · subst h12
    refine zx_callV (σ := ρ4) C [] tC_1 k6 i7 Y_X1_takeRow W_2_180 W_2_182 Wp_9 (c_X1_takeRow h10) (by decide) (by decide) rfl (Nat.le_of_ble_eq_true rfl) dX1_reset_21 rfl ?_
    refine zx_astore_nN C [(2, .null), (0, .ref (a0)), (1, .int (p0))] dX1_reset_24 rfl (by decide) rfl ?_
    refine zx_aload_n C dX1_reset_25 1 rfl ?_
    obtain ⟨k27, i28, hm⟩ := ckO_e hm
    obtain ⟨a29, h30, hm⟩ := osm_e hm
    refine zx_get (j := 1) C tC_1 k27 i28 ⟨by decide, Or.inl W_1_181⟩ dX1_reset_26 (.ref a29) (rf_s h30) ?_
    refine zx_iconst (v := 2) C dX1_reset_29 (by decide) ?_
    refine zx_aload_nN C dX1_reset_30 0 rfl ?_
    obtain ⟨k31, i32, hm⟩ := ckO_e hm
    obtain ⟨v33, ρ34, h35, hm⟩ := cll_e hm
    refine zx_callV (σ := ρ9) C [.int (2), va_rf (none)] tC_5 k31 i32 Y_X5_save W_2_198 W_2_199 W_2_200 (c_X5_save h35) (by decide) (by decide) rfl (Nat.le_of_ble_eq_true rfl) dX1_reset_31 rfl ?_
    refine zx_aload_n C dX1_reset_34 1 rfl ?_
    refine zx_iconst (v := 2) C dX1_reset_35 (by decide) ?_
    refine zx_aload_nN C dX1_reset_36 0 rfl ?_
    obtain ⟨k36, i37, hm⟩ := ckO_e hm
    obtain ⟨v38, ρ39, h40, hm⟩ := cll_e hm
    refine zx_callV (σ := ρ34) C [.int (2), va_rf (none)] tC_1 k36 i37 Y_X1_setBase W_2_97 W_2_99 Wp_3 (c_X1_setBase h40) (by decide) (by decide) rfl (Nat.le_of_ble_eq_true rfl) dX1_reset_37 rfl ?_
    obtain ⟨rfl, rfl⟩ := ret_e hm
    exact zx_vret C rfl rfl rfl dX1_reset_40
abbrev cX1_checkpoint : ByteArray := prog_3_method_17_code
def yX1_checkpoint : MethodName := ⟨"SyncTree$Journal", "checkpoint", "()V"⟩
theorem Y_X1_checkpoint : tY yX1_checkpoint cX1_checkpoint 1 none 0 := ⟨W_3_190, W_1_5, ⟨by decide +kernel, by decide +kernel⟩, by decide +kernel⟩
theorem dX1_checkpoint_0 : decode cX1_checkpoint 0 = .ok (.aload_n 0, 1) := by decide +kernel
theorem dX1_checkpoint_1 : decode cX1_checkpoint 1 = .ok (.invokevirtual 192, 3) := by decide +kernel
theorem dX1_checkpoint_4 : decode cX1_checkpoint 4 = .ok (.aload_n 0, 1) := by decide +kernel
theorem dX1_checkpoint_5 : decode cX1_checkpoint 5 = .ok (.ldc 195, 2) := by decide +kernel
theorem dX1_checkpoint_7 : decode cX1_checkpoint 7 = .ok (.invokevirtual 196, 3) := by decide +kernel
theorem dX1_checkpoint_10 : decode cX1_checkpoint 10 = .ok (.pop, 1) := by decide +kernel
theorem dX1_checkpoint_11 : decode cX1_checkpoint 11 = .ok (.aload_n 0, 1) := by decide +kernel
theorem dX1_checkpoint_12 : decode cX1_checkpoint 12 = .ok (.invokevirtual 192, 3) := by decide +kernel
theorem dX1_checkpoint_15 : decode cX1_checkpoint 15 = .ok (.aload_n 0, 1) := by decide +kernel
theorem dX1_checkpoint_16 : decode cX1_checkpoint 16 = .ok (.invokevirtual 192, 3) := by decide +kernel
theorem dX1_checkpoint_19 : decode cX1_checkpoint 19 = .ok (.return_, 1) := by decide +kernel
set_option maxRecDepth 100000 in
set_option maxHeartbeats 1000000 in
theorem c_X1_checkpoint {l : Launch} {D : va_G} {aC : Nat → ClassId} {b0 fu : Nat} {a0 : Nat} {σ τ : tM} {v : (Unit) ⊕ Unit} (hm : m_X1_checkpoint b0 fu a0 σ = some (v, τ)) : tMt l D aC b0 yX1_checkpoint (Cond.code yX1_checkpoint cX1_checkpoint 1 none) 9 157 [.ref (a0)] σ (rxV "java/lang/IllegalStateException" v) τ := by
  unfold m_X1_checkpoint at hm
  obtain ⟨hg, hm⟩ := grw_e hm
  refine tMt_of (n := 0) rfl (Nat.le_of_ble_eq_true rfl) hg ?_
  intro p e s m below meth c C htab hin
  refine zx_lv [0] [(0, .ref (a0))] rfl ?_
  refine zx_aload_n C dX1_checkpoint_0 0 rfl ?_
  obtain ⟨k1, i2, hm⟩ := ckO_e hm
  rcases clx_e hm with ⟨v3, ρ4, h5, hm⟩ | ⟨ρ4, h5, hm⟩
  · refine zx_callV (σ := σ) C [] tC_1 k1 i2 Y_X1_flush W_3_191 W_3_192 W_3_193 (c_X1_flush h5) (by decide) (by decide) rfl (Nat.le_of_ble_eq_true rfl) dX1_checkpoint_1 rfl ?_
    refine zx_aload_n C dX1_checkpoint_4 0 rfl ?_
    refine zx_ldc (v := 1000000) C W_3_232 dX1_checkpoint_5 ?_
    obtain ⟨k6, i7, hm⟩ := ckO_e hm
    rcases clx_e hm with ⟨v8, ρ9, h10, hm⟩ | ⟨ρ9, h10, hm⟩
    · refine zx_callV (σ := ρ4) C [.int (1000000)] tC_1 k6 i7 Y_X1_applySome W_3_233 W_3_234 W_3_235 (c_X1_applySome h10) (by decide) (by decide) rfl (Nat.le_of_ble_eq_true rfl) dX1_checkpoint_7 rfl ?_
      refine zx_pop C dX1_checkpoint_10 rfl ?_
      refine zx_aload_n C dX1_checkpoint_11 0 rfl ?_
      obtain ⟨k11, i12, hm⟩ := ckO_e hm
      rcases clx_e hm with ⟨v13, ρ14, h15, hm⟩ | ⟨ρ14, h15, hm⟩
      · refine zx_callV (σ := ρ9) C [] tC_1 k11 i12 Y_X1_flush W_3_191 W_3_192 W_3_193 (c_X1_flush h15) (by decide) (by decide) rfl (Nat.le_of_ble_eq_true rfl) dX1_checkpoint_12 rfl ?_
        refine zx_aload_n C dX1_checkpoint_15 0 rfl ?_
        obtain ⟨k16, i17, hm⟩ := ckO_e hm
        rcases clx_e hm with ⟨v18, ρ19, h20, hm⟩ | ⟨ρ19, h20, hm⟩
        · refine zx_callV (σ := ρ14) C [] tC_1 k16 i17 Y_X1_flush W_3_191 W_3_192 W_3_193 (c_X1_flush h20) (by decide) (by decide) rfl (Nat.le_of_ble_eq_true rfl) dX1_checkpoint_16 rfl ?_
          obtain ⟨rfl, rfl⟩ := ret_e hm
          exact zx_vret C rfl rfl rfl dX1_checkpoint_19
        · cases hm
          exact zx_outV (σ := ρ14) C htab [] tC_1 k16 i17 Y_X1_flush W_3_191 W_3_192 W_3_193 (c_X1_flush h20) rfl (by decide) (by decide) rfl (Nat.le_of_ble_eq_true rfl) dX1_checkpoint_16 rfl
      · cases hm
        exact zx_outV (σ := ρ9) C htab [] tC_1 k11 i12 Y_X1_flush W_3_191 W_3_192 W_3_193 (c_X1_flush h15) rfl (by decide) (by decide) rfl (Nat.le_of_ble_eq_true rfl) dX1_checkpoint_12 rfl
    · cases hm
      exact zx_outV (σ := ρ4) C htab [.int (1000000)] tC_1 k6 i7 Y_X1_applySome W_3_233 W_3_234 W_3_235 (c_X1_applySome h10) rfl (by decide) (by decide) rfl (Nat.le_of_ble_eq_true rfl) dX1_checkpoint_7 rfl
  · cases hm
    exact zx_outV (σ := σ) C htab [] tC_1 k1 i2 Y_X1_flush W_3_191 W_3_192 W_3_193 (c_X1_flush h5) rfl (by decide) (by decide) rfl (Nat.le_of_ble_eq_true rfl) dX1_checkpoint_1 rfl
abbrev cX2_loadTable : ByteArray := prog_4_method_4_code
def yX2_loadTable : MethodName := ⟨"SyncTree$Loader", "loadTable", "(IJ)V"⟩
theorem Y_X2_loadTable : tY yX2_loadTable cX2_loadTable 5 none 2 := ⟨W_6_183, W_1_6, ⟨by decide +kernel, by decide +kernel⟩, by decide +kernel⟩
theorem dX2_loadTable_0 : decode cX2_loadTable 0 = .ok (.lload_n 2, 1) := by decide +kernel
theorem dX2_loadTable_1 : decode cX2_loadTable 1 = .ok (.lconst 0, 1) := by decide +kernel
theorem dX2_loadTable_2 : decode cX2_loadTable 2 = .ok (.lcmp, 1) := by decide +kernel
theorem dX2_loadTable_3 : decode cX2_loadTable 3 = .ok (.ifCond .ne 4, 3) := by decide +kernel
theorem dX2_loadTable_6 : decode cX2_loadTable 6 = .ok (.return_, 1) := by decide +kernel
theorem dX2_loadTable_7 : decode cX2_loadTable 7 = .ok (.aload_n 0, 1) := by decide +kernel
theorem dX2_loadTable_8 : decode cX2_loadTable 8 = .ok (.iload_n 1, 1) := by decide +kernel
theorem dX2_loadTable_9 : decode cX2_loadTable 9 = .ok (.lload_n 2, 1) := by decide +kernel
theorem dX2_loadTable_10 : decode cX2_loadTable 10 = .ok (.invokevirtual 63, 3) := by decide +kernel
theorem dX2_loadTable_13 : decode cX2_loadTable 13 = .ok (.iconst 0, 1) := by decide +kernel
theorem dX2_loadTable_14 : decode cX2_loadTable 14 = .ok (.istore 4, 2) := by decide +kernel
theorem dX2_loadTable_16 : decode cX2_loadTable 16 = .ok (.iload 4, 2) := by decide +kernel
theorem dX2_loadTable_18 : decode cX2_loadTable 18 = .ok (.bipush 32, 2) := by decide +kernel
theorem dX2_loadTable_20 : decode cX2_loadTable 20 = .ok (.if_icmp .ge 27, 3) := by decide +kernel
theorem dX2_loadTable_23 : decode cX2_loadTable 23 = .ok (.aload_n 0, 1) := by decide +kernel
theorem dX2_loadTable_24 : decode cX2_loadTable 24 = .ok (.iload_n 1, 1) := by decide +kernel
theorem dX2_loadTable_25 : decode cX2_loadTable 25 = .ok (.aload_n 0, 1) := by decide +kernel
theorem dX2_loadTable_26 : decode cX2_loadTable 26 = .ok (.getfield 15, 3) := by decide +kernel
theorem dX2_loadTable_29 : decode cX2_loadTable 29 = .ok (.lload_n 2, 1) := by decide +kernel
theorem dX2_loadTable_30 : decode cX2_loadTable 30 = .ok (.invokestatic 66, 3) := by decide +kernel
theorem dX2_loadTable_33 : decode cX2_loadTable 33 = .ok (.iload 4, 2) := by decide +kernel
theorem dX2_loadTable_35 : decode cX2_loadTable 35 = .ok (.invokevirtual 70, 3) := by decide +kernel
theorem dX2_loadTable_38 : decode cX2_loadTable 38 = .ok (.invokevirtual 56, 3) := by decide +kernel
theorem dX2_loadTable_41 : decode cX2_loadTable 41 = .ok (.iinc 4 1, 3) := by decide +kernel
theorem dX2_loadTable_44 : decode cX2_loadTable 44 = .ok (.goto (-28), 3) := by decide +kernel
theorem dX2_loadTable_47 : decode cX2_loadTable 47 = .ok (.return_, 1) := by decide +kernel
set_option maxRecDepth 100000 in
set_option maxHeartbeats 1000000 in
theorem l_X2_loadTable_16 {p : Program} {l : Launch} {e : Env} {s : State} {m : MethodId} {args : Array Value} {below : List Frame} {meth : Method} {c : Code} {D : va_G} {aC : Nat → ClassId} {b0 fu : Nat} {σ0 τ : tM} {v : Unit}  (C : tCx p l s m args meth c yX2_loadTable.cls cX2_loadTable 5 none D aC b0 σ0) (htab : ∀ x ∈ c.exceptionTable.toList, False) (hin : meth.name = yX2_loadTable.name)  : ∀ (n : Nat) (x0 : Nat) (x1 : Int32) (x2 : Int64) (x4 : Int32) (σ : tM), L_X2_loadTable_16 b0 fu  n x0 x1 x2 x4 σ = some (v, τ) → tX p l e s m args below meth c 5 4 98 D aC b0 σ0 (.inl none) τ 16 [(0, .ref (x0)), (1, .int (x1)), (2, .long (x2)), (4, .int (x4))] [] σ := by
  intro n
  induction n with
  | zero => intro x0 x1 x2 x4 σ hm; unfold L_X2_loadTable_16 at hm; cases hm
  | succ n ih =>
    intro x0 x1 x2 x4 σ hm
    unfold L_X2_loadTable_16 at hm
    obtain ⟨rc16, hrc⟩ : ∃ z, z = L_X2_loadTable_16 b0 fu  n := ⟨_, rfl⟩
    replace hm := ltb_e hm hrc
    rw [← hrc] at ih
    have hrc16 := ih
    clear ih hrc
    refine zx_iload C dX2_loadTable_16 3 rfl ?_
    refine zx_bipush (v := 32) C dX2_loadTable_18 (by decide) ?_
    refine zx_icmp_ge C 47 dX2_loadTable_20 (by decide) (fun c7 => ?_) (fun c7 => ?_)
    · replace hm := ip_e hm c7
      obtain ⟨rfl, rfl⟩ := ret_e hm
      exact zx_vret C rfl rfl rfl dX2_loadTable_47
    · replace hm := in_e hm c7
      refine zx_aload_n C dX2_loadTable_23 0 rfl ?_
      refine zx_iload_n C dX2_loadTable_24 1 rfl ?_
      refine zx_aload_n C dX2_loadTable_25 0 rfl ?_
      obtain ⟨k8, i9, hm⟩ := ckO_e hm
      obtain ⟨a10, h11, hm⟩ := osm_e hm
      refine zx_get (j := 1) C tC_2 k8 i9 ⟨by decide, Or.inl W_2_2⟩ dX2_loadTable_26 (.ref a10) (rf_s h11) ?_
      refine zx_lload_n C dX2_loadTable_29 2 rfl ?_
      obtain ⟨v12, ρ13, h14, hm⟩ := cll_e hm
      refine zx_callS (σ := σ) C [.long (x2)] Y_X8_cellOf W_6_170 W_4_118 (c_X8_cellOf h14) (by decide) (by decide) rfl (Nat.le_of_ble_eq_true rfl) dX2_loadTable_30 rfl ?_
      refine zx_iload C dX2_loadTable_33 3 rfl ?_
      obtain ⟨k15, i16, hm⟩ := ckO_e hm
      obtain ⟨v17, ρ18, h19, hm⟩ := cll_e hm
      refine zx_callV (σ := ρ13) C [.int (v12), .int (x4)] tC_5 k15 i16 Y_X5_word W_6_184 W_2_141 W_2_142 (c_X5_word h19) (by decide) (by decide) rfl (Nat.le_of_ble_eq_true rfl) dX2_loadTable_35 rfl ?_
      obtain ⟨k20, i21, hm⟩ := ckO_e hm
      obtain ⟨v22, ρ23, h24, hm⟩ := cll_e hm
      refine zx_callV (σ := ρ18) C [.int (x1), .long (v17)] tC_2 k20 i21 Y_X2_loadBlock W_6_162 W_6_164 Wp_51 (c_X2_loadBlock h24) (by decide) (by decide) rfl (Nat.le_of_ble_eq_true rfl) dX2_loadTable_38 rfl ?_
      obtain ⟨y25, hy25⟩ : ∃ z : Int32, z = (x4) + Int32.ofInt 1 := ⟨_, rfl⟩
      replace hm := ltb_e hm hy25
      refine zx_iinc C [(4, .int (y25)), (0, .ref (x0)), (1, .int (x1)), (2, .long (x2))] dX2_loadTable_41 3 rfl hy25.symm (by decide) rfl ?_
      refine zx_goto C 16 dX2_loadTable_44 (by decide) ?_
      exact zx_lv [1, 2, 3, 0] [(0, .ref (x0)), (1, .int (x1)), (2, .long (x2)), (4, .int (y25))] rfl (hrc16 _ _ _ _ _ hm)
set_option maxRecDepth 100000 in
set_option maxHeartbeats 1000000 in
theorem c_X2_loadTable {l : Launch} {D : va_G} {aC : Nat → ClassId} {b0 fu : Nat} {a0 : Nat} {p0 : Int32} {p1 : Int64} {σ τ : tM} {v : Unit} (hm : m_X2_loadTable b0 fu a0 p0 p1 σ = some (v, τ)) : tMt l D aC b0 yX2_loadTable (Cond.code yX2_loadTable cX2_loadTable 5 none) 4 98 [.ref (a0), .int (p0), .long (p1)] σ (.inl none) τ := by
  unfold m_X2_loadTable at hm
  obtain ⟨hg, hm⟩ := grw_e hm
  refine tMt_of (n := 0) rfl (Nat.le_of_ble_eq_true rfl) hg ?_
  intro p e s m below meth c C htab hin
  refine zx_lv [0, 1, 2] [(0, .ref (a0)), (1, .int (p0)), (2, .long (p1))] rfl ?_
  refine zx_lload_n C dX2_loadTable_0 2 rfl ?_
  refine zx_lconst (v := 0) C dX2_loadTable_1 (by decide) ?_
  refine zx_lcmp C dX2_loadTable_2 ?_
  refine zx_if_ne C 7 dX2_loadTable_3 (by decide) (fun c1 => ?_) (fun c1 => ?_)
  · replace hm := in_e hm c1
    refine zx_aload_n C dX2_loadTable_7 0 rfl ?_
    refine zx_iload_n C dX2_loadTable_8 1 rfl ?_
    refine zx_lload_n C dX2_loadTable_9 2 rfl ?_
    obtain ⟨k2, i3, hm⟩ := ckO_e hm
    obtain ⟨v4, ρ5, h6, hm⟩ := cll_e hm
    refine zx_callV (σ := σ) C [.int (p0), .long (p1)] tC_2 k2 i3 Y_X2_loadMeta W_6_166 W_6_168 Wp_52 (c_X2_loadMeta h6) (by decide) (by decide) rfl (Nat.le_of_ble_eq_true rfl) dX2_loadTable_10 rfl ?_
    refine zx_iconst (v := 0) C dX2_loadTable_13 (by decide) ?_
    refine zx_istore C [(4, .int (0)), (0, .ref (a0)), (1, .int (p0)), (2, .long (p1))] dX2_loadTable_14 (by decide) rfl ?_
    exact zx_lv [1, 2, 3, 0] [(0, .ref (a0)), (1, .int (p0)), (2, .long (p1)), (4, .int (0))] rfl (l_X2_loadTable_16 C htab hin  _ _ _ _ _ _ hm)
  · replace hm := ip_e hm c1
    obtain ⟨rfl, rfl⟩ := ret_e hm
    exact zx_vret C rfl rfl rfl dX2_loadTable_6
abbrev cX8_discard : ByteArray := prog_10_method_23_code
def yX8_discard : MethodName := ⟨"SyncTree$Tree", "discard", "(I)V"⟩
theorem Y_X8_discard : tY yX8_discard cX8_discard 3 none 1 := ⟨W_5_65, W_1_4, ⟨by decide +kernel, by decide +kernel⟩, by decide +kernel⟩
theorem dX8_discard_0 : decode cX8_discard 0 = .ok (.aload_n 0, 1) := by decide +kernel
theorem dX8_discard_1 : decode cX8_discard 1 = .ok (.iload_n 1, 1) := by decide +kernel
theorem dX8_discard_2 : decode cX8_discard 2 = .ok (.invokevirtual 40, 3) := by decide +kernel
theorem dX8_discard_5 : decode cX8_discard 5 = .ok (.iconst 1, 1) := by decide +kernel
theorem dX8_discard_6 : decode cX8_discard 6 = .ok (.if_icmp .ne 9, 3) := by decide +kernel
theorem dX8_discard_9 : decode cX8_discard 9 = .ok (.aload_n 0, 1) := by decide +kernel
theorem dX8_discard_10 : decode cX8_discard 10 = .ok (.iload_n 1, 1) := by decide +kernel
theorem dX8_discard_11 : decode cX8_discard 11 = .ok (.iconst 0, 1) := by decide +kernel
theorem dX8_discard_12 : decode cX8_discard 12 = .ok (.invokevirtual 95, 3) := by decide +kernel
theorem dX8_discard_15 : decode cX8_discard 15 = .ok (.iconst 0, 1) := by decide +kernel
theorem dX8_discard_16 : decode cX8_discard 16 = .ok (.istore_n 2, 1) := by decide +kernel
theorem dX8_discard_17 : decode cX8_discard 17 = .ok (.iload_n 2, 1) := by decide +kernel
theorem dX8_discard_18 : decode cX8_discard 18 = .ok (.bipush 16, 2) := by decide +kernel
theorem dX8_discard_20 : decode cX8_discard 20 = .ok (.if_icmp .ge 16, 3) := by decide +kernel
theorem dX8_discard_23 : decode cX8_discard 23 = .ok (.aload_n 0, 1) := by decide +kernel
theorem dX8_discard_24 : decode cX8_discard 24 = .ok (.iload_n 1, 1) := by decide +kernel
theorem dX8_discard_25 : decode cX8_discard 25 = .ok (.iload_n 2, 1) := by decide +kernel
theorem dX8_discard_26 : decode cX8_discard 26 = .ok (.lconst 0, 1) := by decide +kernel
theorem dX8_discard_27 : decode cX8_discard 27 = .ok (.invokevirtual 36, 3) := by decide +kernel
theorem dX8_discard_30 : decode cX8_discard 30 = .ok (.iinc 2 1, 3) := by decide +kernel
theorem dX8_discard_33 : decode cX8_discard 33 = .ok (.goto (-16), 3) := by decide +kernel
theorem dX8_discard_36 : decode cX8_discard 36 = .ok (.return_, 1) := by decide +kernel
set_option maxRecDepth 100000 in
set_option maxHeartbeats 1000000 in
theorem l_X8_discard_17 {p : Program} {l : Launch} {e : Env} {s : State} {m : MethodId} {args : Array Value} {below : List Frame} {meth : Method} {c : Code} {D : va_G} {aC : Nat → ClassId} {b0 fu : Nat} {σ0 τ : tM} {v : Unit}  (C : tCx p l s m args meth c yX8_discard.cls cX8_discard 3 none D aC b0 σ0) (htab : ∀ x ∈ c.exceptionTable.toList, False) (hin : meth.name = yX8_discard.name)  : ∀ (n : Nat) (x0 : Nat) (x1 : Int32) (x2 : Int32) (σ : tM), L_X8_discard_17 b0 fu  n x0 x1 x2 σ = some (v, τ) → tX p l e s m args below meth c 3 5 121 D aC b0 σ0 (.inl none) τ 17 [(0, .ref (x0)), (1, .int (x1)), (2, .int (x2))] [] σ := by
  intro n
  induction n with
  | zero => intro x0 x1 x2 σ hm; unfold L_X8_discard_17 at hm; cases hm
  | succ n ih =>
    intro x0 x1 x2 σ hm
    unfold L_X8_discard_17 at hm
    obtain ⟨rc17, hrc⟩ : ∃ z, z = L_X8_discard_17 b0 fu  n := ⟨_, rfl⟩
    replace hm := ltb_e hm hrc
    rw [← hrc] at ih
    have hrc17 := ih
    clear ih hrc
    refine zx_iload_n C dX8_discard_17 2 rfl ?_
    refine zx_bipush (v := 16) C dX8_discard_18 (by decide) ?_
    refine zx_icmp_ge C 36 dX8_discard_20 (by decide) (fun c7 => ?_) (fun c7 => ?_)
    · replace hm := ip_e hm c7
      obtain ⟨rfl, rfl⟩ := ret_e hm
      exact zx_vret C rfl rfl rfl dX8_discard_36
    · replace hm := in_e hm c7
      refine zx_aload_n C dX8_discard_23 0 rfl ?_
      refine zx_iload_n C dX8_discard_24 1 rfl ?_
      refine zx_iload_n C dX8_discard_25 2 rfl ?_
      refine zx_lconst (v := 0) C dX8_discard_26 (by decide) ?_
      obtain ⟨k8, i9, hm⟩ := ckO_e hm
      obtain ⟨v10, ρ11, h12, hm⟩ := cll_e hm
      refine zx_callV (σ := σ) C [.int (x1), .int (x2), .long (0)] tC_8 k8 i9 Y_X8_setNodeWord W_2_152 W_2_154 Wp_6 (c_X8_setNodeWord h12) (by decide) (by decide) rfl (Nat.le_of_ble_eq_true rfl) dX8_discard_27 rfl ?_
      obtain ⟨y13, hy13⟩ : ∃ z : Int32, z = (x2) + Int32.ofInt 1 := ⟨_, rfl⟩
      replace hm := ltb_e hm hy13
      refine zx_iinc C [(2, .int (y13)), (0, .ref (x0)), (1, .int (x1))] dX8_discard_30 2 rfl hy13.symm (by decide) rfl ?_
      refine zx_goto C 17 dX8_discard_33 (by decide) ?_
      exact zx_lv [1, 2, 0] [(0, .ref (x0)), (1, .int (x1)), (2, .int (y13))] rfl (hrc17 _ _ _ _ hm)
set_option maxRecDepth 100000 in
set_option maxHeartbeats 1000000 in
theorem j_X8_discard_15 {p : Program} {l : Launch} {e : Env} {s : State} {m : MethodId} {args : Array Value} {below : List Frame} {meth : Method} {c : Code} {D : va_G} {aC : Nat → ClassId} {b0 fu : Nat} {σ0 τ : tM} {v : Unit}  (C : tCx p l s m args meth c yX8_discard.cls cX8_discard 3 none D aC b0 σ0) (htab : ∀ x ∈ c.exceptionTable.toList, False) (hin : meth.name = yX8_discard.name)  {x0 : Nat} {x1 : Int32} {σ : tM} (hm : J_X8_discard_15 b0 fu  x0 x1 σ = some (v, τ)) : tX p l e s m args below meth c 3 5 121 D aC b0 σ0 (.inl none) τ 15 [(0, .ref (x0)), (1, .int (x1))] [] σ := by
  unfold J_X8_discard_15 at hm
  refine zx_iconst (v := 0) C dX8_discard_15 (by decide) ?_
  refine zx_istore_n C [(2, .int (0)), (0, .ref (x0)), (1, .int (x1))] dX8_discard_16 rfl (by decide) rfl ?_
  exact zx_lv [1, 2, 0] [(0, .ref (x0)), (1, .int (x1)), (2, .int (0))] rfl (l_X8_discard_17 C htab hin  _ _ _ _ _ hm)
set_option maxRecDepth 100000 in
set_option maxHeartbeats 1000000 in
theorem c_X8_discard {l : Launch} {D : va_G} {aC : Nat → ClassId} {b0 fu : Nat} {a0 : Nat} {p0 : Int32} {σ τ : tM} {v : Unit} (hm : m_X8_discard b0 fu a0 p0 σ = some (v, τ)) : tMt l D aC b0 yX8_discard (Cond.code yX8_discard cX8_discard 3 none) 5 121 [.ref (a0), .int (p0)] σ (.inl none) τ := by
  unfold m_X8_discard at hm
  obtain ⟨hg, hm⟩ := grw_e hm
  refine tMt_of (n := 0) rfl (Nat.le_of_ble_eq_true rfl) hg ?_
  intro p e s m below meth c C htab hin
  refine zx_lv [0, 1] [(0, .ref (a0)), (1, .int (p0))] rfl ?_
  refine zx_aload_n C dX8_discard_0 0 rfl ?_
  refine zx_iload_n C dX8_discard_1 1 rfl ?_
  obtain ⟨k1, i2, hm⟩ := ckO_e hm
  obtain ⟨v3, ρ4, h5, hm⟩ := cll_e hm
  refine zx_callV (σ := σ) C [.int (p0)] tC_8 k1 i2 Y_X8_kind W_3_79 W_3_80 W_3_81 (c_X8_kind h5) (by decide) (by decide) rfl (Nat.le_of_ble_eq_true rfl) dX8_discard_2 rfl ?_
  refine zx_iconst (v := 1) C dX8_discard_5 (by decide) ?_
  refine zx_icmp_ne C 15 dX8_discard_6 (by decide) (fun c6 => ?_) (fun c6 => ?_)
  · replace hm := in_e hm c6
    exact zx_lv [0, 1] [(0, .ref (a0)), (1, .int (p0))] rfl (j_X8_discard_15 C htab hin    hm)
  · replace hm := ip_e hm c6
    refine zx_aload_n C dX8_discard_9 0 rfl ?_
    refine zx_iload_n C dX8_discard_10 1 rfl ?_
    refine zx_iconst (v := 0) C dX8_discard_11 (by decide) ?_
    obtain ⟨k14, i15, hm⟩ := ckO_e hm
    obtain ⟨v16, ρ17, h18, hm⟩ := cll_e hm
    refine zx_callV (σ := ρ4) C [.int (p0), .int (0)] tC_8 k14 i15 Y_X8_resize W_5_66 W_5_67 W_5_68 (c_X8_resize h18) (by decide) (by decide) rfl (Nat.le_of_ble_eq_true rfl) dX8_discard_12 rfl ?_
    exact zx_lv [0, 1] [(0, .ref (a0)), (1, .int (p0))] rfl (j_X8_discard_15 C htab hin    hm)
abbrev cX8_discardNameless : ByteArray := prog_10_method_24_code
def yX8_discardNameless : MethodName := ⟨"SyncTree$Tree", "discardNameless", "()V"⟩
theorem Y_X8_discardNameless : tY yX8_discardNameless cX8_discardNameless 3 none 0 := ⟨W_6_188, W_1_4, ⟨by decide +kernel, by decide +kernel⟩, by decide +kernel⟩
theorem dX8_discardNameless_0 : decode cX8_discardNameless 0 = .ok (.iconst 0, 1) := by decide +kernel
theorem dX8_discardNameless_1 : decode cX8_discardNameless 1 = .ok (.istore_n 1, 1) := by decide +kernel
theorem dX8_discardNameless_2 : decode cX8_discardNameless 2 = .ok (.iload_n 1, 1) := by decide +kernel
theorem dX8_discardNameless_3 : decode cX8_discardNameless 3 = .ok (.bipush 64, 2) := by decide +kernel
theorem dX8_discardNameless_5 : decode cX8_discardNameless 5 = .ok (.if_icmp .ge 38, 3) := by decide +kernel
theorem dX8_discardNameless_8 : decode cX8_discardNameless 8 = .ok (.aload_n 0, 1) := by decide +kernel
theorem dX8_discardNameless_9 : decode cX8_discardNameless 9 = .ok (.iload_n 1, 1) := by decide +kernel
theorem dX8_discardNameless_10 : decode cX8_discardNameless 10 = .ok (.invokevirtual 40, 3) := by decide +kernel
theorem dX8_discardNameless_13 : decode cX8_discardNameless 13 = .ok (.istore_n 2, 1) := by decide +kernel
theorem dX8_discardNameless_14 : decode cX8_discardNameless 14 = .ok (.iload_n 2, 1) := by decide +kernel
theorem dX8_discardNameless_15 : decode cX8_discardNameless 15 = .ok (.iconst 1, 1) := by decide +kernel
theorem dX8_discardNameless_16 : decode cX8_discardNameless 16 = .ok (.if_icmp .eq 8, 3) := by decide +kernel
theorem dX8_discardNameless_19 : decode cX8_discardNameless 19 = .ok (.iload_n 2, 1) := by decide +kernel
theorem dX8_discardNameless_20 : decode cX8_discardNameless 20 = .ok (.iconst 3, 1) := by decide +kernel
theorem dX8_discardNameless_21 : decode cX8_discardNameless 21 = .ok (.if_icmp .ne 16, 3) := by decide +kernel
theorem dX8_discardNameless_24 : decode cX8_discardNameless 24 = .ok (.aload_n 0, 1) := by decide +kernel
theorem dX8_discardNameless_25 : decode cX8_discardNameless 25 = .ok (.iload_n 1, 1) := by decide +kernel
theorem dX8_discardNameless_26 : decode cX8_discardNameless 26 = .ok (.invokevirtual 60, 3) := by decide +kernel
theorem dX8_discardNameless_29 : decode cX8_discardNameless 29 = .ok (.ifCond .ne 8, 3) := by decide +kernel
theorem dX8_discardNameless_32 : decode cX8_discardNameless 32 = .ok (.aload_n 0, 1) := by decide +kernel
theorem dX8_discardNameless_33 : decode cX8_discardNameless 33 = .ok (.iload_n 1, 1) := by decide +kernel
theorem dX8_discardNameless_34 : decode cX8_discardNameless 34 = .ok (.invokevirtual 98, 3) := by decide +kernel
theorem dX8_discardNameless_37 : decode cX8_discardNameless 37 = .ok (.iinc 1 1, 3) := by decide +kernel
theorem dX8_discardNameless_40 : decode cX8_discardNameless 40 = .ok (.goto (-38), 3) := by decide +kernel
theorem dX8_discardNameless_43 : decode cX8_discardNameless 43 = .ok (.return_, 1) := by decide +kernel
set_option maxRecDepth 100000 in
set_option maxHeartbeats 1000000 in
theorem j_X8_discardNameless_37 {p : Program} {l : Launch} {e : Env} {s : State} {m : MethodId} {args : Array Value} {below : List Frame} {meth : Method} {c : Code} {D : va_G} {aC : Nat → ClassId} {b0 fu : Nat} {σ0 τ : tM} {v : Unit} {rc2 : Nat → Int32 → tM → Option ((Unit) × tM)} (C : tCx p l s m args meth c yX8_discardNameless.cls cX8_discardNameless 3 none D aC b0 σ0) (htab : ∀ x ∈ c.exceptionTable.toList, False) (hin : meth.name = yX8_discardNameless.name) (hrc2 : ∀ (x0 : Nat) (x1 : Int32) (ρ : tM), rc2 x0 x1 ρ = some (v, τ) → tX p l e s m args below meth c 3 6 143 D aC b0 σ0 (.inl none) τ 2 [(0, .ref (x0)), (1, .int (x1))] [] ρ) {x0 : Nat} {x1 : Int32} {σ : tM} (hm : J_X8_discardNameless_37 b0 fu rc2 x0 x1 σ = some (v, τ)) : tX p l e s m args below meth c 3 6 143 D aC b0 σ0 (.inl none) τ 37 [(0, .ref (x0)), (1, .int (x1))] [] σ := by
  unfold J_X8_discardNameless_37 at hm
  obtain ⟨y14, hy14⟩ : ∃ z : Int32, z = (x1) + Int32.ofInt 1 := ⟨_, rfl⟩
  replace hm := ltb_e hm hy14
  refine zx_iinc C [(1, .int (y14)), (0, .ref (x0))] dX8_discardNameless_37 1 rfl hy14.symm (by decide) rfl ?_
  refine zx_goto C 2 dX8_discardNameless_40 (by decide) ?_
  exact zx_lv [1, 0] [(0, .ref (x0)), (1, .int (y14))] rfl (hrc2 _ _ _ hm)
set_option maxRecDepth 100000 in
set_option maxHeartbeats 1000000 in
theorem j_X8_discardNameless_24 {p : Program} {l : Launch} {e : Env} {s : State} {m : MethodId} {args : Array Value} {below : List Frame} {meth : Method} {c : Code} {D : va_G} {aC : Nat → ClassId} {b0 fu : Nat} {σ0 τ : tM} {v : Unit} {rc2 : Nat → Int32 → tM → Option ((Unit) × tM)} (C : tCx p l s m args meth c yX8_discardNameless.cls cX8_discardNameless 3 none D aC b0 σ0) (htab : ∀ x ∈ c.exceptionTable.toList, False) (hin : meth.name = yX8_discardNameless.name) (hrc2 : ∀ (x0 : Nat) (x1 : Int32) (ρ : tM), rc2 x0 x1 ρ = some (v, τ) → tX p l e s m args below meth c 3 6 143 D aC b0 σ0 (.inl none) τ 2 [(0, .ref (x0)), (1, .int (x1))] [] ρ) {x0 : Nat} {x1 : Int32} {σ : tM} (hm : J_X8_discardNameless_24 b0 fu rc2 x0 x1 σ = some (v, τ)) : tX p l e s m args below meth c 3 6 143 D aC b0 σ0 (.inl none) τ 24 [(0, .ref (x0)), (1, .int (x1))] [] σ := by
  unfold J_X8_discardNameless_24 at hm
  refine zx_aload_n C dX8_discardNameless_24 0 rfl ?_
  refine zx_iload_n C dX8_discardNameless_25 1 rfl ?_
  obtain ⟨k8, i9, hm⟩ := ckO_e hm
  obtain ⟨v10, ρ11, h12, hm⟩ := cll_e hm
  refine zx_callV (σ := σ) C [.int (x1)] tC_8 k8 i9 Y_X8_names W_4_190 W_4_191 W_4_192 (c_X8_names h12) (by decide) (by decide) rfl (Nat.le_of_ble_eq_true rfl) dX8_discardNameless_26 rfl ?_
  refine zx_if_ne C 37 dX8_discardNameless_29 (by decide) (fun c13 => ?_) (fun c13 => ?_)
  · replace hm := in_e hm c13
    exact zx_lv [0, 1] [(0, .ref (x0)), (1, .int (x1))] rfl (j_X8_discardNameless_37 C htab hin hrc2   hm)
  · replace hm := ip_e hm c13
    refine zx_aload_n C dX8_discardNameless_32 0 rfl ?_
    refine zx_iload_n C dX8_discardNameless_33 1 rfl ?_
    obtain ⟨k15, i16, hm⟩ := ckO_e hm
    obtain ⟨v17, ρ18, h19, hm⟩ := cll_e hm
    refine zx_callV (σ := ρ11) C [.int (x1)] tC_8 k15 i16 Y_X8_discard W_6_189 W_5_63 W_5_64 (c_X8_discard h19) (by decide) (by decide) rfl (Nat.le_of_ble_eq_true rfl) dX8_discardNameless_34 rfl ?_
    exact zx_lv [0, 1] [(0, .ref (x0)), (1, .int (x1))] rfl (j_X8_discardNameless_37 C htab hin hrc2   hm)
set_option maxRecDepth 100000 in
set_option maxHeartbeats 1000000 in
theorem l_X8_discardNameless_2 {p : Program} {l : Launch} {e : Env} {s : State} {m : MethodId} {args : Array Value} {below : List Frame} {meth : Method} {c : Code} {D : va_G} {aC : Nat → ClassId} {b0 fu : Nat} {σ0 τ : tM} {v : Unit}  (C : tCx p l s m args meth c yX8_discardNameless.cls cX8_discardNameless 3 none D aC b0 σ0) (htab : ∀ x ∈ c.exceptionTable.toList, False) (hin : meth.name = yX8_discardNameless.name)  : ∀ (n : Nat) (x0 : Nat) (x1 : Int32) (σ : tM), L_X8_discardNameless_2 b0 fu  n x0 x1 σ = some (v, τ) → tX p l e s m args below meth c 3 6 143 D aC b0 σ0 (.inl none) τ 2 [(0, .ref (x0)), (1, .int (x1))] [] σ := by
  intro n
  induction n with
  | zero => intro x0 x1 σ hm; unfold L_X8_discardNameless_2 at hm; cases hm
  | succ n ih =>
    intro x0 x1 σ hm
    unfold L_X8_discardNameless_2 at hm
    obtain ⟨rc2, hrc⟩ : ∃ z, z = L_X8_discardNameless_2 b0 fu  n := ⟨_, rfl⟩
    replace hm := ltb_e hm hrc
    rw [← hrc] at ih
    have hrc2 := ih
    clear ih hrc
    refine zx_iload_n C dX8_discardNameless_2 1 rfl ?_
    refine zx_bipush (v := 64) C dX8_discardNameless_3 (by decide) ?_
    refine zx_icmp_ge C 43 dX8_discardNameless_5 (by decide) (fun c1 => ?_) (fun c1 => ?_)
    · replace hm := ip_e hm c1
      obtain ⟨rfl, rfl⟩ := ret_e hm
      exact zx_vret C rfl rfl rfl dX8_discardNameless_43
    · replace hm := in_e hm c1
      refine zx_aload_n C dX8_discardNameless_8 0 rfl ?_
      refine zx_iload_n C dX8_discardNameless_9 1 rfl ?_
      obtain ⟨k2, i3, hm⟩ := ckO_e hm
      obtain ⟨v4, ρ5, h6, hm⟩ := cll_e hm
      refine zx_callV (σ := σ) C [.int (x1)] tC_8 k2 i3 Y_X8_kind W_3_79 W_3_80 W_3_81 (c_X8_kind h6) (by decide) (by decide) rfl (Nat.le_of_ble_eq_true rfl) dX8_discardNameless_10 rfl ?_
      refine zx_istore_n C [(2, .int (v4)), (0, .ref (x0)), (1, .int (x1))] dX8_discardNameless_13 rfl (by decide) rfl ?_
      refine zx_iload_n C dX8_discardNameless_14 0 rfl ?_
      refine zx_iconst (v := 1) C dX8_discardNameless_15 (by decide) ?_
      refine zx_icmp_eq C 24 dX8_discardNameless_16 (by decide) (fun c7 => ?_) (fun c7 => ?_)
      · replace hm := ip_e hm c7
        exact zx_lv [1, 2] [(0, .ref (x0)), (1, .int (x1))] rfl (j_X8_discardNameless_24 C htab hin hrc2   hm)
      · replace hm := in_e hm c7
        refine zx_iload_n C dX8_discardNameless_19 0 rfl ?_
        refine zx_iconst (v := 3) C dX8_discardNameless_20 (by decide) ?_
        refine zx_icmp_ne C 37 dX8_discardNameless_21 (by decide) (fun c20 => ?_) (fun c20 => ?_)
        · replace hm := in_e hm c20
          exact zx_lv [1, 2] [(0, .ref (x0)), (1, .int (x1))] rfl (j_X8_discardNameless_37 C htab hin hrc2   hm)
        · replace hm := ip_e hm c20
          exact zx_lv [1, 2] [(0, .ref (x0)), (1, .int (x1))] rfl (j_X8_discardNameless_24 C htab hin hrc2   hm)
set_option maxRecDepth 100000 in
set_option maxHeartbeats 1000000 in
theorem c_X8_discardNameless {l : Launch} {D : va_G} {aC : Nat → ClassId} {b0 fu : Nat} {a0 : Nat} {σ τ : tM} {v : Unit} (hm : m_X8_discardNameless b0 fu a0 σ = some (v, τ)) : tMt l D aC b0 yX8_discardNameless (Cond.code yX8_discardNameless cX8_discardNameless 3 none) 6 143 [.ref (a0)] σ (.inl none) τ := by
  unfold m_X8_discardNameless at hm
  obtain ⟨hg, hm⟩ := grw_e hm
  refine tMt_of (n := 0) rfl (Nat.le_of_ble_eq_true rfl) hg ?_
  intro p e s m below meth c C htab hin
  refine zx_lv [0] [(0, .ref (a0))] rfl ?_
  refine zx_iconst (v := 0) C dX8_discardNameless_0 (by decide) ?_
  refine zx_istore_n C [(1, .int (0)), (0, .ref (a0))] dX8_discardNameless_1 rfl (by decide) rfl ?_
  exact zx_lv [1, 0] [(0, .ref (a0)), (1, .int (0))] rfl (l_X8_discardNameless_2 C htab hin  _ _ _ _ hm)
abbrev cX10_begin : ByteArray := prog_1_method_3_code
def yX10_begin : MethodName := ⟨"SyncTree", "begin", "(II)V"⟩
theorem Y_X10_begin : tY yX10_begin cX10_begin 3 none 2 := ⟨W_2_84, W_1_1, ⟨by decide +kernel, by decide +kernel⟩, by decide +kernel⟩
theorem dX10_begin_0 : decode cX10_begin 0 = .ok (.aload_n 0, 1) := by decide +kernel
theorem dX10_begin_1 : decode cX10_begin 1 = .ok (.getfield 37, 3) := by decide +kernel
theorem dX10_begin_4 : decode cX10_begin 4 = .ok (.invokevirtual 84, 3) := by decide +kernel
theorem dX10_begin_7 : decode cX10_begin 7 = .ok (.aload_n 0, 1) := by decide +kernel
theorem dX10_begin_8 : decode cX10_begin 8 = .ok (.getfield 12, 3) := by decide +kernel
theorem dX10_begin_11 : decode cX10_begin 11 = .ok (.bipush 34, 2) := by decide +kernel
theorem dX10_begin_13 : decode cX10_begin 13 = .ok (.iload_n 1, 1) := by decide +kernel
theorem dX10_begin_14 : decode cX10_begin 14 = .ok (.iadd, 1) := by decide +kernel
theorem dX10_begin_15 : decode cX10_begin 15 = .ok (.iload_n 2, 1) := by decide +kernel
theorem dX10_begin_16 : decode cX10_begin 16 = .ok (.iadd, 1) := by decide +kernel
theorem dX10_begin_17 : decode cX10_begin 17 = .ok (.invokevirtual 87, 3) := by decide +kernel
theorem dX10_begin_20 : decode cX10_begin 20 = .ok (.aload_n 0, 1) := by decide +kernel
theorem dX10_begin_21 : decode cX10_begin 21 = .ok (.getfield 19, 3) := by decide +kernel
theorem dX10_begin_24 : decode cX10_begin 24 = .ok (.iload_n 1, 1) := by decide +kernel
theorem dX10_begin_25 : decode cX10_begin 25 = .ok (.iload_n 2, 1) := by decide +kernel
theorem dX10_begin_26 : decode cX10_begin 26 = .ok (.invokevirtual 91, 3) := by decide +kernel
theorem dX10_begin_29 : decode cX10_begin 29 = .ok (.aload_n 0, 1) := by decide +kernel
theorem dX10_begin_30 : decode cX10_begin 30 = .ok (.getfield 28, 3) := by decide +kernel
theorem dX10_begin_33 : decode cX10_begin 33 = .ok (.iconst 0, 1) := by decide +kernel
theorem dX10_begin_34 : decode cX10_begin 34 = .ok (.iconst 2, 1) := by decide +kernel
theorem dX10_begin_35 : decode cX10_begin 35 = .ok (.iconst 0, 1) := by decide +kernel
theorem dX10_begin_36 : decode cX10_begin 36 = .ok (.invokevirtual 93, 3) := by decide +kernel
theorem dX10_begin_39 : decode cX10_begin 39 = .ok (.aload_n 0, 1) := by decide +kernel
theorem dX10_begin_40 : decode cX10_begin 40 = .ok (.getfield 37, 3) := by decide +kernel
theorem dX10_begin_43 : decode cX10_begin 43 = .ok (.iload_n 1, 1) := by decide +kernel
theorem dX10_begin_44 : decode cX10_begin 44 = .ok (.invokevirtual 97, 3) := by decide +kernel
theorem dX10_begin_47 : decode cX10_begin 47 = .ok (.aload_n 0, 1) := by decide +kernel
theorem dX10_begin_48 : decode cX10_begin 48 = .ok (.getfield 62, 3) := by decide +kernel
theorem dX10_begin_51 : decode cX10_begin 51 = .ok (.invokevirtual 98, 3) := by decide +kernel
theorem dX10_begin_54 : decode cX10_begin 54 = .ok (.aload_n 0, 1) := by decide +kernel
theorem dX10_begin_55 : decode cX10_begin 55 = .ok (.getfield 69, 3) := by decide +kernel
theorem dX10_begin_58 : decode cX10_begin 58 = .ok (.invokevirtual 101, 3) := by decide +kernel
theorem dX10_begin_61 : decode cX10_begin 61 = .ok (.aload_n 0, 1) := by decide +kernel
theorem dX10_begin_62 : decode cX10_begin 62 = .ok (.getfield 73, 3) := by decide +kernel
theorem dX10_begin_65 : decode cX10_begin 65 = .ok (.invokevirtual 101, 3) := by decide +kernel
theorem dX10_begin_68 : decode cX10_begin 68 = .ok (.aload_n 0, 1) := by decide +kernel
theorem dX10_begin_69 : decode cX10_begin 69 = .ok (.getfield 76, 3) := by decide +kernel
theorem dX10_begin_72 : decode cX10_begin 72 = .ok (.iconst (-1), 1) := by decide +kernel
theorem dX10_begin_73 : decode cX10_begin 73 = .ok (.invokestatic 102, 3) := by decide +kernel
theorem dX10_begin_76 : decode cX10_begin 76 = .ok (.return_, 1) := by decide +kernel
set_option maxRecDepth 100000 in
set_option maxHeartbeats 1000000 in
theorem c_X10_begin {l : Launch} {D : va_G} {aC : Nat → ClassId} {b0 fu : Nat} {a0 : Nat} {p0 : Int32} {p1 : Int32} {σ τ : tM} {v : Unit} (hm : m_X10_begin b0 fu a0 p0 p1 σ = some (v, τ)) : tMt l D aC b0 yX10_begin (Cond.code yX10_begin cX10_begin 3 none) 4 94 [.ref (a0), .int (p0), .int (p1)] σ (.inl none) τ := by
  unfold m_X10_begin at hm
  obtain ⟨hg, hm⟩ := grw_e hm
  refine tMt_of (n := 0) rfl (Nat.le_of_ble_eq_true rfl) hg ?_
  intro p e s m below meth c C htab hin
  refine zx_lv [0, 1, 2] [(0, .ref (a0)), (1, .int (p0)), (2, .int (p1))] rfl ?_
  refine zx_aload_n C dX10_begin_0 0 rfl ?_
  obtain ⟨k1, i2, hm⟩ := ckO_e hm
  obtain ⟨a3, h4, hm⟩ := osm_e hm
  refine zx_get (j := 3) C tC_10 k1 i2 ⟨by decide, Or.inl W_2_216⟩ dX10_begin_1 (.ref a3) (rf_s h4) ?_
  obtain ⟨k5, i6, hm⟩ := ckO_e hm
  obtain ⟨v7, ρ8, h9, hm⟩ := cll_e hm
  refine zx_callV (σ := σ) C [] tC_1 k5 i6 Y_X1_forget W_2_85 W_2_86 W_2_87 (c_X1_forget h9) (by decide) (by decide) rfl (Nat.le_of_ble_eq_true rfl) dX10_begin_4 rfl ?_
  refine zx_aload_n C dX10_begin_7 0 rfl ?_
  obtain ⟨k10, i11, hm⟩ := ckO_e hm
  obtain ⟨a12, h13, hm⟩ := osm_e hm
  refine zx_get (j := 0) C tC_10 k10 i11 ⟨by decide, Or.inl W_2_213⟩ dX10_begin_8 (.ref a12) (rf_s h13) ?_
  refine zx_bipush (v := 34) C dX10_begin_11 (by decide) ?_
  refine zx_iload_n C dX10_begin_13 1 rfl ?_
  refine zx_iadd C dX10_begin_14 ?_
  refine zx_iload_n C dX10_begin_15 2 rfl ?_
  refine zx_iadd C dX10_begin_16 ?_
  obtain ⟨k14, i15, hm⟩ := ckO_e hm
  obtain ⟨v16, ρ17, h18, hm⟩ := cll_e hm
  refine zx_callV (σ := ρ8) C [.int (((34) + (p0)) + (p1))] tC_0 k14 i15 Y_X0_reset W_2_101 W_2_102 W_2_103 (c_X0_reset h18) (by decide) (by decide) rfl (Nat.le_of_ble_eq_true rfl) dX10_begin_17 rfl ?_
  refine zx_aload_n C dX10_begin_20 0 rfl ?_
  obtain ⟨k19, i20, hm⟩ := ckO_e hm
  obtain ⟨a21, h22, hm⟩ := osm_e hm
  refine zx_get (j := 1) C tC_10 k19 i20 ⟨by decide, Or.inl W_2_214⟩ dX10_begin_21 (.ref a21) (rf_s h22) ?_
  refine zx_iload_n C dX10_begin_24 1 rfl ?_
  refine zx_iload_n C dX10_begin_25 2 rfl ?_
  obtain ⟨k23, i24, hm⟩ := ckO_e hm
  obtain ⟨v25, ρ26, h27, hm⟩ := cll_e hm
  refine zx_callV (σ := ρ17) C [.int (p0), .int (p1)] tC_5 k23 i24 Y_X5_reset W_2_111 W_2_112 W_2_113 (c_X5_reset h27) (by decide) (by decide) rfl (Nat.le_of_ble_eq_true rfl) dX10_begin_26 rfl ?_
  refine zx_aload_n C dX10_begin_29 0 rfl ?_
  obtain ⟨k28, i29, hm⟩ := ckO_e hm
  obtain ⟨a30, h31, hm⟩ := osm_e hm
  refine zx_get (j := 2) C tC_10 k28 i29 ⟨by decide, Or.inl W_2_215⟩ dX10_begin_30 (.ref a30) (rf_s h31) ?_
  refine zx_iconst (v := 0) C dX10_begin_33 (by decide) ?_
  refine zx_iconst (v := 2) C dX10_begin_34 (by decide) ?_
  refine zx_iconst (v := 0) C dX10_begin_35 (by decide) ?_
  obtain ⟨k32, i33, hm⟩ := ckO_e hm
  obtain ⟨v34, ρ35, h36, hm⟩ := cll_e hm
  refine zx_callV (σ := ρ26) C [.int (0), .int (2), .int (0)] tC_8 k32 i33 Y_X8_setUp W_2_144 W_2_145 W_2_146 (c_X8_setUp h36) (by decide) (by decide) rfl (Nat.le_of_ble_eq_true rfl) dX10_begin_36 rfl ?_
  refine zx_aload_n C dX10_begin_39 0 rfl ?_
  obtain ⟨k37, i38, hm⟩ := ckO_e hm
  obtain ⟨a39, h40, hm⟩ := osm_e hm
  refine zx_get (j := 3) C tC_10 k37 i38 ⟨by decide, Or.inl W_2_216⟩ dX10_begin_40 (.ref a39) (rf_s h40) ?_
  refine zx_iload_n C dX10_begin_43 1 rfl ?_
  obtain ⟨k41, i42, hm⟩ := ckO_e hm
  obtain ⟨v43, ρ44, h45, hm⟩ := cll_e hm
  refine zx_callV (σ := ρ35) C [.int (p0)] tC_1 k41 i42 Y_X1_reset W_2_164 W_2_165 W_2_166 (c_X1_reset h45) (by decide) (by decide) rfl (Nat.le_of_ble_eq_true rfl) dX10_begin_44 rfl ?_
  refine zx_aload_n C dX10_begin_47 0 rfl ?_
  obtain ⟨k46, i47, hm⟩ := ckO_e hm
  obtain ⟨a48, h49, hm⟩ := osm_e hm
  refine zx_get (j := 6) C tC_10 k46 i47 ⟨by decide, Or.inl W_2_219⟩ dX10_begin_48 (.ref a48) (rf_s h49) ?_
  obtain ⟨k50, i51, hm⟩ := ckO_e hm
  obtain ⟨v52, ρ53, h54, hm⟩ := cll_e hm
  refine zx_callV (σ := ρ44) C [] tC_6 k50 i51 Y_X6_useUp W_2_202 W_2_203 W_2_204 (c_X6_useUp h54) (by decide) (by decide) rfl (Nat.le_of_ble_eq_true rfl) dX10_begin_51 rfl ?_
  refine zx_aload_n C dX10_begin_54 0 rfl ?_
  obtain ⟨k55, i56, hm⟩ := ckO_e hm
  obtain ⟨a57, h58, hm⟩ := osm_e hm
  refine zx_get (j := 7) C tC_10 k55 i56 ⟨by decide, Or.inl W_2_220⟩ dX10_begin_55 (.ref a57) (rf_s h58) ?_
  obtain ⟨k59, i60, hm⟩ := ckO_e hm
  obtain ⟨v61, ρ62, h63, hm⟩ := cll_e hm
  refine zx_callV (σ := ρ53) C [] tC_3 k59 i60 Y_X3_forget W_2_206 W_2_207 W_2_208 (c_X3_forget h63) (by decide) (by decide) rfl (Nat.le_of_ble_eq_true rfl) dX10_begin_58 rfl ?_
  refine zx_aload_n C dX10_begin_61 0 rfl ?_
  obtain ⟨k64, i65, hm⟩ := ckO_e hm
  obtain ⟨a66, h67, hm⟩ := osm_e hm
  refine zx_get (j := 8) C tC_10 k64 i65 ⟨by decide, Or.inl W_2_221⟩ dX10_begin_62 (.ref a66) (rf_s h67) ?_
  obtain ⟨k68, i69, hm⟩ := ckO_e hm
  obtain ⟨v70, ρ71, h72, hm⟩ := cll_e hm
  refine zx_callV (σ := ρ62) C [] tC_3 k68 i69 Y_X3_forget W_2_206 W_2_207 W_2_208 (c_X3_forget h72) (by decide) (by decide) rfl (Nat.le_of_ble_eq_true rfl) dX10_begin_65 rfl ?_
  refine zx_aload_n C dX10_begin_68 0 rfl ?_
  obtain ⟨k73, i74, hm⟩ := ckO_e hm
  obtain ⟨a75, h76, hm⟩ := osm_e hm
  refine zx_get (j := 9) C tC_10 k73 i74 ⟨by decide, Or.inl W_2_222⟩ dX10_begin_69 (.ref a75) (rf_s h76) ?_
  refine zx_iconst (v := (-1)) C dX10_begin_72 (by decide) ?_
  obtain ⟨v77, ρ78, h79, hm⟩ := cll_e hm
  refine zx_callS (σ := ρ71) C [.ref (a75), .int ((-1))] Y_J7_fill_53178 W_2_210 W_2_211 (c_J7_fill_53178 h79) (by decide) (by decide) rfl (Nat.le_of_ble_eq_true rfl) dX10_begin_73 rfl ?_
  obtain ⟨rfl, rfl⟩ := ret_e hm
  exact zx_vret C rfl rfl rfl dX10_begin_76
abbrev cX10_loseName : ByteArray := prog_1_method_18_code
def yX10_loseName : MethodName := ⟨"SyncTree", "loseName", "(I)V"⟩
theorem Y_X10_loseName : tY yX10_loseName cX10_loseName 3 none 1 := ⟨W_5_61, W_1_1, ⟨by decide +kernel, by decide +kernel⟩, by decide +kernel⟩
theorem dX10_loseName_0 : decode cX10_loseName 0 = .ok (.aload_n 0, 1) := by decide +kernel
theorem dX10_loseName_1 : decode cX10_loseName 1 = .ok (.getfield 28, 3) := by decide +kernel
theorem dX10_loseName_4 : decode cX10_loseName 4 = .ok (.iload_n 1, 1) := by decide +kernel
theorem dX10_loseName_5 : decode cX10_loseName 5 = .ok (.invokevirtual 168, 3) := by decide +kernel
theorem dX10_loseName_8 : decode cX10_loseName 8 = .ok (.iconst 2, 1) := by decide +kernel
theorem dX10_loseName_9 : decode cX10_loseName 9 = .ok (.if_icmp .ne 12, 3) := by decide +kernel
theorem dX10_loseName_12 : decode cX10_loseName 12 = .ok (.aload_n 0, 1) := by decide +kernel
theorem dX10_loseName_13 : decode cX10_loseName 13 = .ok (.getfield 28, 3) := by decide +kernel
theorem dX10_loseName_16 : decode cX10_loseName 16 = .ok (.iload_n 1, 1) := by decide +kernel
theorem dX10_loseName_17 : decode cX10_loseName 17 = .ok (.invokevirtual 196, 3) := by decide +kernel
theorem dX10_loseName_20 : decode cX10_loseName 20 = .ok (.return_, 1) := by decide +kernel
theorem dX10_loseName_21 : decode cX10_loseName 21 = .ok (.aload_n 0, 1) := by decide +kernel
theorem dX10_loseName_22 : decode cX10_loseName 22 = .ok (.getfield 28, 3) := by decide +kernel
theorem dX10_loseName_25 : decode cX10_loseName 25 = .ok (.iload_n 1, 1) := by decide +kernel
theorem dX10_loseName_26 : decode cX10_loseName 26 = .ok (.invokevirtual 172, 3) := by decide +kernel
theorem dX10_loseName_29 : decode cX10_loseName 29 = .ok (.iconst 1, 1) := by decide +kernel
theorem dX10_loseName_30 : decode cX10_loseName 30 = .ok (.isub, 1) := by decide +kernel
theorem dX10_loseName_31 : decode cX10_loseName 31 = .ok (.istore_n 2, 1) := by decide +kernel
theorem dX10_loseName_32 : decode cX10_loseName 32 = .ok (.aload_n 0, 1) := by decide +kernel
theorem dX10_loseName_33 : decode cX10_loseName 33 = .ok (.getfield 28, 3) := by decide +kernel
theorem dX10_loseName_36 : decode cX10_loseName 36 = .ok (.iload_n 1, 1) := by decide +kernel
theorem dX10_loseName_37 : decode cX10_loseName 37 = .ok (.iload_n 2, 1) := by decide +kernel
theorem dX10_loseName_38 : decode cX10_loseName 38 = .ok (.invokevirtual 175, 3) := by decide +kernel
theorem dX10_loseName_41 : decode cX10_loseName 41 = .ok (.iload_n 2, 1) := by decide +kernel
theorem dX10_loseName_42 : decode cX10_loseName 42 = .ok (.ifCond .gt 19, 3) := by decide +kernel
theorem dX10_loseName_45 : decode cX10_loseName 45 = .ok (.aload_n 0, 1) := by decide +kernel
theorem dX10_loseName_46 : decode cX10_loseName 46 = .ok (.iload_n 1, 1) := by decide +kernel
theorem dX10_loseName_47 : decode cX10_loseName 47 = .ok (.invokevirtual 218, 3) := by decide +kernel
theorem dX10_loseName_50 : decode cX10_loseName 50 = .ok (.ifCond .ne 11, 3) := by decide +kernel
theorem dX10_loseName_53 : decode cX10_loseName 53 = .ok (.aload_n 0, 1) := by decide +kernel
theorem dX10_loseName_54 : decode cX10_loseName 54 = .ok (.getfield 28, 3) := by decide +kernel
theorem dX10_loseName_57 : decode cX10_loseName 57 = .ok (.iload_n 1, 1) := by decide +kernel
theorem dX10_loseName_58 : decode cX10_loseName 58 = .ok (.invokevirtual 196, 3) := by decide +kernel
theorem dX10_loseName_61 : decode cX10_loseName 61 = .ok (.return_, 1) := by decide +kernel
set_option maxRecDepth 100000 in
set_option maxHeartbeats 1000000 in
theorem j_X10_loseName_61 {p : Program} {l : Launch} {e : Env} {s : State} {m : MethodId} {args : Array Value} {below : List Frame} {meth : Method} {c : Code} {D : va_G} {aC : Nat → ClassId} {b0 fu : Nat} {σ0 τ : tM} {v : Unit}  (C : tCx p l s m args meth c yX10_loseName.cls cX10_loseName 3 none D aC b0 σ0) (htab : ∀ x ∈ c.exceptionTable.toList, False) (hin : meth.name = yX10_loseName.name)   {σ : tM} (hm : J_X10_loseName_61 b0 fu   σ = some (v, τ)) : tX p l e s m args below meth c 3 6 143 D aC b0 σ0 (.inl none) τ 61 [] [] σ := by
  unfold J_X10_loseName_61 at hm
  obtain ⟨rfl, rfl⟩ := ret_e hm
  exact zx_vret C rfl rfl rfl dX10_loseName_61
set_option maxRecDepth 100000 in
set_option maxHeartbeats 1000000 in
theorem c_X10_loseName {l : Launch} {D : va_G} {aC : Nat → ClassId} {b0 fu : Nat} {a0 : Nat} {p0 : Int32} {σ τ : tM} {v : Unit} (hm : m_X10_loseName b0 fu a0 p0 σ = some (v, τ)) : tMt l D aC b0 yX10_loseName (Cond.code yX10_loseName cX10_loseName 3 none) 6 143 [.ref (a0), .int (p0)] σ (.inl none) τ := by
  unfold m_X10_loseName at hm
  obtain ⟨hg, hm⟩ := grw_e hm
  refine tMt_of (n := 0) rfl (Nat.le_of_ble_eq_true rfl) hg ?_
  intro p e s m below meth c C htab hin
  refine zx_lv [0, 1] [(0, .ref (a0)), (1, .int (p0))] rfl ?_
  refine zx_aload_n C dX10_loseName_0 0 rfl ?_
  obtain ⟨k1, i2, hm⟩ := ckO_e hm
  obtain ⟨a3, h4, hm⟩ := osm_e hm
  refine zx_get (j := 2) C tC_10 k1 i2 ⟨by decide, Or.inl W_2_215⟩ dX10_loseName_1 (.ref a3) (rf_s h4) ?_
  refine zx_iload_n C dX10_loseName_4 1 rfl ?_
  obtain ⟨k5, i6, hm⟩ := ckO_e hm
  obtain ⟨v7, ρ8, h9, hm⟩ := cll_e hm
  refine zx_callV (σ := σ) C [.int (p0)] tC_8 k5 i6 Y_X8_kind W_5_14 W_3_80 W_3_81 (c_X8_kind h9) (by decide) (by decide) rfl (Nat.le_of_ble_eq_true rfl) dX10_loseName_5 rfl ?_
  refine zx_iconst (v := 2) C dX10_loseName_8 (by decide) ?_
  refine zx_icmp_ne C 21 dX10_loseName_9 (by decide) (fun c10 => ?_) (fun c10 => ?_)
  · replace hm := in_e hm c10
    refine zx_aload_n C dX10_loseName_21 0 rfl ?_
    obtain ⟨k11, i12, hm⟩ := ckO_e hm
    obtain ⟨a13, h14, hm⟩ := osm_e hm
    refine zx_get (j := 2) C tC_10 k11 i12 ⟨by decide, Or.inl W_2_215⟩ dX10_loseName_22 (.ref a13) (rf_s h14) ?_
    refine zx_iload_n C dX10_loseName_25 1 rfl ?_
    obtain ⟨k15, i16, hm⟩ := ckO_e hm
    obtain ⟨v17, ρ18, h19, hm⟩ := cll_e hm
    refine zx_callV (σ := ρ8) C [.int (p0)] tC_8 k15 i16 Y_X8_names W_5_15 W_4_191 W_4_192 (c_X8_names h19) (by decide) (by decide) rfl (Nat.le_of_ble_eq_true rfl) dX10_loseName_26 rfl ?_
    refine zx_iconst (v := 1) C dX10_loseName_29 (by decide) ?_
    refine zx_isub C dX10_loseName_30 ?_
    refine zx_topi (fun y20 hy20 => ?_)
    replace hm := ltb_e hm hy20
    refine zx_istore_n C [(2, .int (y20)), (0, .ref (a0)), (1, .int (p0))] dX10_loseName_31 rfl (by decide) rfl ?_
    refine zx_aload_n C dX10_loseName_32 1 rfl ?_
    obtain ⟨k21, i22, hm⟩ := ckO_e hm
    obtain ⟨a23, h24, hm⟩ := osm_e hm
    refine zx_get (j := 2) C tC_10 k21 i22 ⟨by decide, Or.inl W_2_215⟩ dX10_loseName_33 (.ref a23) (rf_s h24) ?_
    refine zx_iload_n C dX10_loseName_36 2 rfl ?_
    refine zx_iload_n C dX10_loseName_37 0 rfl ?_
    obtain ⟨k25, i26, hm⟩ := ckO_e hm
    obtain ⟨v27, ρ28, h29, hm⟩ := cll_e hm
    refine zx_callV (σ := ρ18) C [.int (p0), .int (y20)] tC_8 k25 i26 Y_X8_setNames W_5_16 W_5_17 W_5_18 (c_X8_setNames h29) (by decide) (by decide) rfl (Nat.le_of_ble_eq_true rfl) dX10_loseName_38 rfl ?_
    refine zx_iload_n C dX10_loseName_41 0 rfl ?_
    refine zx_if_gt C 61 dX10_loseName_42 (by decide) (fun c30 => ?_) (fun c30 => ?_)
    · replace hm := ip_e hm c30
      exact zx_lv [] [] rfl (j_X10_loseName_61 C htab hin    hm)
    · replace hm := in_e hm c30
      refine zx_aload_n C dX10_loseName_45 1 rfl ?_
      refine zx_iload_n C dX10_loseName_46 2 rfl ?_
      obtain ⟨k31, i32, hm⟩ := ckO_e hm
      obtain ⟨v33, ρ34, h35, hm⟩ := cll_e hm
      refine zx_callV (σ := ρ28) C [.int (p0)] tC_10 k31 i32 Y_X10_isHeld W_5_84 W_5_86 Wp_38 (c_X10_isHeld h35) (by decide) (by decide) rfl (Nat.le_of_ble_eq_true rfl) dX10_loseName_47 rfl ?_
      refine zx_if_ne C 61 dX10_loseName_50 (by decide) (fun c36 => ?_) (fun c36 => ?_)
      · replace hm := in_e hm c36
        exact zx_lv [] [] rfl (j_X10_loseName_61 C htab hin    hm)
      · replace hm := ip_e hm c36
        refine zx_aload_n C dX10_loseName_53 1 rfl ?_
        obtain ⟨k37, i38, hm⟩ := ckO_e hm
        obtain ⟨a39, h40, hm⟩ := osm_e hm
        refine zx_get (j := 2) C tC_10 k37 i38 ⟨by decide, Or.inl W_2_215⟩ dX10_loseName_54 (.ref a39) (rf_s h40) ?_
        refine zx_iload_n C dX10_loseName_57 2 rfl ?_
        obtain ⟨k41, i42, hm⟩ := ckO_e hm
        obtain ⟨v43, ρ44, h45, hm⟩ := cll_e hm
        refine zx_callV (σ := ρ34) C [.int (p0)] tC_8 k41 i42 Y_X8_discard W_5_62 W_5_63 W_5_64 (c_X8_discard h45) (by decide) (by decide) rfl (Nat.le_of_ble_eq_true rfl) dX10_loseName_58 rfl ?_
        exact zx_lv [] [] rfl (j_X10_loseName_61 C htab hin    hm)
  · replace hm := ip_e hm c10
    refine zx_aload_n C dX10_loseName_12 0 rfl ?_
    obtain ⟨k46, i47, hm⟩ := ckO_e hm
    obtain ⟨a48, h49, hm⟩ := osm_e hm
    refine zx_get (j := 2) C tC_10 k46 i47 ⟨by decide, Or.inl W_2_215⟩ dX10_loseName_13 (.ref a48) (rf_s h49) ?_
    refine zx_iload_n C dX10_loseName_16 1 rfl ?_
    obtain ⟨k50, i51, hm⟩ := ckO_e hm
    obtain ⟨v52, ρ53, h54, hm⟩ := cll_e hm
    refine zx_callV (σ := ρ8) C [.int (p0)] tC_8 k50 i51 Y_X8_discard W_5_62 W_5_63 W_5_64 (c_X8_discard h54) (by decide) (by decide) rfl (Nat.le_of_ble_eq_true rfl) dX10_loseName_17 rfl ?_
    obtain ⟨rfl, rfl⟩ := ret_e hm
    exact zx_vret C rfl rfl rfl dX10_loseName_20
abbrev cX1_postGroup : ByteArray := prog_3_method_11_code
def yX1_postGroup : MethodName := ⟨"SyncTree$Journal", "postGroup", "()I"⟩
theorem Y_X1_postGroup : tY yX1_postGroup cX1_postGroup 3 (some .int) 0 := ⟨W_3_186, W_1_5, ⟨by decide +kernel, by decide +kernel⟩, by decide +kernel⟩
theorem dX1_postGroup_0 : decode cX1_postGroup 0 = .ok (.aload_n 0, 1) := by decide +kernel
theorem dX1_postGroup_1 : decode cX1_postGroup 1 = .ok (.getfield 25, 3) := by decide +kernel
theorem dX1_postGroup_4 : decode cX1_postGroup 4 = .ok (.invokevirtual 112, 3) := by decide +kernel
theorem dX1_postGroup_7 : decode cX1_postGroup 7 = .ok (.istore_n 1, 1) := by decide +kernel
theorem dX1_postGroup_8 : decode cX1_postGroup 8 = .ok (.iload_n 1, 1) := by decide +kernel
theorem dX1_postGroup_9 : decode cX1_postGroup 9 = .ok (.ifCond .ne 5, 3) := by decide +kernel
theorem dX1_postGroup_12 : decode cX1_postGroup 12 = .ok (.iconst 0, 1) := by decide +kernel
theorem dX1_postGroup_13 : decode cX1_postGroup 13 = .ok (.ireturn, 1) := by decide +kernel
theorem dX1_postGroup_14 : decode cX1_postGroup 14 = .ok (.iload_n 1, 1) := by decide +kernel
theorem dX1_postGroup_15 : decode cX1_postGroup 15 = .ok (.aload_n 0, 1) := by decide +kernel
theorem dX1_postGroup_16 : decode cX1_postGroup 16 = .ok (.getfield 46, 3) := by decide +kernel
theorem dX1_postGroup_19 : decode cX1_postGroup 19 = .ok (.aload_n 0, 1) := by decide +kernel
theorem dX1_postGroup_20 : decode cX1_postGroup 20 = .ok (.getfield 81, 3) := by decide +kernel
theorem dX1_postGroup_23 : decode cX1_postGroup 23 = .ok (.isub, 1) := by decide +kernel
theorem dX1_postGroup_24 : decode cX1_postGroup 24 = .ok (.if_icmp .le 7, 3) := by decide +kernel
theorem dX1_postGroup_27 : decode cX1_postGroup 27 = .ok (.aload_n 0, 1) := by decide +kernel
theorem dX1_postGroup_28 : decode cX1_postGroup 28 = .ok (.invokevirtual 119, 3) := by decide +kernel
theorem dX1_postGroup_31 : decode cX1_postGroup 31 = .ok (.aload_n 0, 1) := by decide +kernel
theorem dX1_postGroup_32 : decode cX1_postGroup 32 = .ok (.dup, 1) := by decide +kernel
theorem dX1_postGroup_33 : decode cX1_postGroup 33 = .ok (.getfield 52, 3) := by decide +kernel
theorem dX1_postGroup_36 : decode cX1_postGroup 36 = .ok (.iconst 1, 1) := by decide +kernel
theorem dX1_postGroup_37 : decode cX1_postGroup 37 = .ok (.iadd, 1) := by decide +kernel
theorem dX1_postGroup_38 : decode cX1_postGroup 38 = .ok (.putfield 52, 3) := by decide +kernel
theorem dX1_postGroup_41 : decode cX1_postGroup 41 = .ok (.iconst 0, 1) := by decide +kernel
theorem dX1_postGroup_42 : decode cX1_postGroup 42 = .ok (.istore_n 2, 1) := by decide +kernel
theorem dX1_postGroup_43 : decode cX1_postGroup 43 = .ok (.iload_n 2, 1) := by decide +kernel
theorem dX1_postGroup_44 : decode cX1_postGroup 44 = .ok (.iload_n 1, 1) := by decide +kernel
theorem dX1_postGroup_45 : decode cX1_postGroup 45 = .ok (.if_icmp .ge 33, 3) := by decide +kernel
theorem dX1_postGroup_48 : decode cX1_postGroup 48 = .ok (.aload_n 0, 1) := by decide +kernel
theorem dX1_postGroup_49 : decode cX1_postGroup 49 = .ok (.getfield 21, 3) := by decide +kernel
theorem dX1_postGroup_52 : decode cX1_postGroup 52 = .ok (.bipush 34, 2) := by decide +kernel
theorem dX1_postGroup_54 : decode cX1_postGroup 54 = .ok (.aload_n 0, 1) := by decide +kernel
theorem dX1_postGroup_55 : decode cX1_postGroup 55 = .ok (.aload_n 0, 1) := by decide +kernel
theorem dX1_postGroup_56 : decode cX1_postGroup 56 = .ok (.getfield 84, 3) := by decide +kernel
theorem dX1_postGroup_59 : decode cX1_postGroup 59 = .ok (.iload_n 2, 1) := by decide +kernel
theorem dX1_postGroup_60 : decode cX1_postGroup 60 = .ok (.iadd, 1) := by decide +kernel
theorem dX1_postGroup_61 : decode cX1_postGroup 61 = .ok (.invokevirtual 122, 3) := by decide +kernel
theorem dX1_postGroup_64 : decode cX1_postGroup 64 = .ok (.iadd, 1) := by decide +kernel
theorem dX1_postGroup_65 : decode cX1_postGroup 65 = .ok (.aload_n 0, 1) := by decide +kernel
theorem dX1_postGroup_66 : decode cX1_postGroup 66 = .ok (.getfield 52, 3) := by decide +kernel
theorem dX1_postGroup_69 : decode cX1_postGroup 69 = .ok (.invokevirtual 126, 3) := by decide +kernel
theorem dX1_postGroup_72 : decode cX1_postGroup 72 = .ok (.iinc 2 1, 3) := by decide +kernel
theorem dX1_postGroup_75 : decode cX1_postGroup 75 = .ok (.goto (-32), 3) := by decide +kernel
theorem dX1_postGroup_78 : decode cX1_postGroup 78 = .ok (.aload_n 0, 1) := by decide +kernel
theorem dX1_postGroup_79 : decode cX1_postGroup 79 = .ok (.iload_n 1, 1) := by decide +kernel
theorem dX1_postGroup_80 : decode cX1_postGroup 80 = .ok (.invokevirtual 130, 3) := by decide +kernel
theorem dX1_postGroup_83 : decode cX1_postGroup 83 = .ok (.iload_n 1, 1) := by decide +kernel
theorem dX1_postGroup_84 : decode cX1_postGroup 84 = .ok (.ireturn, 1) := by decide +kernel
set_option maxRecDepth 100000 in
set_option maxHeartbeats 1000000 in
theorem l_X1_postGroup_43 {p : Program} {l : Launch} {e : Env} {s : State} {m : MethodId} {args : Array Value} {below : List Frame} {meth : Method} {c : Code} {D : va_G} {aC : Nat → ClassId} {b0 fu : Nat} {σ0 τ : tM} {v : (Int32) ⊕ Unit}  (C : tCx p l s m args meth c yX1_postGroup.cls cX1_postGroup 3 (some .int) D aC b0 σ0) (htab : ∀ x ∈ c.exceptionTable.toList, False) (hin : meth.name = yX1_postGroup.name)  : ∀ (n : Nat) (x0 : Nat) (x1 : Int32) (x2 : Int32) (σ : tM), L_X1_postGroup_43 b0 fu  n x0 x1 x2 σ = some (v, τ) → tX p l e s m args below meth c 3 10 177 D aC b0 σ0 (rxI "java/lang/IllegalStateException" v) τ 43 [(0, .ref (x0)), (1, .int (x1)), (2, .int (x2))] [] σ := by
  intro n
  induction n with
  | zero => intro x0 x1 x2 σ hm; unfold L_X1_postGroup_43 at hm; cases hm
  | succ n ih =>
    intro x0 x1 x2 σ hm
    unfold L_X1_postGroup_43 at hm
    obtain ⟨rc43, hrc⟩ : ∃ z, z = L_X1_postGroup_43 b0 fu  n := ⟨_, rfl⟩
    replace hm := ltb_e hm hrc
    rw [← hrc] at ih
    have hrc43 := ih
    clear ih hrc
    refine zx_iload_n C dX1_postGroup_43 2 rfl ?_
    refine zx_iload_n C dX1_postGroup_44 1 rfl ?_
    refine zx_icmp_ge C 78 dX1_postGroup_45 (by decide) (fun c16 => ?_) (fun c16 => ?_)
    · replace hm := ip_e hm c16
      refine zx_aload_n C dX1_postGroup_78 0 rfl ?_
      refine zx_iload_n C dX1_postGroup_79 1 rfl ?_
      obtain ⟨k17, i18, hm⟩ := ckO_e hm
      obtain ⟨v19, ρ20, h21, hm⟩ := cll_e hm
      refine zx_callV (σ := σ) C [.int (x1)] tC_1 k17 i18 Y_X1_append W_4_9 W_4_11 Wp_18 (c_X1_append h21) (by decide) (by decide) rfl (Nat.le_of_ble_eq_true rfl) dX1_postGroup_80 rfl ?_
      refine zx_iload_n C dX1_postGroup_83 1 rfl ?_
      obtain ⟨rfl, rfl⟩ := ret_e hm
      exact zx_iret C rfl rfl rfl dX1_postGroup_84
    · replace hm := in_e hm c16
      refine zx_aload_n C dX1_postGroup_48 0 rfl ?_
      obtain ⟨k22, i23, hm⟩ := ckO_e hm
      obtain ⟨a24, h25, hm⟩ := osm_e hm
      refine zx_get (j := 0) C tC_1 k22 i23 ⟨by decide, Or.inl W_1_180⟩ dX1_postGroup_49 (.ref a24) (rf_s h25) ?_
      refine zx_bipush (v := 34) C dX1_postGroup_52 (by decide) ?_
      refine zx_aload_n C dX1_postGroup_54 0 rfl ?_
      refine zx_aload_n C dX1_postGroup_55 0 rfl ?_
      refine zx_get (j := 10) C tC_1 k22 i23 ⟨by decide, Or.inl W_1_190⟩ dX1_postGroup_56 (.int (tI (σ) (x0) 10)) rfl ?_
      refine zx_iload_n C dX1_postGroup_59 2 rfl ?_
      refine zx_iadd C dX1_postGroup_60 ?_
      obtain ⟨v26, ρ27, h28, hm⟩ := cll_e hm
      refine zx_callV (σ := σ) C [.int ((tI (σ) (x0) 10) + (x2))] tC_1 k22 i23 Y_X1_wrap W_3_224 W_3_226 Wp_16 (c_X1_wrap h28) (by decide) (by decide) rfl (Nat.le_of_ble_eq_true rfl) dX1_postGroup_61 rfl ?_
      refine zx_iadd C dX1_postGroup_64 ?_
      refine zx_aload_n C dX1_postGroup_65 0 rfl ?_
      obtain ⟨k29, i30, hm⟩ := ckO_e hm
      refine zx_get (j := 17) C tC_1 k29 i30 ⟨by decide, Or.inl W_1_197⟩ dX1_postGroup_66 (.int (tI (ρ27) (x0) 17)) rfl ?_
      obtain ⟨k31, i32, hm⟩ := ckO_e hm
      rcases clx_e hm with ⟨v33, ρ34, h35, hm⟩ | ⟨ρ34, h35, hm⟩
      · refine zx_callV (σ := ρ27) C [.int ((34) + (v26)), .int (tI (ρ27) (x0) 17)] tC_0 k31 i32 Y_X0_put W_3_228 W_3_229 W_3_230 (c_X0_put h35) (by decide) (by decide) rfl (Nat.le_of_ble_eq_true rfl) dX1_postGroup_69 rfl ?_
        obtain ⟨y36, hy36⟩ : ∃ z : Int32, z = (x2) + Int32.ofInt 1 := ⟨_, rfl⟩
        replace hm := ltb_e hm hy36
        refine zx_iinc C [(2, .int (y36)), (0, .ref (x0)), (1, .int (x1))] dX1_postGroup_72 2 rfl hy36.symm (by decide) rfl ?_
        refine zx_goto C 43 dX1_postGroup_75 (by decide) ?_
        exact zx_lv [1, 2, 0] [(0, .ref (x0)), (1, .int (x1)), (2, .int (y36))] rfl (hrc43 _ _ _ _ hm)
      · cases hm
        exact zx_outV (σ := ρ27) C htab [.int ((34) + (v26)), .int (tI (ρ27) (x0) 17)] tC_0 k31 i32 Y_X0_put W_3_228 W_3_229 W_3_230 (c_X0_put h35) rfl (by decide) (by decide) rfl (Nat.le_of_ble_eq_true rfl) dX1_postGroup_69 rfl
set_option maxRecDepth 100000 in
set_option maxHeartbeats 1000000 in
theorem j_X1_postGroup_31 {p : Program} {l : Launch} {e : Env} {s : State} {m : MethodId} {args : Array Value} {below : List Frame} {meth : Method} {c : Code} {D : va_G} {aC : Nat → ClassId} {b0 fu : Nat} {σ0 τ : tM} {v : (Int32) ⊕ Unit}  (C : tCx p l s m args meth c yX1_postGroup.cls cX1_postGroup 3 (some .int) D aC b0 σ0) (htab : ∀ x ∈ c.exceptionTable.toList, False) (hin : meth.name = yX1_postGroup.name)  {x0 : Nat} {x1 : Int32} {σ : tM} (hm : J_X1_postGroup_31 b0 fu  x0 x1 σ = some (v, τ)) : tX p l e s m args below meth c 3 10 177 D aC b0 σ0 (rxI "java/lang/IllegalStateException" v) τ 31 [(0, .ref (x0)), (1, .int (x1))] [] σ := by
  unfold J_X1_postGroup_31 at hm
  refine zx_aload_n C dX1_postGroup_31 0 rfl ?_
  refine zx_dup C dX1_postGroup_32 rfl ?_
  obtain ⟨k14, i15, hm⟩ := ckO_e hm
  refine zx_get (j := 17) C tC_1 k14 i15 ⟨by decide, Or.inl W_1_197⟩ dX1_postGroup_33 (.int (tI (σ) (x0) 17)) rfl ?_
  refine zx_iconst (v := 1) C dX1_postGroup_36 (by decide) ?_
  refine zx_iadd C dX1_postGroup_37 ?_
  refine zx_put (j := 17) (ρ := sI (σ) (x0) 17 ((tI (σ) (x0) 17) + (1))) C tC_1 k14 i15 ⟨by decide, Or.inl W_1_197⟩ rfl rfl rfl (sI_ok (fun _ => rfl)) dX1_postGroup_38 ?_
  refine zx_iconst (v := 0) C dX1_postGroup_41 (by decide) ?_
  refine zx_istore_n C [(2, .int (0)), (0, .ref (x0)), (1, .int (x1))] dX1_postGroup_42 rfl (by decide) rfl ?_
  exact zx_lv [1, 2, 0] [(0, .ref (x0)), (1, .int (x1)), (2, .int (0))] rfl (l_X1_postGroup_43 C htab hin  _ _ _ _ _ hm)
set_option maxRecDepth 100000 in
set_option maxHeartbeats 1000000 in
theorem c_X1_postGroup {l : Launch} {D : va_G} {aC : Nat → ClassId} {b0 fu : Nat} {a0 : Nat} {σ τ : tM} {v : (Int32) ⊕ Unit} (hm : m_X1_postGroup b0 fu a0 σ = some (v, τ)) : tMt l D aC b0 yX1_postGroup (Cond.code yX1_postGroup cX1_postGroup 3 (some .int)) 10 177 [.ref (a0)] σ (rxI "java/lang/IllegalStateException" v) τ := by
  unfold m_X1_postGroup at hm
  obtain ⟨hg, hm⟩ := grw_e hm
  refine tMt_of (n := 0) rfl (Nat.le_of_ble_eq_true rfl) hg ?_
  intro p e s m below meth c C htab hin
  refine zx_lv [0] [(0, .ref (a0))] rfl ?_
  refine zx_aload_n C dX1_postGroup_0 0 rfl ?_
  obtain ⟨k1, i2, hm⟩ := ckO_e hm
  obtain ⟨a3, h4, hm⟩ := osm_e hm
  refine zx_get (j := 1) C tC_1 k1 i2 ⟨by decide, Or.inl W_1_181⟩ dX1_postGroup_1 (.ref a3) (rf_s h4) ?_
  obtain ⟨k5, i6, hm⟩ := ckO_e hm
  obtain ⟨v7, ρ8, h9, hm⟩ := cll_e hm
  refine zx_callV (σ := σ) C [] tC_5 k5 i6 Y_X5_groupSize W_3_182 W_3_93 W_3_94 (c_X5_groupSize h9) (by decide) (by decide) rfl (Nat.le_of_ble_eq_true rfl) dX1_postGroup_4 rfl ?_
  refine zx_istore_n C [(1, .int (v7)), (0, .ref (a0))] dX1_postGroup_7 rfl (by decide) rfl ?_
  refine zx_iload_n C dX1_postGroup_8 0 rfl ?_
  refine zx_if_ne C 14 dX1_postGroup_9 (by decide) (fun c10 => ?_) (fun c10 => ?_)
  · replace hm := in_e hm c10
    refine zx_iload_n C dX1_postGroup_14 0 rfl ?_
    refine zx_aload_n C dX1_postGroup_15 1 rfl ?_
    obtain ⟨k11, i12, hm⟩ := ckO_e hm
    refine zx_get (j := 8) C tC_1 k11 i12 ⟨by decide, Or.inl W_1_188⟩ dX1_postGroup_16 (.int (tI (ρ8) (a0) 8)) rfl ?_
    refine zx_aload_n C dX1_postGroup_19 1 rfl ?_
    refine zx_get (j := 9) C tC_1 k11 i12 ⟨by decide, Or.inl W_1_189⟩ dX1_postGroup_20 (.int (tI (ρ8) (a0) 9)) rfl ?_
    refine zx_isub C dX1_postGroup_23 ?_
    refine zx_icmp_le C 31 dX1_postGroup_24 (by decide) (fun c13 => ?_) (fun c13 => ?_)
    · replace hm := ip_e hm c13
      exact zx_lv [1, 0] [(0, .ref (a0)), (1, .int (v7))] rfl (j_X1_postGroup_31 C htab hin    hm)
    · replace hm := in_e hm c13
      refine zx_aload_n C dX1_postGroup_27 1 rfl ?_
      rcases clx_e hm with ⟨v38, ρ39, h40, hm⟩ | ⟨ρ39, h40, hm⟩
      · refine zx_callV (σ := ρ8) C [] tC_1 k11 i12 Y_X1_checkpoint W_3_187 W_3_189 Wp_11 (c_X1_checkpoint h40) (by decide) (by decide) rfl (Nat.le_of_ble_eq_true rfl) dX1_postGroup_28 rfl ?_
        exact zx_lv [1, 0] [(0, .ref (a0)), (1, .int (v7))] rfl (j_X1_postGroup_31 C htab hin    hm)
      · cases hm
        exact zx_outV (σ := ρ8) C htab [] tC_1 k11 i12 Y_X1_checkpoint W_3_187 W_3_189 Wp_11 (c_X1_checkpoint h40) rfl (by decide) (by decide) rfl (Nat.le_of_ble_eq_true rfl) dX1_postGroup_28 rfl
  · replace hm := ip_e hm c10
    refine zx_iconst (v := 0) C dX1_postGroup_12 (by decide) ?_
    obtain ⟨rfl, rfl⟩ := ret_e hm
    exact zx_iret C rfl rfl rfl dX1_postGroup_13
abbrev cX2_loadNode : ByteArray := prog_4_method_3_code
def yX2_loadNode : MethodName := ⟨"SyncTree$Loader", "loadNode", "(I)V"⟩
theorem Y_X2_loadNode : tY yX2_loadNode cX2_loadNode 5 none 1 := ⟨W_6_160, W_1_6, ⟨by decide +kernel, by decide +kernel⟩, by decide +kernel⟩
theorem dX2_loadNode_0 : decode cX2_loadNode 0 = .ok (.iconst 0, 1) := by decide +kernel
theorem dX2_loadNode_1 : decode cX2_loadNode 1 = .ok (.istore_n 2, 1) := by decide +kernel
theorem dX2_loadNode_2 : decode cX2_loadNode 2 = .ok (.iload_n 2, 1) := by decide +kernel
theorem dX2_loadNode_3 : decode cX2_loadNode 3 = .ok (.bipush 8, 2) := by decide +kernel
theorem dX2_loadNode_5 : decode cX2_loadNode 5 = .ok (.if_icmp .ge 25, 3) := by decide +kernel
theorem dX2_loadNode_8 : decode cX2_loadNode 8 = .ok (.aload_n 0, 1) := by decide +kernel
theorem dX2_loadNode_9 : decode cX2_loadNode 9 = .ok (.iload_n 1, 1) := by decide +kernel
theorem dX2_loadNode_10 : decode cX2_loadNode 10 = .ok (.aload_n 0, 1) := by decide +kernel
theorem dX2_loadNode_11 : decode cX2_loadNode 11 = .ok (.getfield 19, 3) := by decide +kernel
theorem dX2_loadNode_14 : decode cX2_loadNode 14 = .ok (.iload_n 1, 1) := by decide +kernel
theorem dX2_loadNode_15 : decode cX2_loadNode 15 = .ok (.iconst 1, 1) := by decide +kernel
theorem dX2_loadNode_16 : decode cX2_loadNode 16 = .ok (.iload_n 2, 1) := by decide +kernel
theorem dX2_loadNode_17 : decode cX2_loadNode 17 = .ok (.iadd, 1) := by decide +kernel
theorem dX2_loadNode_18 : decode cX2_loadNode 18 = .ok (.invokevirtual 52, 3) := by decide +kernel
theorem dX2_loadNode_21 : decode cX2_loadNode 21 = .ok (.invokevirtual 56, 3) := by decide +kernel
theorem dX2_loadNode_24 : decode cX2_loadNode 24 = .ok (.iinc 2 1, 3) := by decide +kernel
theorem dX2_loadNode_27 : decode cX2_loadNode 27 = .ok (.goto (-25), 3) := by decide +kernel
theorem dX2_loadNode_30 : decode cX2_loadNode 30 = .ok (.aload_n 0, 1) := by decide +kernel
theorem dX2_loadNode_31 : decode cX2_loadNode 31 = .ok (.iload_n 1, 1) := by decide +kernel
theorem dX2_loadNode_32 : decode cX2_loadNode 32 = .ok (.aload_n 0, 1) := by decide +kernel
theorem dX2_loadNode_33 : decode cX2_loadNode 33 = .ok (.getfield 19, 3) := by decide +kernel
theorem dX2_loadNode_36 : decode cX2_loadNode 36 = .ok (.iload_n 1, 1) := by decide +kernel
theorem dX2_loadNode_37 : decode cX2_loadNode 37 = .ok (.bipush 9, 2) := by decide +kernel
theorem dX2_loadNode_39 : decode cX2_loadNode 39 = .ok (.invokevirtual 52, 3) := by decide +kernel
theorem dX2_loadNode_42 : decode cX2_loadNode 42 = .ok (.invokevirtual 60, 3) := by decide +kernel
theorem dX2_loadNode_45 : decode cX2_loadNode 45 = .ok (.aload_n 0, 1) := by decide +kernel
theorem dX2_loadNode_46 : decode cX2_loadNode 46 = .ok (.getfield 19, 3) := by decide +kernel
theorem dX2_loadNode_49 : decode cX2_loadNode 49 = .ok (.iload_n 1, 1) := by decide +kernel
theorem dX2_loadNode_50 : decode cX2_loadNode 50 = .ok (.bipush 10, 2) := by decide +kernel
theorem dX2_loadNode_52 : decode cX2_loadNode 52 = .ok (.invokevirtual 52, 3) := by decide +kernel
theorem dX2_loadNode_55 : decode cX2_loadNode 55 = .ok (.lstore_n 2, 1) := by decide +kernel
theorem dX2_loadNode_56 : decode cX2_loadNode 56 = .ok (.lload_n 2, 1) := by decide +kernel
theorem dX2_loadNode_57 : decode cX2_loadNode 57 = .ok (.lconst 0, 1) := by decide +kernel
theorem dX2_loadNode_58 : decode cX2_loadNode 58 = .ok (.lcmp, 1) := by decide +kernel
theorem dX2_loadNode_59 : decode cX2_loadNode 59 = .ok (.ifCond .eq 43, 3) := by decide +kernel
theorem dX2_loadNode_62 : decode cX2_loadNode 62 = .ok (.aload_n 0, 1) := by decide +kernel
theorem dX2_loadNode_63 : decode cX2_loadNode 63 = .ok (.iload_n 1, 1) := by decide +kernel
theorem dX2_loadNode_64 : decode cX2_loadNode 64 = .ok (.lload_n 2, 1) := by decide +kernel
theorem dX2_loadNode_65 : decode cX2_loadNode 65 = .ok (.invokevirtual 63, 3) := by decide +kernel
theorem dX2_loadNode_68 : decode cX2_loadNode 68 = .ok (.iconst 0, 1) := by decide +kernel
theorem dX2_loadNode_69 : decode cX2_loadNode 69 = .ok (.istore 4, 2) := by decide +kernel
theorem dX2_loadNode_71 : decode cX2_loadNode 71 = .ok (.iload 4, 2) := by decide +kernel
theorem dX2_loadNode_73 : decode cX2_loadNode 73 = .ok (.bipush 32, 2) := by decide +kernel
theorem dX2_loadNode_75 : decode cX2_loadNode 75 = .ok (.if_icmp .ge 27, 3) := by decide +kernel
theorem dX2_loadNode_78 : decode cX2_loadNode 78 = .ok (.aload_n 0, 1) := by decide +kernel
theorem dX2_loadNode_79 : decode cX2_loadNode 79 = .ok (.iload_n 1, 1) := by decide +kernel
theorem dX2_loadNode_80 : decode cX2_loadNode 80 = .ok (.aload_n 0, 1) := by decide +kernel
theorem dX2_loadNode_81 : decode cX2_loadNode 81 = .ok (.getfield 15, 3) := by decide +kernel
theorem dX2_loadNode_84 : decode cX2_loadNode 84 = .ok (.lload_n 2, 1) := by decide +kernel
theorem dX2_loadNode_85 : decode cX2_loadNode 85 = .ok (.invokestatic 66, 3) := by decide +kernel
theorem dX2_loadNode_88 : decode cX2_loadNode 88 = .ok (.iload 4, 2) := by decide +kernel
theorem dX2_loadNode_90 : decode cX2_loadNode 90 = .ok (.invokevirtual 70, 3) := by decide +kernel
theorem dX2_loadNode_93 : decode cX2_loadNode 93 = .ok (.invokevirtual 60, 3) := by decide +kernel
theorem dX2_loadNode_96 : decode cX2_loadNode 96 = .ok (.iinc 4 1, 3) := by decide +kernel
theorem dX2_loadNode_99 : decode cX2_loadNode 99 = .ok (.goto (-28), 3) := by decide +kernel
theorem dX2_loadNode_102 : decode cX2_loadNode 102 = .ok (.return_, 1) := by decide +kernel
set_option maxRecDepth 100000 in
set_option maxHeartbeats 1000000 in
theorem j_X2_loadNode_102 {p : Program} {l : Launch} {e : Env} {s : State} {m : MethodId} {args : Array Value} {below : List Frame} {meth : Method} {c : Code} {D : va_G} {aC : Nat → ClassId} {b0 fu : Nat} {σ0 τ : tM} {v : Unit}  (C : tCx p l s m args meth c yX2_loadNode.cls cX2_loadNode 5 none D aC b0 σ0) (htab : ∀ x ∈ c.exceptionTable.toList, False) (hin : meth.name = yX2_loadNode.name)   {σ : tM} (hm : J_X2_loadNode_102 b0 fu   σ = some (v, τ)) : tX p l e s m args below meth c 5 5 122 D aC b0 σ0 (.inl none) τ 102 [] [] σ := by
  unfold J_X2_loadNode_102 at hm
  obtain ⟨rfl, rfl⟩ := ret_e hm
  exact zx_vret C rfl rfl rfl dX2_loadNode_102
set_option maxRecDepth 100000 in
set_option maxHeartbeats 1000000 in
theorem l_X2_loadNode_71 {p : Program} {l : Launch} {e : Env} {s : State} {m : MethodId} {args : Array Value} {below : List Frame} {meth : Method} {c : Code} {D : va_G} {aC : Nat → ClassId} {b0 fu : Nat} {σ0 τ : tM} {v : Unit}  (C : tCx p l s m args meth c yX2_loadNode.cls cX2_loadNode 5 none D aC b0 σ0) (htab : ∀ x ∈ c.exceptionTable.toList, False) (hin : meth.name = yX2_loadNode.name)  : ∀ (n : Nat) (x0 : Nat) (x1 : Int32) (x2 : Int64) (x4 : Int32) (σ : tM), L_X2_loadNode_71 b0 fu  n x0 x1 x2 x4 σ = some (v, τ) → tX p l e s m args below meth c 5 5 122 D aC b0 σ0 (.inl none) τ 71 [(0, .ref (x0)), (1, .int (x1)), (2, .long (x2)), (4, .int (x4))] [] σ := by
  intro n
  induction n with
  | zero => intro x0 x1 x2 x4 σ hm; unfold L_X2_loadNode_71 at hm; cases hm
  | succ n ih =>
    intro x0 x1 x2 x4 σ hm
    unfold L_X2_loadNode_71 at hm
    obtain ⟨rc71, hrc⟩ : ∃ z, z = L_X2_loadNode_71 b0 fu  n := ⟨_, rfl⟩
    replace hm := ltb_e hm hrc
    rw [← hrc] at ih
    have hrc71 := ih
    clear ih hrc
    refine zx_iload C dX2_loadNode_71 3 rfl ?_
    refine zx_bipush (v := 32) C dX2_loadNode_73 (by decide) ?_
    refine zx_icmp_ge C 102 dX2_loadNode_75 (by decide) (fun c31 => ?_) (fun c31 => ?_)
    · replace hm := ip_e hm c31
      exact zx_lv [] [] rfl (j_X2_loadNode_102 C htab hin    hm)
    · replace hm := in_e hm c31
      refine zx_aload_n C dX2_loadNode_78 0 rfl ?_
      refine zx_iload_n C dX2_loadNode_79 1 rfl ?_
      refine zx_aload_n C dX2_loadNode_80 0 rfl ?_
      obtain ⟨k32, i33, hm⟩ := ckO_e hm
      obtain ⟨a34, h35, hm⟩ := osm_e hm
      refine zx_get (j := 1) C tC_2 k32 i33 ⟨by decide, Or.inl W_2_2⟩ dX2_loadNode_81 (.ref a34) (rf_s h35) ?_
      refine zx_lload_n C dX2_loadNode_84 2 rfl ?_
      obtain ⟨v36, ρ37, h38, hm⟩ := cll_e hm
      refine zx_callS (σ := σ) C [.long (x2)] Y_X8_cellOf W_6_170 W_4_118 (c_X8_cellOf h38) (by decide) (by decide) rfl (Nat.le_of_ble_eq_true rfl) dX2_loadNode_85 rfl ?_
      refine zx_iload C dX2_loadNode_88 3 rfl ?_
      obtain ⟨k39, i40, hm⟩ := ckO_e hm
      obtain ⟨v41, ρ42, h43, hm⟩ := cll_e hm
      refine zx_callV (σ := ρ37) C [.int (v36), .int (x4)] tC_5 k39 i40 Y_X5_word W_6_184 W_2_141 W_2_142 (c_X5_word h43) (by decide) (by decide) rfl (Nat.le_of_ble_eq_true rfl) dX2_loadNode_90 rfl ?_
      obtain ⟨k44, i45, hm⟩ := ckO_e hm
      obtain ⟨v46, ρ47, h48, hm⟩ := cll_e hm
      refine zx_callV (σ := ρ42) C [.int (x1), .long (v41)] tC_2 k44 i45 Y_X2_loadTable W_6_180 W_6_182 Wp_53 (c_X2_loadTable h48) (by decide) (by decide) rfl (Nat.le_of_ble_eq_true rfl) dX2_loadNode_93 rfl ?_
      obtain ⟨y49, hy49⟩ : ∃ z : Int32, z = (x4) + Int32.ofInt 1 := ⟨_, rfl⟩
      replace hm := ltb_e hm hy49
      refine zx_iinc C [(4, .int (y49)), (0, .ref (x0)), (1, .int (x1)), (2, .long (x2))] dX2_loadNode_96 3 rfl hy49.symm (by decide) rfl ?_
      refine zx_goto C 71 dX2_loadNode_99 (by decide) ?_
      exact zx_lv [1, 2, 3, 0] [(0, .ref (x0)), (1, .int (x1)), (2, .long (x2)), (4, .int (y49))] rfl (hrc71 _ _ _ _ _ hm)
set_option maxRecDepth 100000 in
set_option maxHeartbeats 1000000 in
theorem l_X2_loadNode_2 {p : Program} {l : Launch} {e : Env} {s : State} {m : MethodId} {args : Array Value} {below : List Frame} {meth : Method} {c : Code} {D : va_G} {aC : Nat → ClassId} {b0 fu : Nat} {σ0 τ : tM} {v : Unit}  (C : tCx p l s m args meth c yX2_loadNode.cls cX2_loadNode 5 none D aC b0 σ0) (htab : ∀ x ∈ c.exceptionTable.toList, False) (hin : meth.name = yX2_loadNode.name)  : ∀ (n : Nat) (x0 : Nat) (x1 : Int32) (x2 : Int32) (σ : tM), L_X2_loadNode_2 b0 fu  n x0 x1 x2 σ = some (v, τ) → tX p l e s m args below meth c 5 5 122 D aC b0 σ0 (.inl none) τ 2 [(0, .ref (x0)), (1, .int (x1)), (2, .int (x2))] [] σ := by
  intro n
  induction n with
  | zero => intro x0 x1 x2 σ hm; unfold L_X2_loadNode_2 at hm; cases hm
  | succ n ih =>
    intro x0 x1 x2 σ hm
    unfold L_X2_loadNode_2 at hm
    obtain ⟨rc2, hrc⟩ : ∃ z, z = L_X2_loadNode_2 b0 fu  n := ⟨_, rfl⟩
    replace hm := ltb_e hm hrc
    rw [← hrc] at ih
    have hrc2 := ih
    clear ih hrc
    refine zx_iload_n C dX2_loadNode_2 2 rfl ?_
    refine zx_bipush (v := 8) C dX2_loadNode_3 (by decide) ?_
    refine zx_icmp_ge C 30 dX2_loadNode_5 (by decide) (fun c1 => ?_) (fun c1 => ?_)
    · replace hm := ip_e hm c1
      refine zx_aload_n C dX2_loadNode_30 0 rfl ?_
      refine zx_iload_n C dX2_loadNode_31 1 rfl ?_
      refine zx_aload_n C dX2_loadNode_32 0 rfl ?_
      obtain ⟨k2, i3, hm⟩ := ckO_e hm
      obtain ⟨a4, h5, hm⟩ := osm_e hm
      refine zx_get (j := 2) C tC_2 k2 i3 ⟨by decide, Or.inl W_2_3⟩ dX2_loadNode_33 (.ref a4) (rf_s h5) ?_
      refine zx_iload_n C dX2_loadNode_36 1 rfl ?_
      refine zx_bipush (v := 9) C dX2_loadNode_37 (by decide) ?_
      obtain ⟨k6, i7, hm⟩ := ckO_e hm
      obtain ⟨v8, ρ9, h10, hm⟩ := cll_e hm
      refine zx_callV (σ := σ) C [.int (x1), .int (9)] tC_8 k6 i7 Y_X8_nodeWord W_6_161 W_3_84 W_3_85 (c_X8_nodeWord h10) (by decide) (by decide) rfl (Nat.le_of_ble_eq_true rfl) dX2_loadNode_39 rfl ?_
      obtain ⟨k11, i12, hm⟩ := ckO_e hm
      obtain ⟨v13, ρ14, h15, hm⟩ := cll_e hm
      refine zx_callV (σ := ρ9) C [.int (x1), .long (v8)] tC_2 k11 i12 Y_X2_loadTable W_6_180 W_6_182 Wp_53 (c_X2_loadTable h15) (by decide) (by decide) rfl (Nat.le_of_ble_eq_true rfl) dX2_loadNode_42 rfl ?_
      refine zx_aload_n C dX2_loadNode_45 0 rfl ?_
      obtain ⟨k16, i17, hm⟩ := ckO_e hm
      obtain ⟨a18, h19, hm⟩ := osm_e hm
      refine zx_get (j := 2) C tC_2 k16 i17 ⟨by decide, Or.inl W_2_3⟩ dX2_loadNode_46 (.ref a18) (rf_s h19) ?_
      refine zx_iload_n C dX2_loadNode_49 1 rfl ?_
      refine zx_bipush (v := 10) C dX2_loadNode_50 (by decide) ?_
      obtain ⟨k20, i21, hm⟩ := ckO_e hm
      obtain ⟨v22, ρ23, h24, hm⟩ := cll_e hm
      refine zx_callV (σ := ρ14) C [.int (x1), .int (10)] tC_8 k20 i21 Y_X8_nodeWord W_6_161 W_3_84 W_3_85 (c_X8_nodeWord h24) (by decide) (by decide) rfl (Nat.le_of_ble_eq_true rfl) dX2_loadNode_52 rfl ?_
      refine zx_lstore_n C [(2, .long (v22)), (0, .ref (x0)), (1, .int (x1))] dX2_loadNode_55 rfl (by decide) rfl ?_
      refine zx_lload_n C dX2_loadNode_56 0 rfl ?_
      refine zx_lconst (v := 0) C dX2_loadNode_57 (by decide) ?_
      refine zx_lcmp C dX2_loadNode_58 ?_
      refine zx_if_eq C 102 dX2_loadNode_59 (by decide) (fun c25 => ?_) (fun c25 => ?_)
      · replace hm := ip_e hm c25
        exact zx_lv [] [] rfl (j_X2_loadNode_102 C htab hin    hm)
      · replace hm := in_e hm c25
        refine zx_aload_n C dX2_loadNode_62 1 rfl ?_
        refine zx_iload_n C dX2_loadNode_63 2 rfl ?_
        refine zx_lload_n C dX2_loadNode_64 0 rfl ?_
        obtain ⟨k26, i27, hm⟩ := ckO_e hm
        obtain ⟨v28, ρ29, h30, hm⟩ := cll_e hm
        refine zx_callV (σ := ρ23) C [.int (x1), .long (v22)] tC_2 k26 i27 Y_X2_loadMeta W_6_166 W_6_168 Wp_52 (c_X2_loadMeta h30) (by decide) (by decide) rfl (Nat.le_of_ble_eq_true rfl) dX2_loadNode_65 rfl ?_
        refine zx_iconst (v := 0) C dX2_loadNode_68 (by decide) ?_
        refine zx_istore C [(4, .int (0)), (2, .long (v22)), (0, .ref (x0)), (1, .int (x1))] dX2_loadNode_69 (by decide) rfl ?_
        exact zx_lv [2, 3, 1, 0] [(0, .ref (x0)), (1, .int (x1)), (2, .long (v22)), (4, .int (0))] rfl (l_X2_loadNode_71 C htab hin  _ _ _ _ _ _ hm)
    · replace hm := in_e hm c1
      refine zx_aload_n C dX2_loadNode_8 0 rfl ?_
      refine zx_iload_n C dX2_loadNode_9 1 rfl ?_
      refine zx_aload_n C dX2_loadNode_10 0 rfl ?_
      obtain ⟨k50, i51, hm⟩ := ckO_e hm
      obtain ⟨a52, h53, hm⟩ := osm_e hm
      refine zx_get (j := 2) C tC_2 k50 i51 ⟨by decide, Or.inl W_2_3⟩ dX2_loadNode_11 (.ref a52) (rf_s h53) ?_
      refine zx_iload_n C dX2_loadNode_14 1 rfl ?_
      refine zx_iconst (v := 1) C dX2_loadNode_15 (by decide) ?_
      refine zx_iload_n C dX2_loadNode_16 2 rfl ?_
      refine zx_iadd C dX2_loadNode_17 ?_
      obtain ⟨k54, i55, hm⟩ := ckO_e hm
      obtain ⟨v56, ρ57, h58, hm⟩ := cll_e hm
      refine zx_callV (σ := σ) C [.int (x1), .int ((1) + (x2))] tC_8 k54 i55 Y_X8_nodeWord W_6_161 W_3_84 W_3_85 (c_X8_nodeWord h58) (by decide) (by decide) rfl (Nat.le_of_ble_eq_true rfl) dX2_loadNode_18 rfl ?_
      obtain ⟨k59, i60, hm⟩ := ckO_e hm
      obtain ⟨v61, ρ62, h63, hm⟩ := cll_e hm
      refine zx_callV (σ := ρ57) C [.int (x1), .long (v56)] tC_2 k59 i60 Y_X2_loadBlock W_6_162 W_6_164 Wp_51 (c_X2_loadBlock h63) (by decide) (by decide) rfl (Nat.le_of_ble_eq_true rfl) dX2_loadNode_21 rfl ?_
      obtain ⟨y64, hy64⟩ : ∃ z : Int32, z = (x2) + Int32.ofInt 1 := ⟨_, rfl⟩
      replace hm := ltb_e hm hy64
      refine zx_iinc C [(2, .int (y64)), (0, .ref (x0)), (1, .int (x1))] dX2_loadNode_24 2 rfl hy64.symm (by decide) rfl ?_
      refine zx_goto C 2 dX2_loadNode_27 (by decide) ?_
      exact zx_lv [1, 2, 0] [(0, .ref (x0)), (1, .int (x1)), (2, .int (y64))] rfl (hrc2 _ _ _ _ hm)
set_option maxRecDepth 100000 in
set_option maxHeartbeats 1000000 in
theorem c_X2_loadNode {l : Launch} {D : va_G} {aC : Nat → ClassId} {b0 fu : Nat} {a0 : Nat} {p0 : Int32} {σ τ : tM} {v : Unit} (hm : m_X2_loadNode b0 fu a0 p0 σ = some (v, τ)) : tMt l D aC b0 yX2_loadNode (Cond.code yX2_loadNode cX2_loadNode 5 none) 5 122 [.ref (a0), .int (p0)] σ (.inl none) τ := by
  unfold m_X2_loadNode at hm
  obtain ⟨hg, hm⟩ := grw_e hm
  refine tMt_of (n := 0) rfl (Nat.le_of_ble_eq_true rfl) hg ?_
  intro p e s m below meth c C htab hin
  refine zx_lv [0, 1] [(0, .ref (a0)), (1, .int (p0))] rfl ?_
  refine zx_iconst (v := 0) C dX2_loadNode_0 (by decide) ?_
  refine zx_istore_n C [(2, .int (0)), (0, .ref (a0)), (1, .int (p0))] dX2_loadNode_1 rfl (by decide) rfl ?_
  exact zx_lv [1, 2, 0] [(0, .ref (a0)), (1, .int (p0)), (2, .int (0))] rfl (l_X2_loadNode_2 C htab hin  _ _ _ _ _ hm)
