abbrev cX10_fdatasync : ByteArray := prog_1_method_35_code
def yX10_fdatasync : MethodName := ⟨"SyncTree", "fdatasync", "(I)I"⟩
theorem Y_X10_fdatasync : tY yX10_fdatasync cX10_fdatasync 4 (some .int) 1 := ⟨W_6_68, W_1_1, ⟨by decide +kernel, by decide +kernel⟩, by decide +kernel⟩
theorem dX10_fdatasync_0 : decode cX10_fdatasync 0 = .ok (.aload_n 0, 1) := by decide +kernel
theorem dX10_fdatasync_1 : decode cX10_fdatasync 1 = .ok (.getfield 12, 3) := by decide +kernel
theorem dX10_fdatasync_4 : decode cX10_fdatasync 4 = .ok (.invokevirtual 221, 3) := by decide +kernel
theorem dX10_fdatasync_7 : decode cX10_fdatasync 7 = .ok (.aload_n 0, 1) := by decide +kernel
theorem dX10_fdatasync_8 : decode cX10_fdatasync 8 = .ok (.iload_n 1, 1) := by decide +kernel
theorem dX10_fdatasync_9 : decode cX10_fdatasync 9 = .ok (.invokevirtual 224, 3) := by decide +kernel
theorem dX10_fdatasync_12 : decode cX10_fdatasync 12 = .ok (.istore_n 2, 1) := by decide +kernel
theorem dX10_fdatasync_13 : decode cX10_fdatasync 13 = .ok (.iload_n 2, 1) := by decide +kernel
theorem dX10_fdatasync_14 : decode cX10_fdatasync 14 = .ok (.ifCond .ge 6, 3) := by decide +kernel
theorem dX10_fdatasync_17 : decode cX10_fdatasync 17 = .ok (.bipush (-9), 2) := by decide +kernel
theorem dX10_fdatasync_19 : decode cX10_fdatasync 19 = .ok (.ireturn, 1) := by decide +kernel
theorem dX10_fdatasync_20 : decode cX10_fdatasync 20 = .ok (.aload_n 0, 1) := by decide +kernel
theorem dX10_fdatasync_21 : decode cX10_fdatasync 21 = .ok (.iload_n 2, 1) := by decide +kernel
theorem dX10_fdatasync_22 : decode cX10_fdatasync 22 = .ok (.ldc_w 298, 3) := by decide +kernel
theorem dX10_fdatasync_25 : decode cX10_fdatasync 25 = .ok (.invokevirtual 299, 3) := by decide +kernel
theorem dX10_fdatasync_28 : decode cX10_fdatasync 28 = .ok (.istore_n 3, 1) := by decide +kernel
theorem dX10_fdatasync_29 : decode cX10_fdatasync 29 = .ok (.aload_n 0, 1) := by decide +kernel
theorem dX10_fdatasync_30 : decode cX10_fdatasync 30 = .ok (.getfield 28, 3) := by decide +kernel
theorem dX10_fdatasync_33 : decode cX10_fdatasync 33 = .ok (.iload_n 2, 1) := by decide +kernel
theorem dX10_fdatasync_34 : decode cX10_fdatasync 34 = .ok (.invokevirtual 308, 3) := by decide +kernel
theorem dX10_fdatasync_37 : decode cX10_fdatasync 37 = .ok (.ifCond .eq 11, 3) := by decide +kernel
theorem dX10_fdatasync_40 : decode cX10_fdatasync 40 = .ok (.aload_n 0, 1) := by decide +kernel
theorem dX10_fdatasync_41 : decode cX10_fdatasync 41 = .ok (.getfield 37, 3) := by decide +kernel
theorem dX10_fdatasync_44 : decode cX10_fdatasync 44 = .ok (.invokevirtual 302, 3) := by decide +kernel
theorem dX10_fdatasync_47 : decode cX10_fdatasync 47 = .ok (.pop, 1) := by decide +kernel
theorem dX10_fdatasync_48 : decode cX10_fdatasync 48 = .ok (.aload_n 0, 1) := by decide +kernel
theorem dX10_fdatasync_49 : decode cX10_fdatasync 49 = .ok (.getfield 37, 3) := by decide +kernel
theorem dX10_fdatasync_52 : decode cX10_fdatasync 52 = .ok (.invokevirtual 305, 3) := by decide +kernel
theorem dX10_fdatasync_55 : decode cX10_fdatasync 55 = .ok (.iload_n 3, 1) := by decide +kernel
theorem dX10_fdatasync_56 : decode cX10_fdatasync 56 = .ok (.ireturn, 1) := by decide +kernel
def J_X10_fdatasync_48 (b0 fu : Nat)  (x0 : Nat) (x3 : Int32) (σ : tM) : Option (((Int32) ⊕ Unit) × tM) := ckO b0 (σ) (x0) 10 (osm (tA (σ) (x0) 3) (fun a33 => ckO b0 (σ) (a33) 1 (clx (m_X1_flush b0 fu (a33) (σ)) (fun v37 ρ38 => some (.inl (x3), ρ38)))))
def m_X10_fdatasync (b0 fu : Nat) (a0 : Nat) (p0 : Int32) (σ : tM) : Option (((Int32) ⊕ Unit) × tM) := grw σ (ckO b0 (σ) (a0) 10 (osm (tA (σ) (a0) 0) (fun a3 => ckO b0 (σ) (a3) 0 (clx (m_X0_demandPower b0 fu (a3) (σ)) (fun v7 ρ8 => ckO b0 (ρ8) (a0) 10 (cll (m_X10_fileOf b0 fu (a0) (p0) (ρ8)) (fun v12 ρ13 => if (0) ≤ (v12) then ckO b0 (ρ13) (a0) 10 (clx (m_X10_writeDirty b0 fu (a0) (v12) (1000000) (ρ13)) (fun v18 ρ19 => ckO b0 (ρ19) (a0) 10 (osm (tA (ρ19) (a0) 2) (fun a23 => ckO b0 (ρ19) (a23) 8 (cll (m_X8_isChanged b0 fu (a23) (v12) (ρ19)) (fun v27 ρ28 => if (v27) = (0) then J_X10_fdatasync_48 b0 fu   (a0) (v18) (ρ28) else ckO b0 (ρ28) (a0) 10 (osm (tA (ρ28) (a0) 3) (fun a43 => ckO b0 (ρ28) (a43) 1 (clx (m_X1_postGroup b0 fu (a43) (ρ28)) (fun v47 ρ48 => J_X10_fdatasync_48 b0 fu   (a0) (v18) (ρ48))))))))))) else some (.inl ((-9)), ρ13))))))))
set_option maxRecDepth 100000 in
set_option maxHeartbeats 1000000 in
theorem j_X10_fdatasync_48 {p : Program} {l : Launch} {e : Env} {s : State} {m : MethodId} {args : Array Value} {below : List Frame} {meth : Method} {c : Code} {D : va_G} {aC : Nat → ClassId} {b0 fu : Nat} {σ0 τ : tM} {v : (Int32) ⊕ Unit}  (C : tCx p l s m args meth c yX10_fdatasync.cls cX10_fdatasync 4 (some .int) D aC b0 σ0) (htab : ∀ x ∈ c.exceptionTable.toList, False) (hin : meth.name = yX10_fdatasync.name)  {x0 : Nat} {x3 : Int32} {σ : tM} (hm : J_X10_fdatasync_48 b0 fu  x0 x3 σ = some (v, τ)) : tX p l e s m args below meth c 4 11 199 D aC b0 σ0 (rxI "java/lang/IllegalStateException" v) τ 48 [(0, .ref (x0)), (3, .int (x3))] [] σ := by
  unfold J_X10_fdatasync_48 at hm
  refine zx_aload_n C dX10_fdatasync_48 0 rfl ?_
  obtain ⟨k31, i32, hm⟩ := ckO_e hm
  obtain ⟨a33, h34, hm⟩ := osm_e hm
  refine zx_get (j := 3) C tC_10 k31 i32 ⟨by decide, Or.inl W_2_216⟩ dX10_fdatasync_49 (.ref a33) (rf_s h34) ?_
  obtain ⟨k35, i36, hm⟩ := ckO_e hm
  rcases clx_e hm with ⟨v37, ρ38, h39, hm⟩ | ⟨ρ38, h39, hm⟩
  · refine zx_callV (σ := σ) C [] tC_1 k35 i36 Y_X1_flush W_6_61 W_3_192 W_3_193 (c_X1_flush h39) (by decide) (by decide) rfl (Nat.le_of_ble_eq_true rfl) dX10_fdatasync_52 rfl ?_
    refine zx_iload_n C dX10_fdatasync_55 1 rfl ?_
    obtain ⟨rfl, rfl⟩ := ret_e hm
    exact zx_iret C rfl rfl rfl dX10_fdatasync_56
  · cases hm
    exact zx_outV (σ := σ) C htab [] tC_1 k35 i36 Y_X1_flush W_6_61 W_3_192 W_3_193 (c_X1_flush h39) rfl (by decide) (by decide) rfl (Nat.le_of_ble_eq_true rfl) dX10_fdatasync_52 rfl
set_option maxRecDepth 100000 in
set_option maxHeartbeats 1000000 in
theorem c_X10_fdatasync {l : Launch} {D : va_G} {aC : Nat → ClassId} {b0 fu : Nat} {a0 : Nat} {p0 : Int32} {σ τ : tM} {v : (Int32) ⊕ Unit} (hm : m_X10_fdatasync b0 fu a0 p0 σ = some (v, τ)) : tMt l D aC b0 yX10_fdatasync (Cond.code yX10_fdatasync cX10_fdatasync 4 (some .int)) 11 199 [.ref (a0), .int (p0)] σ (rxI "java/lang/IllegalStateException" v) τ := by
  unfold m_X10_fdatasync at hm
  obtain ⟨hg, hm⟩ := grw_e hm
  refine tMt_of (n := 0) rfl (Nat.le_of_ble_eq_true rfl) hg ?_
  intro p e s m below meth c C htab hin
  refine zx_lv [0, 1] [(0, .ref (a0)), (1, .int (p0))] rfl ?_
  refine zx_aload_n C dX10_fdatasync_0 0 rfl ?_
  obtain ⟨k1, i2, hm⟩ := ckO_e hm
  obtain ⟨a3, h4, hm⟩ := osm_e hm
  refine zx_get (j := 0) C tC_10 k1 i2 ⟨by decide, Or.inl W_2_213⟩ dX10_fdatasync_1 (.ref a3) (rf_s h4) ?_
  obtain ⟨k5, i6, hm⟩ := ckO_e hm
  rcases clx_e hm with ⟨v7, ρ8, h9, hm⟩ | ⟨ρ8, h9, hm⟩
  · refine zx_callV (σ := σ) C [] tC_0 k5 i6 Y_X0_demandPower W_5_130 W_3_113 W_3_114 (c_X0_demandPower h9) (by decide) (by decide) rfl (Nat.le_of_ble_eq_true rfl) dX10_fdatasync_4 rfl ?_
    refine zx_aload_n C dX10_fdatasync_7 0 rfl ?_
    refine zx_iload_n C dX10_fdatasync_8 1 rfl ?_
    obtain ⟨k10, i11, hm⟩ := ckO_e hm
    obtain ⟨v12, ρ13, h14, hm⟩ := cll_e hm
    refine zx_callV (σ := ρ8) C [.int (p0)] tC_10 k10 i11 Y_X10_fileOf W_5_138 W_5_140 Wp_41 (c_X10_fileOf h14) (by decide) (by decide) rfl (Nat.le_of_ble_eq_true rfl) dX10_fdatasync_9 rfl ?_
    refine zx_istore_n C [(2, .int (v12)), (0, .ref (a0)), (1, .int (p0))] dX10_fdatasync_12 rfl (by decide) rfl ?_
    refine zx_iload_n C dX10_fdatasync_13 0 rfl ?_
    refine zx_if_ge C 20 dX10_fdatasync_14 (by decide) (fun c15 => ?_) (fun c15 => ?_)
    · replace hm := ip_e hm c15
      refine zx_aload_n C dX10_fdatasync_20 1 rfl ?_
      refine zx_iload_n C dX10_fdatasync_21 0 rfl ?_
      refine zx_ldcw (v := 1000000) C W_6_35 dX10_fdatasync_22 ?_
      obtain ⟨k16, i17, hm⟩ := ckO_e hm
      rcases clx_e hm with ⟨v18, ρ19, h20, hm⟩ | ⟨ρ19, h20, hm⟩
      · refine zx_callV (σ := ρ13) C [.int (v12), .int (1000000)] tC_10 k16 i17 Y_X10_writeDirty W_6_36 W_6_38 Wp_45 (c_X10_writeDirty h20) (by decide) (by decide) rfl (Nat.le_of_ble_eq_true rfl) dX10_fdatasync_25 rfl ?_
        refine zx_istore_n C [(3, .int (v18)), (2, .int (v12)), (0, .ref (a0)), (1, .int (p0))] dX10_fdatasync_28 rfl (by decide) rfl ?_
        refine zx_aload_n C dX10_fdatasync_29 2 rfl ?_
        obtain ⟨k21, i22, hm⟩ := ckO_e hm
        obtain ⟨a23, h24, hm⟩ := osm_e hm
        refine zx_get (j := 2) C tC_10 k21 i22 ⟨by decide, Or.inl W_2_215⟩ dX10_fdatasync_30 (.ref a23) (rf_s h24) ?_
        refine zx_iload_n C dX10_fdatasync_33 1 rfl ?_
        obtain ⟨k25, i26, hm⟩ := ckO_e hm
        obtain ⟨v27, ρ28, h29, hm⟩ := cll_e hm
        refine zx_callV (σ := ρ19) C [.int (v12)] tC_8 k25 i26 Y_X8_isChanged W_6_69 W_6_70 W_6_71 (c_X8_isChanged h29) (by decide) (by decide) rfl (Nat.le_of_ble_eq_true rfl) dX10_fdatasync_34 rfl ?_
        refine zx_if_eq C 48 dX10_fdatasync_37 (by decide) (fun c30 => ?_) (fun c30 => ?_)
        · replace hm := ip_e hm c30
          exact zx_lv [2, 0] [(0, .ref (a0)), (3, .int (v18))] rfl (j_X10_fdatasync_48 C htab hin    hm)
        · replace hm := in_e hm c30
          refine zx_aload_n C dX10_fdatasync_40 2 rfl ?_
          obtain ⟨k41, i42, hm⟩ := ckO_e hm
          obtain ⟨a43, h44, hm⟩ := osm_e hm
          refine zx_get (j := 3) C tC_10 k41 i42 ⟨by decide, Or.inl W_2_216⟩ dX10_fdatasync_41 (.ref a43) (rf_s h44) ?_
          obtain ⟨k45, i46, hm⟩ := ckO_e hm
          rcases clx_e hm with ⟨v47, ρ48, h49, hm⟩ | ⟨ρ48, h49, hm⟩
          · refine zx_callV (σ := ρ28) C [] tC_1 k45 i46 Y_X1_postGroup W_6_60 W_3_184 W_3_185 (c_X1_postGroup h49) (by decide) (by decide) rfl (Nat.le_of_ble_eq_true rfl) dX10_fdatasync_44 rfl ?_
            refine zx_pop C dX10_fdatasync_47 rfl ?_
            exact zx_lv [2, 0] [(0, .ref (a0)), (3, .int (v18))] rfl (j_X10_fdatasync_48 C htab hin    hm)
          · cases hm
            exact zx_outV (σ := ρ28) C htab [] tC_1 k45 i46 Y_X1_postGroup W_6_60 W_3_184 W_3_185 (c_X1_postGroup h49) rfl (by decide) (by decide) rfl (Nat.le_of_ble_eq_true rfl) dX10_fdatasync_44 rfl
      · cases hm
        exact zx_outV (σ := ρ13) C htab [.int (v12), .int (1000000)] tC_10 k16 i17 Y_X10_writeDirty W_6_36 W_6_38 Wp_45 (c_X10_writeDirty h20) rfl (by decide) (by decide) rfl (Nat.le_of_ble_eq_true rfl) dX10_fdatasync_25 rfl
    · replace hm := in_e hm c15
      refine zx_bipush (v := (-9)) C dX10_fdatasync_17 (by decide) ?_
      obtain ⟨rfl, rfl⟩ := ret_e hm
      exact zx_iret C rfl rfl rfl dX10_fdatasync_19
  · cases hm
    exact zx_outV (σ := σ) C htab [] tC_0 k5 i6 Y_X0_demandPower W_5_130 W_3_113 W_3_114 (c_X0_demandPower h9) rfl (by decide) (by decide) rfl (Nat.le_of_ble_eq_true rfl) dX10_fdatasync_4 rfl
abbrev cX10_sync : ByteArray := prog_1_method_36_code
def yX10_sync : MethodName := ⟨"SyncTree", "sync", "()I"⟩
theorem Y_X10_sync : tY yX10_sync cX10_sync 2 (some .int) 0 := ⟨W_6_79, W_1_1, ⟨by decide +kernel, by decide +kernel⟩, by decide +kernel⟩
theorem dX10_sync_0 : decode cX10_sync 0 = .ok (.aload_n 0, 1) := by decide +kernel
theorem dX10_sync_1 : decode cX10_sync 1 = .ok (.getfield 12, 3) := by decide +kernel
theorem dX10_sync_4 : decode cX10_sync 4 = .ok (.invokevirtual 221, 3) := by decide +kernel
theorem dX10_sync_7 : decode cX10_sync 7 = .ok (.aload_n 0, 1) := by decide +kernel
theorem dX10_sync_8 : decode cX10_sync 8 = .ok (.iconst (-1), 1) := by decide +kernel
theorem dX10_sync_9 : decode cX10_sync 9 = .ok (.ldc_w 298, 3) := by decide +kernel
theorem dX10_sync_12 : decode cX10_sync 12 = .ok (.invokevirtual 299, 3) := by decide +kernel
theorem dX10_sync_15 : decode cX10_sync 15 = .ok (.istore_n 1, 1) := by decide +kernel
theorem dX10_sync_16 : decode cX10_sync 16 = .ok (.aload_n 0, 1) := by decide +kernel
theorem dX10_sync_17 : decode cX10_sync 17 = .ok (.getfield 37, 3) := by decide +kernel
theorem dX10_sync_20 : decode cX10_sync 20 = .ok (.invokevirtual 302, 3) := by decide +kernel
theorem dX10_sync_23 : decode cX10_sync 23 = .ok (.pop, 1) := by decide +kernel
theorem dX10_sync_24 : decode cX10_sync 24 = .ok (.aload_n 0, 1) := by decide +kernel
theorem dX10_sync_25 : decode cX10_sync 25 = .ok (.getfield 37, 3) := by decide +kernel
theorem dX10_sync_28 : decode cX10_sync 28 = .ok (.invokevirtual 305, 3) := by decide +kernel
theorem dX10_sync_31 : decode cX10_sync 31 = .ok (.iload_n 1, 1) := by decide +kernel
theorem dX10_sync_32 : decode cX10_sync 32 = .ok (.ireturn, 1) := by decide +kernel
def m_X10_sync (b0 fu : Nat) (a0 : Nat) (σ : tM) : Option (((Int32) ⊕ Unit) × tM) := grw σ (ckO b0 (σ) (a0) 10 (osm (tA (σ) (a0) 0) (fun a3 => ckO b0 (σ) (a3) 0 (clx (m_X0_demandPower b0 fu (a3) (σ)) (fun v7 ρ8 => ckO b0 (ρ8) (a0) 10 (clx (m_X10_writeDirty b0 fu (a0) ((-1)) (1000000) (ρ8)) (fun v12 ρ13 => ckO b0 (ρ13) (a0) 10 (osm (tA (ρ13) (a0) 3) (fun a17 => ckO b0 (ρ13) (a17) 1 (clx (m_X1_postGroup b0 fu (a17) (ρ13)) (fun v21 ρ22 => ckO b0 (ρ22) (a0) 10 (osm (tA (ρ22) (a0) 3) (fun a26 => ckO b0 (ρ22) (a26) 1 (clx (m_X1_flush b0 fu (a26) (ρ22)) (fun v30 ρ31 => some (.inl (v12), ρ31))))))))))))))))
set_option maxRecDepth 100000 in
set_option maxHeartbeats 1000000 in
theorem c_X10_sync {l : Launch} {D : va_G} {aC : Nat → ClassId} {b0 fu : Nat} {a0 : Nat} {σ τ : tM} {v : (Int32) ⊕ Unit} (hm : m_X10_sync b0 fu a0 σ = some (v, τ)) : tMt l D aC b0 yX10_sync (Cond.code yX10_sync cX10_sync 2 (some .int)) 11 199 [.ref (a0)] σ (rxI "java/lang/IllegalStateException" v) τ := by
  unfold m_X10_sync at hm
  obtain ⟨hg, hm⟩ := grw_e hm
  refine tMt_of (n := 0) rfl (Nat.le_of_ble_eq_true rfl) hg ?_
  intro p e s m below meth c C htab hin
  refine zx_lv [0] [(0, .ref (a0))] rfl ?_
  refine zx_aload_n C dX10_sync_0 0 rfl ?_
  obtain ⟨k1, i2, hm⟩ := ckO_e hm
  obtain ⟨a3, h4, hm⟩ := osm_e hm
  refine zx_get (j := 0) C tC_10 k1 i2 ⟨by decide, Or.inl W_2_213⟩ dX10_sync_1 (.ref a3) (rf_s h4) ?_
  obtain ⟨k5, i6, hm⟩ := ckO_e hm
  rcases clx_e hm with ⟨v7, ρ8, h9, hm⟩ | ⟨ρ8, h9, hm⟩
  · refine zx_callV (σ := σ) C [] tC_0 k5 i6 Y_X0_demandPower W_5_130 W_3_113 W_3_114 (c_X0_demandPower h9) (by decide) (by decide) rfl (Nat.le_of_ble_eq_true rfl) dX10_sync_4 rfl ?_
    refine zx_aload_n C dX10_sync_7 0 rfl ?_
    refine zx_iconst (v := (-1)) C dX10_sync_8 (by decide) ?_
    refine zx_ldcw (v := 1000000) C W_6_35 dX10_sync_9 ?_
    obtain ⟨k10, i11, hm⟩ := ckO_e hm
    rcases clx_e hm with ⟨v12, ρ13, h14, hm⟩ | ⟨ρ13, h14, hm⟩
    · refine zx_callV (σ := ρ8) C [.int ((-1)), .int (1000000)] tC_10 k10 i11 Y_X10_writeDirty W_6_36 W_6_38 Wp_45 (c_X10_writeDirty h14) (by decide) (by decide) rfl (Nat.le_of_ble_eq_true rfl) dX10_sync_12 rfl ?_
      refine zx_istore_n C [(1, .int (v12)), (0, .ref (a0))] dX10_sync_15 rfl (by decide) rfl ?_
      refine zx_aload_n C dX10_sync_16 1 rfl ?_
      obtain ⟨k15, i16, hm⟩ := ckO_e hm
      obtain ⟨a17, h18, hm⟩ := osm_e hm
      refine zx_get (j := 3) C tC_10 k15 i16 ⟨by decide, Or.inl W_2_216⟩ dX10_sync_17 (.ref a17) (rf_s h18) ?_
      obtain ⟨k19, i20, hm⟩ := ckO_e hm
      rcases clx_e hm with ⟨v21, ρ22, h23, hm⟩ | ⟨ρ22, h23, hm⟩
      · refine zx_callV (σ := ρ13) C [] tC_1 k19 i20 Y_X1_postGroup W_6_60 W_3_184 W_3_185 (c_X1_postGroup h23) (by decide) (by decide) rfl (Nat.le_of_ble_eq_true rfl) dX10_sync_20 rfl ?_
        refine zx_pop C dX10_sync_23 rfl ?_
        refine zx_aload_n C dX10_sync_24 1 rfl ?_
        obtain ⟨k24, i25, hm⟩ := ckO_e hm
        obtain ⟨a26, h27, hm⟩ := osm_e hm
        refine zx_get (j := 3) C tC_10 k24 i25 ⟨by decide, Or.inl W_2_216⟩ dX10_sync_25 (.ref a26) (rf_s h27) ?_
        obtain ⟨k28, i29, hm⟩ := ckO_e hm
        rcases clx_e hm with ⟨v30, ρ31, h32, hm⟩ | ⟨ρ31, h32, hm⟩
        · refine zx_callV (σ := ρ22) C [] tC_1 k28 i29 Y_X1_flush W_6_61 W_3_192 W_3_193 (c_X1_flush h32) (by decide) (by decide) rfl (Nat.le_of_ble_eq_true rfl) dX10_sync_28 rfl ?_
          refine zx_iload_n C dX10_sync_31 0 rfl ?_
          obtain ⟨rfl, rfl⟩ := ret_e hm
          exact zx_iret C rfl rfl rfl dX10_sync_32
        · cases hm
          exact zx_outV (σ := ρ22) C htab [] tC_1 k28 i29 Y_X1_flush W_6_61 W_3_192 W_3_193 (c_X1_flush h32) rfl (by decide) (by decide) rfl (Nat.le_of_ble_eq_true rfl) dX10_sync_28 rfl
      · cases hm
        exact zx_outV (σ := ρ13) C htab [] tC_1 k19 i20 Y_X1_postGroup W_6_60 W_3_184 W_3_185 (c_X1_postGroup h23) rfl (by decide) (by decide) rfl (Nat.le_of_ble_eq_true rfl) dX10_sync_20 rfl
    · cases hm
      exact zx_outV (σ := ρ8) C htab [.int ((-1)), .int (1000000)] tC_10 k10 i11 Y_X10_writeDirty W_6_36 W_6_38 Wp_45 (c_X10_writeDirty h14) rfl (by decide) (by decide) rfl (Nat.le_of_ble_eq_true rfl) dX10_sync_12 rfl
  · cases hm
    exact zx_outV (σ := σ) C htab [] tC_0 k5 i6 Y_X0_demandPower W_5_130 W_3_113 W_3_114 (c_X0_demandPower h9) rfl (by decide) (by decide) rfl (Nat.le_of_ble_eq_true rfl) dX10_sync_4 rfl
abbrev cX10_post : ByteArray := prog_1_method_38_code
def yX10_post : MethodName := ⟨"SyncTree", "post", "()I"⟩
theorem Y_X10_post : tY yX10_post cX10_post 1 (some .int) 0 := ⟨W_6_86, W_1_1, ⟨by decide +kernel, by decide +kernel⟩, by decide +kernel⟩
theorem dX10_post_0 : decode cX10_post 0 = .ok (.aload_n 0, 1) := by decide +kernel
theorem dX10_post_1 : decode cX10_post 1 = .ok (.getfield 12, 3) := by decide +kernel
theorem dX10_post_4 : decode cX10_post 4 = .ok (.invokevirtual 221, 3) := by decide +kernel
theorem dX10_post_7 : decode cX10_post 7 = .ok (.aload_n 0, 1) := by decide +kernel
theorem dX10_post_8 : decode cX10_post 8 = .ok (.getfield 37, 3) := by decide +kernel
theorem dX10_post_11 : decode cX10_post 11 = .ok (.invokevirtual 302, 3) := by decide +kernel
theorem dX10_post_14 : decode cX10_post 14 = .ok (.ireturn, 1) := by decide +kernel
def m_X10_post (b0 fu : Nat) (a0 : Nat) (σ : tM) : Option (((Int32) ⊕ Unit) × tM) := grw σ (ckO b0 (σ) (a0) 10 (osm (tA (σ) (a0) 0) (fun a3 => ckO b0 (σ) (a3) 0 (clx (m_X0_demandPower b0 fu (a3) (σ)) (fun v7 ρ8 => ckO b0 (ρ8) (a0) 10 (osm (tA (ρ8) (a0) 3) (fun a12 => ckO b0 (ρ8) (a12) 1 (clx (m_X1_postGroup b0 fu (a12) (ρ8)) (fun v16 ρ17 => some (.inl (v16), ρ17))))))))))
set_option maxRecDepth 100000 in
set_option maxHeartbeats 1000000 in
theorem c_X10_post {l : Launch} {D : va_G} {aC : Nat → ClassId} {b0 fu : Nat} {a0 : Nat} {σ τ : tM} {v : (Int32) ⊕ Unit} (hm : m_X10_post b0 fu a0 σ = some (v, τ)) : tMt l D aC b0 yX10_post (Cond.code yX10_post cX10_post 1 (some .int)) 11 199 [.ref (a0)] σ (rxI "java/lang/IllegalStateException" v) τ := by
  unfold m_X10_post at hm
  obtain ⟨hg, hm⟩ := grw_e hm
  refine tMt_of (n := 0) rfl (Nat.le_of_ble_eq_true rfl) hg ?_
  intro p e s m below meth c C htab hin
  refine zx_lv [0] [(0, .ref (a0))] rfl ?_
  refine zx_aload_n C dX10_post_0 0 rfl ?_
  obtain ⟨k1, i2, hm⟩ := ckO_e hm
  obtain ⟨a3, h4, hm⟩ := osm_e hm
  refine zx_get (j := 0) C tC_10 k1 i2 ⟨by decide, Or.inl W_2_213⟩ dX10_post_1 (.ref a3) (rf_s h4) ?_
  obtain ⟨k5, i6, hm⟩ := ckO_e hm
  rcases clx_e hm with ⟨v7, ρ8, h9, hm⟩ | ⟨ρ8, h9, hm⟩
  · refine zx_callV (σ := σ) C [] tC_0 k5 i6 Y_X0_demandPower W_5_130 W_3_113 W_3_114 (c_X0_demandPower h9) (by decide) (by decide) rfl (Nat.le_of_ble_eq_true rfl) dX10_post_4 rfl ?_
    refine zx_aload_n C dX10_post_7 0 rfl ?_
    obtain ⟨k10, i11, hm⟩ := ckO_e hm
    obtain ⟨a12, h13, hm⟩ := osm_e hm
    refine zx_get (j := 3) C tC_10 k10 i11 ⟨by decide, Or.inl W_2_216⟩ dX10_post_8 (.ref a12) (rf_s h13) ?_
    obtain ⟨k14, i15, hm⟩ := ckO_e hm
    rcases clx_e hm with ⟨v16, ρ17, h18, hm⟩ | ⟨ρ17, h18, hm⟩
    · refine zx_callV (σ := ρ8) C [] tC_1 k14 i15 Y_X1_postGroup W_6_60 W_3_184 W_3_185 (c_X1_postGroup h18) (by decide) (by decide) rfl (Nat.le_of_ble_eq_true rfl) dX10_post_11 rfl ?_
      obtain ⟨rfl, rfl⟩ := ret_e hm
      exact zx_iret C rfl rfl rfl dX10_post_14
    · cases hm
      exact zx_outV (σ := ρ8) C htab [] tC_1 k14 i15 Y_X1_postGroup W_6_60 W_3_184 W_3_185 (c_X1_postGroup h18) rfl (by decide) (by decide) rfl (Nat.le_of_ble_eq_true rfl) dX10_post_11 rfl
  · cases hm
    exact zx_outV (σ := σ) C htab [] tC_0 k5 i6 Y_X0_demandPower W_5_130 W_3_113 W_3_114 (c_X0_demandPower h9) rfl (by decide) (by decide) rfl (Nat.le_of_ble_eq_true rfl) dX10_post_4 rfl
abbrev cX1_postAhead : ByteArray := prog_3_method_10_code
def yX1_postAhead : MethodName := ⟨"SyncTree$Journal", "postAhead", "()V"⟩
theorem Y_X1_postAhead : tY yX1_postAhead cX1_postAhead 1 none 0 := ⟨W_3_111, W_1_5, ⟨by decide +kernel, by decide +kernel⟩, by decide +kernel⟩
theorem dX1_postAhead_0 : decode cX1_postAhead 0 = .ok (.aload_n 0, 1) := by decide +kernel
theorem dX1_postAhead_1 : decode cX1_postAhead 1 = .ok (.getfield 21, 3) := by decide +kernel
theorem dX1_postAhead_4 : decode cX1_postAhead 4 = .ok (.invokevirtual 107, 3) := by decide +kernel
theorem dX1_postAhead_7 : decode cX1_postAhead 7 = .ok (.aload_n 0, 1) := by decide +kernel
theorem dX1_postAhead_8 : decode cX1_postAhead 8 = .ok (.getfield 25, 3) := by decide +kernel
theorem dX1_postAhead_11 : decode cX1_postAhead 11 = .ok (.invokevirtual 112, 3) := by decide +kernel
theorem dX1_postAhead_14 : decode cX1_postAhead 14 = .ok (.aload_n 0, 1) := by decide +kernel
theorem dX1_postAhead_15 : decode cX1_postAhead 15 = .ok (.getfield 46, 3) := by decide +kernel
theorem dX1_postAhead_18 : decode cX1_postAhead 18 = .ok (.iconst 2, 1) := by decide +kernel
theorem dX1_postAhead_19 : decode cX1_postAhead 19 = .ok (.idiv, 1) := by decide +kernel
theorem dX1_postAhead_20 : decode cX1_postAhead 20 = .ok (.if_icmp .le 8, 3) := by decide +kernel
theorem dX1_postAhead_23 : decode cX1_postAhead 23 = .ok (.aload_n 0, 1) := by decide +kernel
theorem dX1_postAhead_24 : decode cX1_postAhead 24 = .ok (.invokevirtual 116, 3) := by decide +kernel
theorem dX1_postAhead_27 : decode cX1_postAhead 27 = .ok (.pop, 1) := by decide +kernel
theorem dX1_postAhead_28 : decode cX1_postAhead 28 = .ok (.return_, 1) := by decide +kernel
def J_X1_postAhead_28 (b0 fu : Nat)   (σ : tM) : Option (((Unit) ⊕ Unit) × tM) := some (.inl (()), σ)
def m_X1_postAhead (b0 fu : Nat) (a0 : Nat) (σ : tM) : Option (((Unit) ⊕ Unit) × tM) := grw σ (ckO b0 (σ) (a0) 1 (osm (tA (σ) (a0) 0) (fun a3 => ckO b0 (σ) (a3) 0 (clx (m_X0_demandPower b0 fu (a3) (σ)) (fun v7 ρ8 => ckO b0 (ρ8) (a0) 1 (osm (tA (ρ8) (a0) 1) (fun a12 => ckO b0 (ρ8) (a12) 5 (cll (m_X5_groupSize b0 fu (a12) (ρ8)) (fun v16 ρ17 => ckO b0 (ρ17) (a0) 1 (if (v16) ≤ ((tI (ρ17) (a0) 8) / (2)) then J_X1_postAhead_28 b0 fu    (ρ17) else clx (m_X1_postGroup b0 fu (a0) (ρ17)) (fun v22 ρ23 => J_X1_postAhead_28 b0 fu    (ρ23))))))))))))
set_option maxRecDepth 100000 in
set_option maxHeartbeats 1000000 in
theorem j_X1_postAhead_28 {p : Program} {l : Launch} {e : Env} {s : State} {m : MethodId} {args : Array Value} {below : List Frame} {meth : Method} {c : Code} {D : va_G} {aC : Nat → ClassId} {b0 fu : Nat} {σ0 τ : tM} {v : (Unit) ⊕ Unit}  (C : tCx p l s m args meth c yX1_postAhead.cls cX1_postAhead 1 none D aC b0 σ0) (htab : ∀ x ∈ c.exceptionTable.toList, False) (hin : meth.name = yX1_postAhead.name)   {σ : tM} (hm : J_X1_postAhead_28 b0 fu   σ = some (v, τ)) : tX p l e s m args below meth c 1 11 199 D aC b0 σ0 (rxV "java/lang/IllegalStateException" v) τ 28 [] [] σ := by
  unfold J_X1_postAhead_28 at hm
  obtain ⟨rfl, rfl⟩ := ret_e hm
  exact zx_vret C rfl rfl rfl dX1_postAhead_28
set_option maxRecDepth 100000 in
set_option maxHeartbeats 1000000 in
theorem c_X1_postAhead {l : Launch} {D : va_G} {aC : Nat → ClassId} {b0 fu : Nat} {a0 : Nat} {σ τ : tM} {v : (Unit) ⊕ Unit} (hm : m_X1_postAhead b0 fu a0 σ = some (v, τ)) : tMt l D aC b0 yX1_postAhead (Cond.code yX1_postAhead cX1_postAhead 1 none) 11 199 [.ref (a0)] σ (rxV "java/lang/IllegalStateException" v) τ := by
  unfold m_X1_postAhead at hm
  obtain ⟨hg, hm⟩ := grw_e hm
  refine tMt_of (n := 0) rfl (Nat.le_of_ble_eq_true rfl) hg ?_
  intro p e s m below meth c C htab hin
  refine zx_lv [0] [(0, .ref (a0))] rfl ?_
  refine zx_aload_n C dX1_postAhead_0 0 rfl ?_
  obtain ⟨k1, i2, hm⟩ := ckO_e hm
  obtain ⟨a3, h4, hm⟩ := osm_e hm
  refine zx_get (j := 0) C tC_1 k1 i2 ⟨by decide, Or.inl W_1_180⟩ dX1_postAhead_1 (.ref a3) (rf_s h4) ?_
  obtain ⟨k5, i6, hm⟩ := ckO_e hm
  rcases clx_e hm with ⟨v7, ρ8, h9, hm⟩ | ⟨ρ8, h9, hm⟩
  · refine zx_callV (σ := σ) C [] tC_0 k5 i6 Y_X0_demandPower W_3_112 W_3_113 W_3_114 (c_X0_demandPower h9) (by decide) (by decide) rfl (Nat.le_of_ble_eq_true rfl) dX1_postAhead_4 rfl ?_
    refine zx_aload_n C dX1_postAhead_7 0 rfl ?_
    obtain ⟨k10, i11, hm⟩ := ckO_e hm
    obtain ⟨a12, h13, hm⟩ := osm_e hm
    refine zx_get (j := 1) C tC_1 k10 i11 ⟨by decide, Or.inl W_1_181⟩ dX1_postAhead_8 (.ref a12) (rf_s h13) ?_
    obtain ⟨k14, i15, hm⟩ := ckO_e hm
    obtain ⟨v16, ρ17, h18, hm⟩ := cll_e hm
    refine zx_callV (σ := ρ8) C [] tC_5 k14 i15 Y_X5_groupSize W_3_182 W_3_93 W_3_94 (c_X5_groupSize h18) (by decide) (by decide) rfl (Nat.le_of_ble_eq_true rfl) dX1_postAhead_11 rfl ?_
    refine zx_aload_n C dX1_postAhead_14 0 rfl ?_
    obtain ⟨k19, i20, hm⟩ := ckO_e hm
    refine zx_get (j := 8) C tC_1 k19 i20 ⟨by decide, Or.inl W_1_188⟩ dX1_postAhead_15 (.int (tI (ρ17) (a0) 8)) rfl ?_
    refine zx_iconst (v := 2) C dX1_postAhead_18 (by decide) ?_
    refine zx_idiv C dX1_postAhead_19 (by decide) ?_
    refine zx_icmp_le C 28 dX1_postAhead_20 (by decide) (fun c21 => ?_) (fun c21 => ?_)
    · replace hm := ip_e hm c21
      exact zx_lv [] [] rfl (j_X1_postAhead_28 C htab hin    hm)
    · replace hm := in_e hm c21
      refine zx_aload_n C dX1_postAhead_23 0 rfl ?_
      rcases clx_e hm with ⟨v22, ρ23, h24, hm⟩ | ⟨ρ23, h24, hm⟩
      · refine zx_callV (σ := ρ17) C [] tC_1 k19 i20 Y_X1_postGroup W_3_183 W_3_184 W_3_185 (c_X1_postGroup h24) (by decide) (by decide) rfl (Nat.le_of_ble_eq_true rfl) dX1_postAhead_24 rfl ?_
        refine zx_pop C dX1_postAhead_27 rfl ?_
        exact zx_lv [] [] rfl (j_X1_postAhead_28 C htab hin    hm)
      · cases hm
        exact zx_outV (σ := ρ17) C htab [] tC_1 k19 i20 Y_X1_postGroup W_3_183 W_3_184 W_3_185 (c_X1_postGroup h24) rfl (by decide) (by decide) rfl (Nat.le_of_ble_eq_true rfl) dX1_postAhead_24 rfl
  · cases hm
    exact zx_outV (σ := σ) C htab [] tC_0 k5 i6 Y_X0_demandPower W_3_112 W_3_113 W_3_114 (c_X0_demandPower h9) rfl (by decide) (by decide) rfl (Nat.le_of_ble_eq_true rfl) dX1_postAhead_4 rfl
abbrev cX2_loadAll : ByteArray := prog_4_method_2_code
def yX2_loadAll : MethodName := ⟨"SyncTree$Loader", "loadAll", "()V"⟩
theorem Y_X2_loadAll : tY yX2_loadAll cX2_loadAll 3 none 0 := ⟨W_6_149, W_1_6, ⟨by decide +kernel, by decide +kernel⟩, by decide +kernel⟩
theorem dX2_loadAll_0 : decode cX2_loadAll 0 = .ok (.iconst 1, 1) := by decide +kernel
theorem dX2_loadAll_1 : decode cX2_loadAll 1 = .ok (.istore_n 1, 1) := by decide +kernel
theorem dX2_loadAll_2 : decode cX2_loadAll 2 = .ok (.iload_n 1, 1) := by decide +kernel
theorem dX2_loadAll_3 : decode cX2_loadAll 3 = .ok (.bipush 34, 2) := by decide +kernel
theorem dX2_loadAll_5 : decode cX2_loadAll 5 = .ok (.if_icmp .ge 25, 3) := by decide +kernel
theorem dX2_loadAll_8 : decode cX2_loadAll 8 = .ok (.aload_n 0, 1) := by decide +kernel
theorem dX2_loadAll_9 : decode cX2_loadAll 9 = .ok (.getfield 15, 3) := by decide +kernel
theorem dX2_loadAll_12 : decode cX2_loadAll 12 = .ok (.iload_n 1, 1) := by decide +kernel
theorem dX2_loadAll_13 : decode cX2_loadAll 13 = .ok (.aload_n 0, 1) := by decide +kernel
theorem dX2_loadAll_14 : decode cX2_loadAll 14 = .ok (.getfield 23, 3) := by decide +kernel
theorem dX2_loadAll_17 : decode cX2_loadAll 17 = .ok (.iload_n 1, 1) := by decide +kernel
theorem dX2_loadAll_18 : decode cX2_loadAll 18 = .ok (.invokevirtual 27, 3) := by decide +kernel
theorem dX2_loadAll_21 : decode cX2_loadAll 21 = .ok (.invokevirtual 33, 3) := by decide +kernel
theorem dX2_loadAll_24 : decode cX2_loadAll 24 = .ok (.iinc 1 1, 3) := by decide +kernel
theorem dX2_loadAll_27 : decode cX2_loadAll 27 = .ok (.goto (-25), 3) := by decide +kernel
theorem dX2_loadAll_30 : decode cX2_loadAll 30 = .ok (.aload_n 0, 1) := by decide +kernel
theorem dX2_loadAll_31 : decode cX2_loadAll 31 = .ok (.getfield 15, 3) := by decide +kernel
theorem dX2_loadAll_34 : decode cX2_loadAll 34 = .ok (.invokevirtual 39, 3) := by decide +kernel
theorem dX2_loadAll_37 : decode cX2_loadAll 37 = .ok (.iconst 0, 1) := by decide +kernel
theorem dX2_loadAll_38 : decode cX2_loadAll 38 = .ok (.istore_n 1, 1) := by decide +kernel
theorem dX2_loadAll_39 : decode cX2_loadAll 39 = .ok (.iload_n 1, 1) := by decide +kernel
theorem dX2_loadAll_40 : decode cX2_loadAll 40 = .ok (.bipush 64, 2) := by decide +kernel
theorem dX2_loadAll_42 : decode cX2_loadAll 42 = .ok (.if_icmp .ge 33, 3) := by decide +kernel
theorem dX2_loadAll_45 : decode cX2_loadAll 45 = .ok (.aload_n 0, 1) := by decide +kernel
theorem dX2_loadAll_46 : decode cX2_loadAll 46 = .ok (.getfield 19, 3) := by decide +kernel
theorem dX2_loadAll_49 : decode cX2_loadAll 49 = .ok (.iload_n 1, 1) := by decide +kernel
theorem dX2_loadAll_50 : decode cX2_loadAll 50 = .ok (.invokevirtual 42, 3) := by decide +kernel
theorem dX2_loadAll_53 : decode cX2_loadAll 53 = .ok (.istore_n 2, 1) := by decide +kernel
theorem dX2_loadAll_54 : decode cX2_loadAll 54 = .ok (.iload_n 2, 1) := by decide +kernel
theorem dX2_loadAll_55 : decode cX2_loadAll 55 = .ok (.iconst 1, 1) := by decide +kernel
theorem dX2_loadAll_56 : decode cX2_loadAll 56 = .ok (.if_icmp .eq 8, 3) := by decide +kernel
theorem dX2_loadAll_59 : decode cX2_loadAll 59 = .ok (.iload_n 2, 1) := by decide +kernel
theorem dX2_loadAll_60 : decode cX2_loadAll 60 = .ok (.iconst 2, 1) := by decide +kernel
theorem dX2_loadAll_61 : decode cX2_loadAll 61 = .ok (.if_icmp .ne 8, 3) := by decide +kernel
theorem dX2_loadAll_64 : decode cX2_loadAll 64 = .ok (.aload_n 0, 1) := by decide +kernel
theorem dX2_loadAll_65 : decode cX2_loadAll 65 = .ok (.iload_n 1, 1) := by decide +kernel
theorem dX2_loadAll_66 : decode cX2_loadAll 66 = .ok (.invokevirtual 48, 3) := by decide +kernel
theorem dX2_loadAll_69 : decode cX2_loadAll 69 = .ok (.iinc 1 1, 3) := by decide +kernel
theorem dX2_loadAll_72 : decode cX2_loadAll 72 = .ok (.goto (-33), 3) := by decide +kernel
theorem dX2_loadAll_75 : decode cX2_loadAll 75 = .ok (.return_, 1) := by decide +kernel
def J_X2_loadAll_69 (b0 fu : Nat) (rc39 : Nat → Int32 → tM → Option ((Unit) × tM)) (x0 : Nat) (x1 : Int32) (σ : tM) : Option ((Unit) × tM) := ltb ((x1) + Int32.ofInt 1) (fun y27 => rc39 (x0) (y27) (σ))
def J_X2_loadAll_64 (b0 fu : Nat) (rc39 : Nat → Int32 → tM → Option ((Unit) × tM)) (x0 : Nat) (x1 : Int32) (σ : tM) : Option ((Unit) × tM) := ckO b0 (σ) (x0) 2 (cll (m_X2_loadNode b0 fu (x0) (x1) (σ)) (fun v24 ρ25 => J_X2_loadAll_69 b0 fu rc39  (x0) (x1) (ρ25)))
def L_X2_loadAll_39 (b0 fu : Nat)  : Nat → Nat → Int32 → tM → Option ((Unit) × tM)
  | 0, _, _, _ => none
  | n + 1, x0, x1, σ => ltb (L_X2_loadAll_39 b0 fu  n) (fun rc39 => if (64) ≤ (x1) then some ((), σ) else ckO b0 (σ) (x0) 2 (osm (tA (σ) (x0) 2) (fun a14 => ckO b0 (σ) (a14) 8 (cll (m_X8_kind b0 fu (a14) (x1) (σ)) (fun v18 ρ19 => if (v18) = (1) then J_X2_loadAll_64 b0 fu rc39  (x0) (x1) (ρ19) else if (v18) = (2) then J_X2_loadAll_64 b0 fu rc39  (x0) (x1) (ρ19) else J_X2_loadAll_69 b0 fu rc39  (x0) (x1) (ρ19))))))
def L_X2_loadAll_2 (b0 fu : Nat)  : Nat → Nat → Int32 → tM → Option ((Unit) × tM)
  | 0, _, _, _ => none
  | n + 1, x0, x1, σ => ltb (L_X2_loadAll_2 b0 fu  n) (fun rc2 => if (34) ≤ (x1) then ckO b0 (σ) (x0) 2 (osm (tA (σ) (x0) 1) (fun a4 => ckO b0 (σ) (a4) 5 (cll (m_X5_readMap b0 fu (a4) (σ)) (fun v8 ρ9 => L_X2_loadAll_39 b0 fu  (fu) (x0) (0) (ρ9))))) else ckO b0 (σ) (x0) 2 (osm (tA (σ) (x0) 1) (fun a31 => osm (tA (σ) (x0) 3) (fun a33 => ckO b0 (σ) (a33) 1 (cll (m_X1_baseOf b0 fu (a33) (x1) (σ)) (fun v37 ρ38 => omt v37 (fun a40 => ckO b0 (ρ38) (a31) 5 (cll (m_X5_load b0 fu (a31) (x1) (some (a40)) (ρ38)) (fun v44 ρ45 => ltb ((x1) + Int32.ofInt 1) (fun y47 => rc2 (x0) (y47) (ρ45))))) (ckO b0 (ρ38) (a31) 5 (cll (m_X5_load b0 fu (a31) (x1) (none) (ρ38)) (fun v50 ρ51 => ltb ((x1) + Int32.ofInt 1) (fun y53 => rc2 (x0) (y53) (ρ51)))))))))))
def m_X2_loadAll (b0 fu : Nat) (a0 : Nat) (σ : tM) : Option ((Unit) × tM) := grw σ (L_X2_loadAll_2 b0 fu  (fu) (a0) (1) (σ))
set_option maxRecDepth 100000 in
set_option maxHeartbeats 1000000 in
theorem j_X2_loadAll_69 {p : Program} {l : Launch} {e : Env} {s : State} {m : MethodId} {args : Array Value} {below : List Frame} {meth : Method} {c : Code} {D : va_G} {aC : Nat → ClassId} {b0 fu : Nat} {σ0 τ : tM} {v : Unit} {rc39 : Nat → Int32 → tM → Option ((Unit) × tM)} (C : tCx p l s m args meth c yX2_loadAll.cls cX2_loadAll 3 none D aC b0 σ0) (htab : ∀ x ∈ c.exceptionTable.toList, False) (hin : meth.name = yX2_loadAll.name) (hrc39 : ∀ (x0 : Nat) (x1 : Int32) (ρ : tM), rc39 x0 x1 ρ = some (v, τ) → tX p l e s m args below meth c 3 6 146 D aC b0 σ0 (.inl none) τ 39 [(0, .ref (x0)), (1, .int (x1))] [] ρ) {x0 : Nat} {x1 : Int32} {σ : tM} (hm : J_X2_loadAll_69 b0 fu rc39 x0 x1 σ = some (v, τ)) : tX p l e s m args below meth c 3 6 146 D aC b0 σ0 (.inl none) τ 69 [(0, .ref (x0)), (1, .int (x1))] [] σ := by
  unfold J_X2_loadAll_69 at hm
  obtain ⟨y27, hy27⟩ : ∃ z : Int32, z = (x1) + Int32.ofInt 1 := ⟨_, rfl⟩
  replace hm := ltb_e hm hy27
  refine zx_iinc C [(1, .int (y27)), (0, .ref (x0))] dX2_loadAll_69 1 rfl hy27.symm (by decide) rfl ?_
  refine zx_goto C 39 dX2_loadAll_72 (by decide) ?_
  exact zx_lv [1, 0] [(0, .ref (x0)), (1, .int (y27))] rfl (hrc39 _ _ _ hm)
set_option maxRecDepth 100000 in
set_option maxHeartbeats 1000000 in
theorem j_X2_loadAll_64 {p : Program} {l : Launch} {e : Env} {s : State} {m : MethodId} {args : Array Value} {below : List Frame} {meth : Method} {c : Code} {D : va_G} {aC : Nat → ClassId} {b0 fu : Nat} {σ0 τ : tM} {v : Unit} {rc39 : Nat → Int32 → tM → Option ((Unit) × tM)} (C : tCx p l s m args meth c yX2_loadAll.cls cX2_loadAll 3 none D aC b0 σ0) (htab : ∀ x ∈ c.exceptionTable.toList, False) (hin : meth.name = yX2_loadAll.name) (hrc39 : ∀ (x0 : Nat) (x1 : Int32) (ρ : tM), rc39 x0 x1 ρ = some (v, τ) → tX p l e s m args below meth c 3 6 146 D aC b0 σ0 (.inl none) τ 39 [(0, .ref (x0)), (1, .int (x1))] [] ρ) {x0 : Nat} {x1 : Int32} {σ : tM} (hm : J_X2_loadAll_64 b0 fu rc39 x0 x1 σ = some (v, τ)) : tX p l e s m args below meth c 3 6 146 D aC b0 σ0 (.inl none) τ 64 [(0, .ref (x0)), (1, .int (x1))] [] σ := by
  unfold J_X2_loadAll_64 at hm
  refine zx_aload_n C dX2_loadAll_64 0 rfl ?_
  refine zx_iload_n C dX2_loadAll_65 1 rfl ?_
  obtain ⟨k22, i23, hm⟩ := ckO_e hm
  obtain ⟨v24, ρ25, h26, hm⟩ := cll_e hm
  refine zx_callV (σ := σ) C [.int (x1)] tC_2 k22 i23 Y_X2_loadNode W_6_157 W_6_159 Wp_50 (c_X2_loadNode h26) (by decide) (by decide) rfl (Nat.le_of_ble_eq_true rfl) dX2_loadAll_66 rfl ?_
  exact zx_lv [0, 1] [(0, .ref (x0)), (1, .int (x1))] rfl (j_X2_loadAll_69 C htab hin hrc39   hm)
set_option maxRecDepth 100000 in
set_option maxHeartbeats 1000000 in
theorem l_X2_loadAll_39 {p : Program} {l : Launch} {e : Env} {s : State} {m : MethodId} {args : Array Value} {below : List Frame} {meth : Method} {c : Code} {D : va_G} {aC : Nat → ClassId} {b0 fu : Nat} {σ0 τ : tM} {v : Unit}  (C : tCx p l s m args meth c yX2_loadAll.cls cX2_loadAll 3 none D aC b0 σ0) (htab : ∀ x ∈ c.exceptionTable.toList, False) (hin : meth.name = yX2_loadAll.name)  : ∀ (n : Nat) (x0 : Nat) (x1 : Int32) (σ : tM), L_X2_loadAll_39 b0 fu  n x0 x1 σ = some (v, τ) → tX p l e s m args below meth c 3 6 146 D aC b0 σ0 (.inl none) τ 39 [(0, .ref (x0)), (1, .int (x1))] [] σ := by
  intro n
  induction n with
  | zero => intro x0 x1 σ hm; unfold L_X2_loadAll_39 at hm; cases hm
  | succ n ih =>
    intro x0 x1 σ hm
    unfold L_X2_loadAll_39 at hm
    obtain ⟨rc39, hrc⟩ : ∃ z, z = L_X2_loadAll_39 b0 fu  n := ⟨_, rfl⟩
    replace hm := ltb_e hm hrc
    rw [← hrc] at ih
    have hrc39 := ih
    clear ih hrc
    refine zx_iload_n C dX2_loadAll_39 1 rfl ?_
    refine zx_bipush (v := 64) C dX2_loadAll_40 (by decide) ?_
    refine zx_icmp_ge C 75 dX2_loadAll_42 (by decide) (fun c11 => ?_) (fun c11 => ?_)
    · replace hm := ip_e hm c11
      obtain ⟨rfl, rfl⟩ := ret_e hm
      exact zx_vret C rfl rfl rfl dX2_loadAll_75
    · replace hm := in_e hm c11
      refine zx_aload_n C dX2_loadAll_45 0 rfl ?_
      obtain ⟨k12, i13, hm⟩ := ckO_e hm
      obtain ⟨a14, h15, hm⟩ := osm_e hm
      refine zx_get (j := 2) C tC_2 k12 i13 ⟨by decide, Or.inl W_2_3⟩ dX2_loadAll_46 (.ref a14) (rf_s h15) ?_
      refine zx_iload_n C dX2_loadAll_49 1 rfl ?_
      obtain ⟨k16, i17, hm⟩ := ckO_e hm
      obtain ⟨v18, ρ19, h20, hm⟩ := cll_e hm
      refine zx_callV (σ := σ) C [.int (x1)] tC_8 k16 i17 Y_X8_kind W_6_156 W_3_80 W_3_81 (c_X8_kind h20) (by decide) (by decide) rfl (Nat.le_of_ble_eq_true rfl) dX2_loadAll_50 rfl ?_
      refine zx_istore_n C [(2, .int (v18)), (0, .ref (x0)), (1, .int (x1))] dX2_loadAll_53 rfl (by decide) rfl ?_
      refine zx_iload_n C dX2_loadAll_54 0 rfl ?_
      refine zx_iconst (v := 1) C dX2_loadAll_55 (by decide) ?_
      refine zx_icmp_eq C 64 dX2_loadAll_56 (by decide) (fun c21 => ?_) (fun c21 => ?_)
      · replace hm := ip_e hm c21
        exact zx_lv [1, 2] [(0, .ref (x0)), (1, .int (x1))] rfl (j_X2_loadAll_64 C htab hin hrc39   hm)
      · replace hm := in_e hm c21
        refine zx_iload_n C dX2_loadAll_59 0 rfl ?_
        refine zx_iconst (v := 2) C dX2_loadAll_60 (by decide) ?_
        refine zx_icmp_ne C 69 dX2_loadAll_61 (by decide) (fun c28 => ?_) (fun c28 => ?_)
        · replace hm := in_e hm c28
          exact zx_lv [1, 2] [(0, .ref (x0)), (1, .int (x1))] rfl (j_X2_loadAll_69 C htab hin hrc39   hm)
        · replace hm := ip_e hm c28
          exact zx_lv [1, 2] [(0, .ref (x0)), (1, .int (x1))] rfl (j_X2_loadAll_64 C htab hin hrc39   hm)
set_option maxRecDepth 100000 in
set_option maxHeartbeats 1000000 in
theorem l_X2_loadAll_2 {p : Program} {l : Launch} {e : Env} {s : State} {m : MethodId} {args : Array Value} {below : List Frame} {meth : Method} {c : Code} {D : va_G} {aC : Nat → ClassId} {b0 fu : Nat} {σ0 τ : tM} {v : Unit}  (C : tCx p l s m args meth c yX2_loadAll.cls cX2_loadAll 3 none D aC b0 σ0) (htab : ∀ x ∈ c.exceptionTable.toList, False) (hin : meth.name = yX2_loadAll.name)  : ∀ (n : Nat) (x0 : Nat) (x1 : Int32) (σ : tM), L_X2_loadAll_2 b0 fu  n x0 x1 σ = some (v, τ) → tX p l e s m args below meth c 3 6 146 D aC b0 σ0 (.inl none) τ 2 [(0, .ref (x0)), (1, .int (x1))] [] σ := by
  intro n
  induction n with
  | zero => intro x0 x1 σ hm; unfold L_X2_loadAll_2 at hm; cases hm
  | succ n ih =>
    intro x0 x1 σ hm
    unfold L_X2_loadAll_2 at hm
    obtain ⟨rc2, hrc⟩ : ∃ z, z = L_X2_loadAll_2 b0 fu  n := ⟨_, rfl⟩
    replace hm := ltb_e hm hrc
    rw [← hrc] at ih
    have hrc2 := ih
    clear ih hrc
    refine zx_iload_n C dX2_loadAll_2 1 rfl ?_
    refine zx_bipush (v := 34) C dX2_loadAll_3 (by decide) ?_
    refine zx_icmp_ge C 30 dX2_loadAll_5 (by decide) (fun c1 => ?_) (fun c1 => ?_)
    · replace hm := ip_e hm c1
      refine zx_aload_n C dX2_loadAll_30 0 rfl ?_
      obtain ⟨k2, i3, hm⟩ := ckO_e hm
      obtain ⟨a4, h5, hm⟩ := osm_e hm
      refine zx_get (j := 1) C tC_2 k2 i3 ⟨by decide, Or.inl W_2_2⟩ dX2_loadAll_31 (.ref a4) (rf_s h5) ?_
      obtain ⟨k6, i7, hm⟩ := ckO_e hm
      obtain ⟨v8, ρ9, h10, hm⟩ := cll_e hm
      refine zx_callV (σ := σ) C [] tC_5 k6 i7 Y_X5_readMap W_6_155 W_2_137 W_2_138 (c_X5_readMap h10) (by decide) (by decide) rfl (Nat.le_of_ble_eq_true rfl) dX2_loadAll_34 rfl ?_
      refine zx_iconst (v := 0) C dX2_loadAll_37 (by decide) ?_
      refine zx_istore_n C [(1, .int (0)), (0, .ref (x0))] dX2_loadAll_38 rfl (by decide) rfl ?_
      exact zx_lv [1, 0] [(0, .ref (x0)), (1, .int (0))] rfl (l_X2_loadAll_39 C htab hin  _ _ _ _ hm)
    · replace hm := in_e hm c1
      refine zx_aload_n C dX2_loadAll_8 0 rfl ?_
      obtain ⟨k29, i30, hm⟩ := ckO_e hm
      obtain ⟨a31, h32, hm⟩ := osm_e hm
      refine zx_get (j := 1) C tC_2 k29 i30 ⟨by decide, Or.inl W_2_2⟩ dX2_loadAll_9 (.ref a31) (rf_s h32) ?_
      refine zx_iload_n C dX2_loadAll_12 1 rfl ?_
      refine zx_aload_n C dX2_loadAll_13 0 rfl ?_
      obtain ⟨a33, h34, hm⟩ := osm_e hm
      refine zx_get (j := 3) C tC_2 k29 i30 ⟨by decide, Or.inl W_2_4⟩ dX2_loadAll_14 (.ref a33) (rf_s h34) ?_
      refine zx_iload_n C dX2_loadAll_17 1 rfl ?_
      obtain ⟨k35, i36, hm⟩ := ckO_e hm
      obtain ⟨v37, ρ38, h39, hm⟩ := cll_e hm
      rcases omt_e hm with ⟨a40, h41, hm⟩ | ⟨h41, hm⟩
      · subst h41
        refine zx_callV (σ := σ) C [.int (x1)] tC_1 k35 i36 Y_X1_baseOf W_6_150 W_6_151 W_6_152 (c_X1_baseOf h39) (by decide) (by decide) rfl (Nat.le_of_ble_eq_true rfl) dX2_loadAll_18 rfl ?_
        obtain ⟨k42, i43, hm⟩ := ckO_e hm
        obtain ⟨v44, ρ45, h46, hm⟩ := cll_e hm
        refine zx_callV (σ := ρ38) C [.int (x1), va_rf (some (a40))] tC_5 k42 i43 Y_X5_load W_6_154 W_2_130 W_2_131 (c_X5_load h46) (by decide) (by decide) rfl (Nat.le_of_ble_eq_true rfl) dX2_loadAll_21 rfl ?_
        obtain ⟨y47, hy47⟩ : ∃ z : Int32, z = (x1) + Int32.ofInt 1 := ⟨_, rfl⟩
        replace hm := ltb_e hm hy47
        refine zx_iinc C [(1, .int (y47)), (0, .ref (x0))] dX2_loadAll_24 1 rfl hy47.symm (by decide) rfl ?_
        refine zx_goto C 2 dX2_loadAll_27 (by decide) ?_
        exact zx_lv [1, 0] [(0, .ref (x0)), (1, .int (y47))] rfl (hrc2 _ _ _ hm)
      · subst h41
        refine zx_callV (σ := σ) C [.int (x1)] tC_1 k35 i36 Y_X1_baseOf W_6_150 W_6_151 W_6_152 (c_X1_baseOf h39) (by decide) (by decide) rfl (Nat.le_of_ble_eq_true rfl) dX2_loadAll_18 rfl ?_
        obtain ⟨k48, i49, hm⟩ := ckO_e hm
        obtain ⟨v50, ρ51, h52, hm⟩ := cll_e hm
        refine zx_callV (σ := ρ38) C [.int (x1), va_rf (none)] tC_5 k48 i49 Y_X5_load W_6_154 W_2_130 W_2_131 (c_X5_load h52) (by decide) (by decide) rfl (Nat.le_of_ble_eq_true rfl) dX2_loadAll_21 rfl ?_
        obtain ⟨y53, hy53⟩ : ∃ z : Int32, z = (x1) + Int32.ofInt 1 := ⟨_, rfl⟩
        replace hm := ltb_e hm hy53
        refine zx_iinc C [(1, .int (y53)), (0, .ref (x0))] dX2_loadAll_24 1 rfl hy53.symm (by decide) rfl ?_
        refine zx_goto C 2 dX2_loadAll_27 (by decide) ?_
        exact zx_lv [1, 0] [(0, .ref (x0)), (1, .int (y53))] rfl (hrc2 _ _ _ hm)
set_option maxRecDepth 100000 in
set_option maxHeartbeats 1000000 in
theorem c_X2_loadAll {l : Launch} {D : va_G} {aC : Nat → ClassId} {b0 fu : Nat} {a0 : Nat} {σ τ : tM} {v : Unit} (hm : m_X2_loadAll b0 fu a0 σ = some (v, τ)) : tMt l D aC b0 yX2_loadAll (Cond.code yX2_loadAll cX2_loadAll 3 none) 6 146 [.ref (a0)] σ (.inl none) τ := by
  unfold m_X2_loadAll at hm
  obtain ⟨hg, hm⟩ := grw_e hm
  refine tMt_of (n := 0) rfl (Nat.le_of_ble_eq_true rfl) hg ?_
  intro p e s m below meth c C htab hin
  refine zx_lv [0] [(0, .ref (a0))] rfl ?_
  refine zx_iconst (v := 1) C dX2_loadAll_0 (by decide) ?_
  refine zx_istore_n C [(1, .int (1)), (0, .ref (a0))] dX2_loadAll_1 rfl (by decide) rfl ?_
  exact zx_lv [1, 0] [(0, .ref (a0)), (1, .int (1))] rfl (l_X2_loadAll_2 C htab hin  _ _ _ _ hm)
abbrev cX10_create : ByteArray := prog_1_method_6_code
def yX10_create : MethodName := ⟨"SyncTree", "create", "()I"⟩
theorem Y_X10_create : tY yX10_create cX10_create 1 (some .int) 0 := ⟨W_3_107, W_1_1, ⟨by decide +kernel, by decide +kernel⟩, by decide +kernel⟩
theorem dX10_create_0 : decode cX10_create 0 = .ok (.aload_n 0, 1) := by decide +kernel
theorem dX10_create_1 : decode cX10_create 1 = .ok (.getfield 37, 3) := by decide +kernel
theorem dX10_create_4 : decode cX10_create 4 = .ok (.invokevirtual 127, 3) := by decide +kernel
theorem dX10_create_7 : decode cX10_create 7 = .ok (.aload_n 0, 1) := by decide +kernel
theorem dX10_create_8 : decode cX10_create 8 = .ok (.iconst 1, 1) := by decide +kernel
theorem dX10_create_9 : decode cX10_create 9 = .ok (.aload_n 0, 1) := by decide +kernel
theorem dX10_create_10 : decode cX10_create 10 = .ok (.invokevirtual 130, 3) := by decide +kernel
theorem dX10_create_13 : decode cX10_create 13 = .ok (.invokevirtual 134, 3) := by decide +kernel
theorem dX10_create_16 : decode cX10_create 16 = .ok (.ireturn, 1) := by decide +kernel
def m_X10_create (b0 fu : Nat) (a0 : Nat) (σ : tM) : Option (((Int32) ⊕ Unit) × tM) := grw σ (ckO b0 (σ) (a0) 10 (osm (tA (σ) (a0) 3) (fun a3 => ckO b0 (σ) (a3) 1 (clx (m_X1_postAhead b0 fu (a3) (σ)) (fun v7 ρ8 => ckO b0 (ρ8) (a0) 10 (cll (m_X10_placeForNew b0 fu (a0) (ρ8)) (fun v12 ρ13 => ckO b0 (ρ13) (a0) 10 (cll (m_X10_make b0 fu (a0) (1) (v12) (ρ13)) (fun v17 ρ18 => some (.inl (v17), ρ18))))))))))
set_option maxRecDepth 100000 in
set_option maxHeartbeats 1000000 in
theorem c_X10_create {l : Launch} {D : va_G} {aC : Nat → ClassId} {b0 fu : Nat} {a0 : Nat} {σ τ : tM} {v : (Int32) ⊕ Unit} (hm : m_X10_create b0 fu a0 σ = some (v, τ)) : tMt l D aC b0 yX10_create (Cond.code yX10_create cX10_create 1 (some .int)) 12 219 [.ref (a0)] σ (rxI "java/lang/IllegalStateException" v) τ := by
  unfold m_X10_create at hm
  obtain ⟨hg, hm⟩ := grw_e hm
  refine tMt_of (n := 0) rfl (Nat.le_of_ble_eq_true rfl) hg ?_
  intro p e s m below meth c C htab hin
  refine zx_lv [0] [(0, .ref (a0))] rfl ?_
  refine zx_aload_n C dX10_create_0 0 rfl ?_
  obtain ⟨k1, i2, hm⟩ := ckO_e hm
  obtain ⟨a3, h4, hm⟩ := osm_e hm
  refine zx_get (j := 3) C tC_10 k1 i2 ⟨by decide, Or.inl W_2_216⟩ dX10_create_1 (.ref a3) (rf_s h4) ?_
  obtain ⟨k5, i6, hm⟩ := ckO_e hm
  rcases clx_e hm with ⟨v7, ρ8, h9, hm⟩ | ⟨ρ8, h9, hm⟩
  · refine zx_callV (σ := σ) C [] tC_1 k5 i6 Y_X1_postAhead W_3_108 W_3_109 W_3_110 (c_X1_postAhead h9) (by decide) (by decide) rfl (Nat.le_of_ble_eq_true rfl) dX10_create_4 rfl ?_
    refine zx_aload_n C dX10_create_7 0 rfl ?_
    refine zx_iconst (v := 1) C dX10_create_8 (by decide) ?_
    refine zx_aload_n C dX10_create_9 0 rfl ?_
    obtain ⟨k10, i11, hm⟩ := ckO_e hm
    obtain ⟨v12, ρ13, h14, hm⟩ := cll_e hm
    refine zx_callV (σ := ρ8) C [] tC_10 k10 i11 Y_X10_placeForNew W_4_65 W_4_67 Wp_20 (c_X10_placeForNew h14) (by decide) (by decide) rfl (Nat.le_of_ble_eq_true rfl) dX10_create_10 rfl ?_
    obtain ⟨k15, i16, hm⟩ := ckO_e hm
    obtain ⟨v17, ρ18, h19, hm⟩ := cll_e hm
    refine zx_callV (σ := ρ13) C [.int (1), .int (v12)] tC_10 k15 i16 Y_X10_make W_4_150 W_4_152 Wp_27 (c_X10_make h19) (by decide) (by decide) rfl (Nat.le_of_ble_eq_true rfl) dX10_create_13 rfl ?_
    obtain ⟨rfl, rfl⟩ := ret_e hm
    exact zx_iret C rfl rfl rfl dX10_create_16
  · cases hm
    exact zx_outV (σ := σ) C htab [] tC_1 k5 i6 Y_X1_postAhead W_3_108 W_3_109 W_3_110 (c_X1_postAhead h9) rfl (by decide) (by decide) rfl (Nat.le_of_ble_eq_true rfl) dX10_create_4 rfl
abbrev cX10_mkdir : ByteArray := prog_1_method_7_code
def yX10_mkdir : MethodName := ⟨"SyncTree", "mkdir", "()I"⟩
theorem Y_X10_mkdir : tY yX10_mkdir cX10_mkdir 1 (some .int) 0 := ⟨W_4_235, W_1_1, ⟨by decide +kernel, by decide +kernel⟩, by decide +kernel⟩
theorem dX10_mkdir_0 : decode cX10_mkdir 0 = .ok (.aload_n 0, 1) := by decide +kernel
theorem dX10_mkdir_1 : decode cX10_mkdir 1 = .ok (.getfield 37, 3) := by decide +kernel
theorem dX10_mkdir_4 : decode cX10_mkdir 4 = .ok (.invokevirtual 127, 3) := by decide +kernel
theorem dX10_mkdir_7 : decode cX10_mkdir 7 = .ok (.aload_n 0, 1) := by decide +kernel
theorem dX10_mkdir_8 : decode cX10_mkdir 8 = .ok (.iconst 2, 1) := by decide +kernel
theorem dX10_mkdir_9 : decode cX10_mkdir 9 = .ok (.aload_n 0, 1) := by decide +kernel
theorem dX10_mkdir_10 : decode cX10_mkdir 10 = .ok (.invokevirtual 130, 3) := by decide +kernel
theorem dX10_mkdir_13 : decode cX10_mkdir 13 = .ok (.invokevirtual 134, 3) := by decide +kernel
theorem dX10_mkdir_16 : decode cX10_mkdir 16 = .ok (.ireturn, 1) := by decide +kernel
def m_X10_mkdir (b0 fu : Nat) (a0 : Nat) (σ : tM) : Option (((Int32) ⊕ Unit) × tM) := grw σ (ckO b0 (σ) (a0) 10 (osm (tA (σ) (a0) 3) (fun a3 => ckO b0 (σ) (a3) 1 (clx (m_X1_postAhead b0 fu (a3) (σ)) (fun v7 ρ8 => ckO b0 (ρ8) (a0) 10 (cll (m_X10_placeForNew b0 fu (a0) (ρ8)) (fun v12 ρ13 => ckO b0 (ρ13) (a0) 10 (cll (m_X10_make b0 fu (a0) (2) (v12) (ρ13)) (fun v17 ρ18 => some (.inl (v17), ρ18))))))))))
set_option maxRecDepth 100000 in
set_option maxHeartbeats 1000000 in
theorem c_X10_mkdir {l : Launch} {D : va_G} {aC : Nat → ClassId} {b0 fu : Nat} {a0 : Nat} {σ τ : tM} {v : (Int32) ⊕ Unit} (hm : m_X10_mkdir b0 fu a0 σ = some (v, τ)) : tMt l D aC b0 yX10_mkdir (Cond.code yX10_mkdir cX10_mkdir 1 (some .int)) 12 219 [.ref (a0)] σ (rxI "java/lang/IllegalStateException" v) τ := by
  unfold m_X10_mkdir at hm
  obtain ⟨hg, hm⟩ := grw_e hm
  refine tMt_of (n := 0) rfl (Nat.le_of_ble_eq_true rfl) hg ?_
  intro p e s m below meth c C htab hin
  refine zx_lv [0] [(0, .ref (a0))] rfl ?_
  refine zx_aload_n C dX10_mkdir_0 0 rfl ?_
  obtain ⟨k1, i2, hm⟩ := ckO_e hm
  obtain ⟨a3, h4, hm⟩ := osm_e hm
  refine zx_get (j := 3) C tC_10 k1 i2 ⟨by decide, Or.inl W_2_216⟩ dX10_mkdir_1 (.ref a3) (rf_s h4) ?_
  obtain ⟨k5, i6, hm⟩ := ckO_e hm
  rcases clx_e hm with ⟨v7, ρ8, h9, hm⟩ | ⟨ρ8, h9, hm⟩
  · refine zx_callV (σ := σ) C [] tC_1 k5 i6 Y_X1_postAhead W_3_108 W_3_109 W_3_110 (c_X1_postAhead h9) (by decide) (by decide) rfl (Nat.le_of_ble_eq_true rfl) dX10_mkdir_4 rfl ?_
    refine zx_aload_n C dX10_mkdir_7 0 rfl ?_
    refine zx_iconst (v := 2) C dX10_mkdir_8 (by decide) ?_
    refine zx_aload_n C dX10_mkdir_9 0 rfl ?_
    obtain ⟨k10, i11, hm⟩ := ckO_e hm
    obtain ⟨v12, ρ13, h14, hm⟩ := cll_e hm
    refine zx_callV (σ := ρ8) C [] tC_10 k10 i11 Y_X10_placeForNew W_4_65 W_4_67 Wp_20 (c_X10_placeForNew h14) (by decide) (by decide) rfl (Nat.le_of_ble_eq_true rfl) dX10_mkdir_10 rfl ?_
    obtain ⟨k15, i16, hm⟩ := ckO_e hm
    obtain ⟨v17, ρ18, h19, hm⟩ := cll_e hm
    refine zx_callV (σ := ρ13) C [.int (2), .int (v12)] tC_10 k15 i16 Y_X10_make W_4_150 W_4_152 Wp_27 (c_X10_make h19) (by decide) (by decide) rfl (Nat.le_of_ble_eq_true rfl) dX10_mkdir_13 rfl ?_
    obtain ⟨rfl, rfl⟩ := ret_e hm
    exact zx_iret C rfl rfl rfl dX10_mkdir_16
  · cases hm
    exact zx_outV (σ := σ) C htab [] tC_1 k5 i6 Y_X1_postAhead W_3_108 W_3_109 W_3_110 (c_X1_postAhead h9) rfl (by decide) (by decide) rfl (Nat.le_of_ble_eq_true rfl) dX10_mkdir_4 rfl
abbrev cX10_symlink : ByteArray := prog_1_method_8_code
def yX10_symlink : MethodName := ⟨"SyncTree", "symlink", "()I"⟩
theorem Y_X10_symlink : tY yX10_symlink cX10_symlink 1 (some .int) 0 := ⟨W_5_2, W_1_1, ⟨by decide +kernel, by decide +kernel⟩, by decide +kernel⟩
theorem dX10_symlink_0 : decode cX10_symlink 0 = .ok (.aload_n 0, 1) := by decide +kernel
theorem dX10_symlink_1 : decode cX10_symlink 1 = .ok (.getfield 37, 3) := by decide +kernel
theorem dX10_symlink_4 : decode cX10_symlink 4 = .ok (.invokevirtual 127, 3) := by decide +kernel
theorem dX10_symlink_7 : decode cX10_symlink 7 = .ok (.aload_n 0, 1) := by decide +kernel
theorem dX10_symlink_8 : decode cX10_symlink 8 = .ok (.getfield 73, 3) := by decide +kernel
theorem dX10_symlink_11 : decode cX10_symlink 11 = .ok (.getfield 138, 3) := by decide +kernel
theorem dX10_symlink_14 : decode cX10_symlink 14 = .ok (.iconst 1, 1) := by decide +kernel
theorem dX10_symlink_15 : decode cX10_symlink 15 = .ok (.if_icmp .lt 15, 3) := by decide +kernel
theorem dX10_symlink_18 : decode cX10_symlink 18 = .ok (.aload_n 0, 1) := by decide +kernel
theorem dX10_symlink_19 : decode cX10_symlink 19 = .ok (.getfield 73, 3) := by decide +kernel
theorem dX10_symlink_22 : decode cX10_symlink 22 = .ok (.getfield 138, 3) := by decide +kernel
theorem dX10_symlink_25 : decode cX10_symlink 25 = .ok (.bipush 80, 2) := by decide +kernel
theorem dX10_symlink_27 : decode cX10_symlink 27 = .ok (.if_icmp .le 6, 3) := by decide +kernel
theorem dX10_symlink_30 : decode cX10_symlink 30 = .ok (.bipush (-9), 2) := by decide +kernel
theorem dX10_symlink_32 : decode cX10_symlink 32 = .ok (.ireturn, 1) := by decide +kernel
theorem dX10_symlink_33 : decode cX10_symlink 33 = .ok (.aload_n 0, 1) := by decide +kernel
theorem dX10_symlink_34 : decode cX10_symlink 34 = .ok (.iconst 3, 1) := by decide +kernel
theorem dX10_symlink_35 : decode cX10_symlink 35 = .ok (.aload_n 0, 1) := by decide +kernel
theorem dX10_symlink_36 : decode cX10_symlink 36 = .ok (.invokevirtual 130, 3) := by decide +kernel
theorem dX10_symlink_39 : decode cX10_symlink 39 = .ok (.invokevirtual 134, 3) := by decide +kernel
theorem dX10_symlink_42 : decode cX10_symlink 42 = .ok (.ireturn, 1) := by decide +kernel
def J_X10_symlink_30 (b0 fu : Nat)   (σ : tM) : Option (((Int32) ⊕ Unit) × tM) := some (.inl ((-9)), σ)
def m_X10_symlink (b0 fu : Nat) (a0 : Nat) (σ : tM) : Option (((Int32) ⊕ Unit) × tM) := grw σ (ckO b0 (σ) (a0) 10 (osm (tA (σ) (a0) 3) (fun a3 => ckO b0 (σ) (a3) 1 (clx (m_X1_postAhead b0 fu (a3) (σ)) (fun v7 ρ8 => ckO b0 (ρ8) (a0) 10 (osm (tA (ρ8) (a0) 8) (fun a12 => ckO b0 (ρ8) (a12) 3 (if (tI (ρ8) (a12) 1) < (1) then J_X10_symlink_30 b0 fu    (ρ8) else osm (tA (ρ8) (a0) 8) (fun a17 => ckO b0 (ρ8) (a17) 3 (if (tI (ρ8) (a17) 1) ≤ (80) then cll (m_X10_placeForNew b0 fu (a0) (ρ8)) (fun v22 ρ23 => ckO b0 (ρ23) (a0) 10 (cll (m_X10_make b0 fu (a0) (3) (v22) (ρ23)) (fun v27 ρ28 => some (.inl (v27), ρ28)))) else J_X10_symlink_30 b0 fu    (ρ8)))))))))))
set_option maxRecDepth 100000 in
set_option maxHeartbeats 1000000 in
theorem j_X10_symlink_30 {p : Program} {l : Launch} {e : Env} {s : State} {m : MethodId} {args : Array Value} {below : List Frame} {meth : Method} {c : Code} {D : va_G} {aC : Nat → ClassId} {b0 fu : Nat} {σ0 τ : tM} {v : (Int32) ⊕ Unit}  (C : tCx p l s m args meth c yX10_symlink.cls cX10_symlink 1 (some .int) D aC b0 σ0) (htab : ∀ x ∈ c.exceptionTable.toList, False) (hin : meth.name = yX10_symlink.name)   {σ : tM} (hm : J_X10_symlink_30 b0 fu   σ = some (v, τ)) : tX p l e s m args below meth c 1 12 219 D aC b0 σ0 (rxI "java/lang/IllegalStateException" v) τ 30 [] [] σ := by
  unfold J_X10_symlink_30 at hm
  refine zx_bipush (v := (-9)) C dX10_symlink_30 (by decide) ?_
  obtain ⟨rfl, rfl⟩ := ret_e hm
  exact zx_iret C rfl rfl rfl dX10_symlink_32
set_option maxRecDepth 100000 in
set_option maxHeartbeats 1000000 in
theorem c_X10_symlink {l : Launch} {D : va_G} {aC : Nat → ClassId} {b0 fu : Nat} {a0 : Nat} {σ τ : tM} {v : (Int32) ⊕ Unit} (hm : m_X10_symlink b0 fu a0 σ = some (v, τ)) : tMt l D aC b0 yX10_symlink (Cond.code yX10_symlink cX10_symlink 1 (some .int)) 12 219 [.ref (a0)] σ (rxI "java/lang/IllegalStateException" v) τ := by
  unfold m_X10_symlink at hm
  obtain ⟨hg, hm⟩ := grw_e hm
  refine tMt_of (n := 0) rfl (Nat.le_of_ble_eq_true rfl) hg ?_
  intro p e s m below meth c C htab hin
  refine zx_lv [0] [(0, .ref (a0))] rfl ?_
  refine zx_aload_n C dX10_symlink_0 0 rfl ?_
  obtain ⟨k1, i2, hm⟩ := ckO_e hm
  obtain ⟨a3, h4, hm⟩ := osm_e hm
  refine zx_get (j := 3) C tC_10 k1 i2 ⟨by decide, Or.inl W_2_216⟩ dX10_symlink_1 (.ref a3) (rf_s h4) ?_
  obtain ⟨k5, i6, hm⟩ := ckO_e hm
  rcases clx_e hm with ⟨v7, ρ8, h9, hm⟩ | ⟨ρ8, h9, hm⟩
  · refine zx_callV (σ := σ) C [] tC_1 k5 i6 Y_X1_postAhead W_3_108 W_3_109 W_3_110 (c_X1_postAhead h9) (by decide) (by decide) rfl (Nat.le_of_ble_eq_true rfl) dX10_symlink_4 rfl ?_
    refine zx_aload_n C dX10_symlink_7 0 rfl ?_
    obtain ⟨k10, i11, hm⟩ := ckO_e hm
    obtain ⟨a12, h13, hm⟩ := osm_e hm
    refine zx_get (j := 8) C tC_10 k10 i11 ⟨by decide, Or.inl W_2_221⟩ dX10_symlink_8 (.ref a12) (rf_s h13) ?_
    obtain ⟨k14, i15, hm⟩ := ckO_e hm
    refine zx_get (j := 1) C tC_3 k14 i15 ⟨by decide, Or.inr ⟨_, W_2_61⟩⟩ dX10_symlink_11 (.int (tI (ρ8) (a12) 1)) rfl ?_
    refine zx_iconst (v := 1) C dX10_symlink_14 (by decide) ?_
    refine zx_icmp_lt C 30 dX10_symlink_15 (by decide) (fun c16 => ?_) (fun c16 => ?_)
    · replace hm := ip_e hm c16
      exact zx_lv [] [] rfl (j_X10_symlink_30 C htab hin    hm)
    · replace hm := in_e hm c16
      refine zx_aload_n C dX10_symlink_18 0 rfl ?_
      obtain ⟨a17, h18, hm⟩ := osm_e hm
      refine zx_get (j := 8) C tC_10 k10 i11 ⟨by decide, Or.inl W_2_221⟩ dX10_symlink_19 (.ref a17) (rf_s h18) ?_
      obtain ⟨k19, i20, hm⟩ := ckO_e hm
      refine zx_get (j := 1) C tC_3 k19 i20 ⟨by decide, Or.inr ⟨_, W_2_61⟩⟩ dX10_symlink_22 (.int (tI (ρ8) (a17) 1)) rfl ?_
      refine zx_bipush (v := 80) C dX10_symlink_25 (by decide) ?_
      refine zx_icmp_le C 33 dX10_symlink_27 (by decide) (fun c21 => ?_) (fun c21 => ?_)
      · replace hm := ip_e hm c21
        refine zx_aload_n C dX10_symlink_33 0 rfl ?_
        refine zx_iconst (v := 3) C dX10_symlink_34 (by decide) ?_
        refine zx_aload_n C dX10_symlink_35 0 rfl ?_
        obtain ⟨v22, ρ23, h24, hm⟩ := cll_e hm
        refine zx_callV (σ := ρ8) C [] tC_10 k10 i11 Y_X10_placeForNew W_4_65 W_4_67 Wp_20 (c_X10_placeForNew h24) (by decide) (by decide) rfl (Nat.le_of_ble_eq_true rfl) dX10_symlink_36 rfl ?_
        obtain ⟨k25, i26, hm⟩ := ckO_e hm
        obtain ⟨v27, ρ28, h29, hm⟩ := cll_e hm
        refine zx_callV (σ := ρ23) C [.int (3), .int (v22)] tC_10 k25 i26 Y_X10_make W_4_150 W_4_152 Wp_27 (c_X10_make h29) (by decide) (by decide) rfl (Nat.le_of_ble_eq_true rfl) dX10_symlink_39 rfl ?_
        obtain ⟨rfl, rfl⟩ := ret_e hm
        exact zx_iret C rfl rfl rfl dX10_symlink_42
      · replace hm := in_e hm c21
        exact zx_lv [] [] rfl (j_X10_symlink_30 C htab hin    hm)
  · cases hm
    exact zx_outV (σ := σ) C htab [] tC_1 k5 i6 Y_X1_postAhead W_3_108 W_3_109 W_3_110 (c_X1_postAhead h9) rfl (by decide) (by decide) rfl (Nat.le_of_ble_eq_true rfl) dX10_symlink_4 rfl
abbrev cX10_link : ByteArray := prog_1_method_11_code
def yX10_link : MethodName := ⟨"SyncTree", "link", "()I"⟩
theorem Y_X10_link : tY yX10_link cX10_link 4 (some .int) 0 := ⟨W_5_9, W_1_1, ⟨by decide +kernel, by decide +kernel⟩, by decide +kernel⟩
theorem dX10_link_0 : decode cX10_link 0 = .ok (.aload_n 0, 1) := by decide +kernel
theorem dX10_link_1 : decode cX10_link 1 = .ok (.getfield 37, 3) := by decide +kernel
theorem dX10_link_4 : decode cX10_link 4 = .ok (.invokevirtual 127, 3) := by decide +kernel
theorem dX10_link_7 : decode cX10_link 7 = .ok (.aload_n 0, 1) := by decide +kernel
theorem dX10_link_8 : decode cX10_link 8 = .ok (.getfield 55, 3) := by decide +kernel
theorem dX10_link_11 : decode cX10_link 11 = .ok (.aload_n 0, 1) := by decide +kernel
theorem dX10_link_12 : decode cX10_link 12 = .ok (.getfield 73, 3) := by decide +kernel
theorem dX10_link_15 : decode cX10_link 15 = .ok (.iconst 0, 1) := by decide +kernel
theorem dX10_link_16 : decode cX10_link 16 = .ok (.invokevirtual 164, 3) := by decide +kernel
theorem dX10_link_19 : decode cX10_link 19 = .ok (.istore_n 1, 1) := by decide +kernel
theorem dX10_link_20 : decode cX10_link 20 = .ok (.iload_n 1, 1) := by decide +kernel
theorem dX10_link_21 : decode cX10_link 21 = .ok (.ifCond .ge 5, 3) := by decide +kernel
theorem dX10_link_24 : decode cX10_link 24 = .ok (.iload_n 1, 1) := by decide +kernel
theorem dX10_link_25 : decode cX10_link 25 = .ok (.ireturn, 1) := by decide +kernel
theorem dX10_link_26 : decode cX10_link 26 = .ok (.aload_n 0, 1) := by decide +kernel
theorem dX10_link_27 : decode cX10_link 27 = .ok (.getfield 28, 3) := by decide +kernel
theorem dX10_link_30 : decode cX10_link 30 = .ok (.iload_n 1, 1) := by decide +kernel
theorem dX10_link_31 : decode cX10_link 31 = .ok (.invokevirtual 168, 3) := by decide +kernel
theorem dX10_link_34 : decode cX10_link 34 = .ok (.iconst 2, 1) := by decide +kernel
theorem dX10_link_35 : decode cX10_link 35 = .ok (.if_icmp .ne 6, 3) := by decide +kernel
theorem dX10_link_38 : decode cX10_link 38 = .ok (.bipush (-4), 2) := by decide +kernel
theorem dX10_link_40 : decode cX10_link 40 = .ok (.ireturn, 1) := by decide +kernel
theorem dX10_link_41 : decode cX10_link 41 = .ok (.aload_n 0, 1) := by decide +kernel
theorem dX10_link_42 : decode cX10_link 42 = .ok (.invokevirtual 130, 3) := by decide +kernel
theorem dX10_link_45 : decode cX10_link 45 = .ok (.istore_n 2, 1) := by decide +kernel
theorem dX10_link_46 : decode cX10_link 46 = .ok (.iload_n 2, 1) := by decide +kernel
theorem dX10_link_47 : decode cX10_link 47 = .ok (.ifCond .ge 5, 3) := by decide +kernel
theorem dX10_link_50 : decode cX10_link 50 = .ok (.iload_n 2, 1) := by decide +kernel
theorem dX10_link_51 : decode cX10_link 51 = .ok (.ireturn, 1) := by decide +kernel
theorem dX10_link_52 : decode cX10_link 52 = .ok (.aload_n 0, 1) := by decide +kernel
theorem dX10_link_53 : decode cX10_link 53 = .ok (.getfield 28, 3) := by decide +kernel
theorem dX10_link_56 : decode cX10_link 56 = .ok (.iload_n 1, 1) := by decide +kernel
theorem dX10_link_57 : decode cX10_link 57 = .ok (.invokevirtual 172, 3) := by decide +kernel
theorem dX10_link_60 : decode cX10_link 60 = .ok (.istore_n 3, 1) := by decide +kernel
theorem dX10_link_61 : decode cX10_link 61 = .ok (.iload_n 3, 1) := by decide +kernel
theorem dX10_link_62 : decode cX10_link 62 = .ok (.sipush 200, 3) := by decide +kernel
theorem dX10_link_65 : decode cX10_link 65 = .ok (.if_icmp .lt 6, 3) := by decide +kernel
theorem dX10_link_68 : decode cX10_link 68 = .ok (.bipush (-10), 2) := by decide +kernel
theorem dX10_link_70 : decode cX10_link 70 = .ok (.ireturn, 1) := by decide +kernel
theorem dX10_link_71 : decode cX10_link 71 = .ok (.aload_n 0, 1) := by decide +kernel
theorem dX10_link_72 : decode cX10_link 72 = .ok (.getfield 28, 3) := by decide +kernel
theorem dX10_link_75 : decode cX10_link 75 = .ok (.iload_n 2, 1) := by decide +kernel
theorem dX10_link_76 : decode cX10_link 76 = .ok (.invokevirtual 142, 3) := by decide +kernel
theorem dX10_link_79 : decode cX10_link 79 = .ok (.ifCond .ne 6, 3) := by decide +kernel
theorem dX10_link_82 : decode cX10_link 82 = .ok (.bipush (-6), 2) := by decide +kernel
theorem dX10_link_84 : decode cX10_link 84 = .ok (.ireturn, 1) := by decide +kernel
theorem dX10_link_85 : decode cX10_link 85 = .ok (.aload_n 0, 1) := by decide +kernel
theorem dX10_link_86 : decode cX10_link 86 = .ok (.getfield 28, 3) := by decide +kernel
theorem dX10_link_89 : decode cX10_link 89 = .ok (.iload_n 2, 1) := by decide +kernel
theorem dX10_link_90 : decode cX10_link 90 = .ok (.aload_n 0, 1) := by decide +kernel
theorem dX10_link_91 : decode cX10_link 91 = .ok (.getfield 69, 3) := by decide +kernel
theorem dX10_link_94 : decode cX10_link 94 = .ok (.iload_n 1, 1) := by decide +kernel
theorem dX10_link_95 : decode cX10_link 95 = .ok (.invokevirtual 149, 3) := by decide +kernel
theorem dX10_link_98 : decode cX10_link 98 = .ok (.aload_n 0, 1) := by decide +kernel
theorem dX10_link_99 : decode cX10_link 99 = .ok (.getfield 28, 3) := by decide +kernel
theorem dX10_link_102 : decode cX10_link 102 = .ok (.iload_n 1, 1) := by decide +kernel
theorem dX10_link_103 : decode cX10_link 103 = .ok (.iload_n 3, 1) := by decide +kernel
theorem dX10_link_104 : decode cX10_link 104 = .ok (.iconst 1, 1) := by decide +kernel
theorem dX10_link_105 : decode cX10_link 105 = .ok (.iadd, 1) := by decide +kernel
theorem dX10_link_106 : decode cX10_link 106 = .ok (.invokevirtual 175, 3) := by decide +kernel
theorem dX10_link_109 : decode cX10_link 109 = .ok (.iload_n 3, 1) := by decide +kernel
theorem dX10_link_110 : decode cX10_link 110 = .ok (.iconst 1, 1) := by decide +kernel
theorem dX10_link_111 : decode cX10_link 111 = .ok (.iadd, 1) := by decide +kernel
theorem dX10_link_112 : decode cX10_link 112 = .ok (.ireturn, 1) := by decide +kernel
def m_X10_link (b0 fu : Nat) (a0 : Nat) (σ : tM) : Option (((Int32) ⊕ Unit) × tM) := grw σ (ckO b0 (σ) (a0) 10 (osm (tA (σ) (a0) 3) (fun a3 => ckO b0 (σ) (a3) 1 (clx (m_X1_postAhead b0 fu (a3) (σ)) (fun v7 ρ8 => ckO b0 (ρ8) (a0) 10 (osm (tA (ρ8) (a0) 5) (fun a12 => osm (tA (ρ8) (a0) 8) (fun a14 => ckO b0 (ρ8) (a12) 9 (cll (m_X9_walkWhole b0 fu (a12) (a14) (0) (ρ8)) (fun v18 ρ19 => if (0) ≤ (v18) then ckO b0 (ρ19) (a0) 10 (osm (tA (ρ19) (a0) 2) (fun a24 => ckO b0 (ρ19) (a24) 8 (cll (m_X8_kind b0 fu (a24) (v18) (ρ19)) (fun v28 ρ29 => if (v28) = (2) then some (.inl ((-4)), ρ29) else ckO b0 (ρ29) (a0) 10 (cll (m_X10_placeForNew b0 fu (a0) (ρ29)) (fun v34 ρ35 => if (0) ≤ (v34) then ckO b0 (ρ35) (a0) 10 (osm (tA (ρ35) (a0) 2) (fun a40 => ckO b0 (ρ35) (a40) 8 (cll (m_X8_names b0 fu (a40) (v18) (ρ35)) (fun v44 ρ45 => if (v44) < (200) then ckO b0 (ρ45) (a0) 10 (osm (tA (ρ45) (a0) 2) (fun a50 => ckO b0 (ρ45) (a50) 8 (cll (m_X8_hasPlaceForEntry b0 fu (a50) (v34) (ρ45)) (fun v54 ρ55 => if (v54) = (0) then some (.inl ((-6)), ρ55) else ckO b0 (ρ55) (a0) 10 (osm (tA (ρ55) (a0) 2) (fun a60 => osm (tA (ρ55) (a0) 7) (fun a62 => ckO b0 (ρ55) (a60) 8 (cll (m_X8_addEntry b0 fu (a60) (v34) (a62) (v18) (ρ55)) (fun v66 ρ67 => ckO b0 (ρ67) (a0) 10 (osm (tA (ρ67) (a0) 2) (fun a71 => ckO b0 (ρ67) (a71) 8 (cll (m_X8_setNames b0 fu (a71) (v18) ((v44) + (1)) (ρ67)) (fun v75 ρ76 => some (.inl ((v44) + (1)), ρ76)))))))))))))) else some (.inl ((-10)), ρ45))))) else some (.inl (v34), ρ35))))))) else some (.inl (v18), ρ19)))))))))))
set_option maxRecDepth 100000 in
set_option maxHeartbeats 1000000 in
theorem c_X10_link {l : Launch} {D : va_G} {aC : Nat → ClassId} {b0 fu : Nat} {a0 : Nat} {σ τ : tM} {v : (Int32) ⊕ Unit} (hm : m_X10_link b0 fu a0 σ = some (v, τ)) : tMt l D aC b0 yX10_link (Cond.code yX10_link cX10_link 4 (some .int)) 12 219 [.ref (a0)] σ (rxI "java/lang/IllegalStateException" v) τ := by
  unfold m_X10_link at hm
  obtain ⟨hg, hm⟩ := grw_e hm
  refine tMt_of (n := 0) rfl (Nat.le_of_ble_eq_true rfl) hg ?_
  intro p e s m below meth c C htab hin
  refine zx_lv [0] [(0, .ref (a0))] rfl ?_
  refine zx_aload_n C dX10_link_0 0 rfl ?_
  obtain ⟨k1, i2, hm⟩ := ckO_e hm
  obtain ⟨a3, h4, hm⟩ := osm_e hm
  refine zx_get (j := 3) C tC_10 k1 i2 ⟨by decide, Or.inl W_2_216⟩ dX10_link_1 (.ref a3) (rf_s h4) ?_
  obtain ⟨k5, i6, hm⟩ := ckO_e hm
  rcases clx_e hm with ⟨v7, ρ8, h9, hm⟩ | ⟨ρ8, h9, hm⟩
  · refine zx_callV (σ := σ) C [] tC_1 k5 i6 Y_X1_postAhead W_3_108 W_3_109 W_3_110 (c_X1_postAhead h9) (by decide) (by decide) rfl (Nat.le_of_ble_eq_true rfl) dX10_link_4 rfl ?_
    refine zx_aload_n C dX10_link_7 0 rfl ?_
    obtain ⟨k10, i11, hm⟩ := ckO_e hm
    obtain ⟨a12, h13, hm⟩ := osm_e hm
    refine zx_get (j := 5) C tC_10 k10 i11 ⟨by decide, Or.inl W_2_218⟩ dX10_link_8 (.ref a12) (rf_s h13) ?_
    refine zx_aload_n C dX10_link_11 0 rfl ?_
    obtain ⟨a14, h15, hm⟩ := osm_e hm
    refine zx_get (j := 8) C tC_10 k10 i11 ⟨by decide, Or.inl W_2_221⟩ dX10_link_12 (.ref a14) (rf_s h15) ?_
    refine zx_iconst (v := 0) C dX10_link_15 (by decide) ?_
    obtain ⟨k16, i17, hm⟩ := ckO_e hm
    obtain ⟨v18, ρ19, h20, hm⟩ := cll_e hm
    refine zx_callV (σ := ρ8) C [.ref (a14), .int (0)] tC_9 k16 i17 Y_X9_walkWhole W_5_10 W_5_11 W_5_12 (c_X9_walkWhole h20) (by decide) (by decide) rfl (Nat.le_of_ble_eq_true rfl) dX10_link_16 rfl ?_
    refine zx_istore_n C [(1, .int (v18)), (0, .ref (a0))] dX10_link_19 rfl (by decide) rfl ?_
    refine zx_iload_n C dX10_link_20 0 rfl ?_
    refine zx_if_ge C 26 dX10_link_21 (by decide) (fun c21 => ?_) (fun c21 => ?_)
    · replace hm := ip_e hm c21
      refine zx_aload_n C dX10_link_26 1 rfl ?_
      obtain ⟨k22, i23, hm⟩ := ckO_e hm
      obtain ⟨a24, h25, hm⟩ := osm_e hm
      refine zx_get (j := 2) C tC_10 k22 i23 ⟨by decide, Or.inl W_2_215⟩ dX10_link_27 (.ref a24) (rf_s h25) ?_
      refine zx_iload_n C dX10_link_30 0 rfl ?_
      obtain ⟨k26, i27, hm⟩ := ckO_e hm
      obtain ⟨v28, ρ29, h30, hm⟩ := cll_e hm
      refine zx_callV (σ := ρ19) C [.int (v18)] tC_8 k26 i27 Y_X8_kind W_5_14 W_3_80 W_3_81 (c_X8_kind h30) (by decide) (by decide) rfl (Nat.le_of_ble_eq_true rfl) dX10_link_31 rfl ?_
      refine zx_iconst (v := 2) C dX10_link_34 (by decide) ?_
      refine zx_icmp_ne C 41 dX10_link_35 (by decide) (fun c31 => ?_) (fun c31 => ?_)
      · replace hm := in_e hm c31
        refine zx_aload_n C dX10_link_41 1 rfl ?_
        obtain ⟨k32, i33, hm⟩ := ckO_e hm
        obtain ⟨v34, ρ35, h36, hm⟩ := cll_e hm
        refine zx_callV (σ := ρ29) C [] tC_10 k32 i33 Y_X10_placeForNew W_4_65 W_4_67 Wp_20 (c_X10_placeForNew h36) (by decide) (by decide) rfl (Nat.le_of_ble_eq_true rfl) dX10_link_42 rfl ?_
        refine zx_istore_n C [(2, .int (v34)), (1, .int (v18)), (0, .ref (a0))] dX10_link_45 rfl (by decide) rfl ?_
        refine zx_iload_n C dX10_link_46 0 rfl ?_
        refine zx_if_ge C 52 dX10_link_47 (by decide) (fun c37 => ?_) (fun c37 => ?_)
        · replace hm := ip_e hm c37
          refine zx_aload_n C dX10_link_52 2 rfl ?_
          obtain ⟨k38, i39, hm⟩ := ckO_e hm
          obtain ⟨a40, h41, hm⟩ := osm_e hm
          refine zx_get (j := 2) C tC_10 k38 i39 ⟨by decide, Or.inl W_2_215⟩ dX10_link_53 (.ref a40) (rf_s h41) ?_
          refine zx_iload_n C dX10_link_56 1 rfl ?_
          obtain ⟨k42, i43, hm⟩ := ckO_e hm
          obtain ⟨v44, ρ45, h46, hm⟩ := cll_e hm
          refine zx_callV (σ := ρ35) C [.int (v18)] tC_8 k42 i43 Y_X8_names W_5_15 W_4_191 W_4_192 (c_X8_names h46) (by decide) (by decide) rfl (Nat.le_of_ble_eq_true rfl) dX10_link_57 rfl ?_
          refine zx_istore_n C [(3, .int (v44)), (2, .int (v34)), (1, .int (v18)), (0, .ref (a0))] dX10_link_60 rfl (by decide) rfl ?_
          refine zx_iload_n C dX10_link_61 0 rfl ?_
          refine zx_sipush (v := 200) C dX10_link_62 (by decide) ?_
          refine zx_icmp_lt C 71 dX10_link_65 (by decide) (fun c47 => ?_) (fun c47 => ?_)
          · replace hm := ip_e hm c47
            refine zx_aload_n C dX10_link_71 3 rfl ?_
            obtain ⟨k48, i49, hm⟩ := ckO_e hm
            obtain ⟨a50, h51, hm⟩ := osm_e hm
            refine zx_get (j := 2) C tC_10 k48 i49 ⟨by decide, Or.inl W_2_215⟩ dX10_link_72 (.ref a50) (rf_s h51) ?_
            refine zx_iload_n C dX10_link_75 1 rfl ?_
            obtain ⟨k52, i53, hm⟩ := ckO_e hm
            obtain ⟨v54, ρ55, h56, hm⟩ := cll_e hm
            refine zx_callV (σ := ρ45) C [.int (v34)] tC_8 k52 i53 Y_X8_hasPlaceForEntry W_4_158 W_4_159 W_4_160 (c_X8_hasPlaceForEntry h56) (by decide) (by decide) rfl (Nat.le_of_ble_eq_true rfl) dX10_link_76 rfl ?_
            refine zx_if_ne C 85 dX10_link_79 (by decide) (fun c57 => ?_) (fun c57 => ?_)
            · replace hm := in_e hm c57
              refine zx_aload_n C dX10_link_85 3 rfl ?_
              obtain ⟨k58, i59, hm⟩ := ckO_e hm
              obtain ⟨a60, h61, hm⟩ := osm_e hm
              refine zx_get (j := 2) C tC_10 k58 i59 ⟨by decide, Or.inl W_2_215⟩ dX10_link_86 (.ref a60) (rf_s h61) ?_
              refine zx_iload_n C dX10_link_89 1 rfl ?_
              refine zx_aload_n C dX10_link_90 3 rfl ?_
              obtain ⟨a62, h63, hm⟩ := osm_e hm
              refine zx_get (j := 7) C tC_10 k58 i59 ⟨by decide, Or.inl W_2_220⟩ dX10_link_91 (.ref a62) (rf_s h63) ?_
              refine zx_iload_n C dX10_link_94 2 rfl ?_
              obtain ⟨k64, i65, hm⟩ := ckO_e hm
              obtain ⟨v66, ρ67, h68, hm⟩ := cll_e hm
              refine zx_callV (σ := ρ55) C [.int (v34), .ref (a62), .int (v18)] tC_8 k64 i65 Y_X8_addEntry W_4_195 W_4_196 W_4_197 (c_X8_addEntry h68) (by decide) (by decide) rfl (Nat.le_of_ble_eq_true rfl) dX10_link_95 rfl ?_
              refine zx_aload_n C dX10_link_98 3 rfl ?_
              obtain ⟨k69, i70, hm⟩ := ckO_e hm
              obtain ⟨a71, h72, hm⟩ := osm_e hm
              refine zx_get (j := 2) C tC_10 k69 i70 ⟨by decide, Or.inl W_2_215⟩ dX10_link_99 (.ref a71) (rf_s h72) ?_
              refine zx_iload_n C dX10_link_102 2 rfl ?_
              refine zx_iload_n C dX10_link_103 0 rfl ?_
              refine zx_iconst (v := 1) C dX10_link_104 (by decide) ?_
              refine zx_iadd C dX10_link_105 ?_
              obtain ⟨k73, i74, hm⟩ := ckO_e hm
              obtain ⟨v75, ρ76, h77, hm⟩ := cll_e hm
              refine zx_callV (σ := ρ67) C [.int (v18), .int ((v44) + (1))] tC_8 k73 i74 Y_X8_setNames W_5_16 W_5_17 W_5_18 (c_X8_setNames h77) (by decide) (by decide) rfl (Nat.le_of_ble_eq_true rfl) dX10_link_106 rfl ?_
              refine zx_iload_n C dX10_link_109 0 rfl ?_
              refine zx_iconst (v := 1) C dX10_link_110 (by decide) ?_
              refine zx_iadd C dX10_link_111 ?_
              obtain ⟨rfl, rfl⟩ := ret_e hm
              exact zx_iret C rfl rfl rfl dX10_link_112
            · replace hm := ip_e hm c57
              refine zx_bipush (v := (-6)) C dX10_link_82 (by decide) ?_
              obtain ⟨rfl, rfl⟩ := ret_e hm
              exact zx_iret C rfl rfl rfl dX10_link_84
          · replace hm := in_e hm c47
            refine zx_bipush (v := (-10)) C dX10_link_68 (by decide) ?_
            obtain ⟨rfl, rfl⟩ := ret_e hm
            exact zx_iret C rfl rfl rfl dX10_link_70
        · replace hm := in_e hm c37
          refine zx_iload_n C dX10_link_50 0 rfl ?_
          obtain ⟨rfl, rfl⟩ := ret_e hm
          exact zx_iret C rfl rfl rfl dX10_link_51
      · replace hm := ip_e hm c31
        refine zx_bipush (v := (-4)) C dX10_link_38 (by decide) ?_
        obtain ⟨rfl, rfl⟩ := ret_e hm
        exact zx_iret C rfl rfl rfl dX10_link_40
    · replace hm := in_e hm c21
      refine zx_iload_n C dX10_link_24 0 rfl ?_
      obtain ⟨rfl, rfl⟩ := ret_e hm
      exact zx_iret C rfl rfl rfl dX10_link_25
  · cases hm
    exact zx_outV (σ := σ) C htab [] tC_1 k5 i6 Y_X1_postAhead W_3_108 W_3_109 W_3_110 (c_X1_postAhead h9) rfl (by decide) (by decide) rfl (Nat.le_of_ble_eq_true rfl) dX10_link_4 rfl
abbrev cX10_unlink : ByteArray := prog_1_method_12_code
def yX10_unlink : MethodName := ⟨"SyncTree", "unlink", "()I"⟩
theorem Y_X10_unlink : tY yX10_unlink cX10_unlink 4 (some .int) 0 := ⟨W_5_27, W_1_1, ⟨by decide +kernel, by decide +kernel⟩, by decide +kernel⟩
theorem dX10_unlink_0 : decode cX10_unlink 0 = .ok (.aload_n 0, 1) := by decide +kernel
theorem dX10_unlink_1 : decode cX10_unlink 1 = .ok (.getfield 37, 3) := by decide +kernel
theorem dX10_unlink_4 : decode cX10_unlink 4 = .ok (.invokevirtual 127, 3) := by decide +kernel
theorem dX10_unlink_7 : decode cX10_unlink 7 = .ok (.aload_n 0, 1) := by decide +kernel
theorem dX10_unlink_8 : decode cX10_unlink 8 = .ok (.aload_n 0, 1) := by decide +kernel
theorem dX10_unlink_9 : decode cX10_unlink 9 = .ok (.getfield 69, 3) := by decide +kernel
theorem dX10_unlink_12 : decode cX10_unlink 12 = .ok (.invokevirtual 178, 3) := by decide +kernel
theorem dX10_unlink_15 : decode cX10_unlink 15 = .ok (.istore_n 1, 1) := by decide +kernel
theorem dX10_unlink_16 : decode cX10_unlink 16 = .ok (.iload_n 1, 1) := by decide +kernel
theorem dX10_unlink_17 : decode cX10_unlink 17 = .ok (.ifCond .ge 5, 3) := by decide +kernel
theorem dX10_unlink_20 : decode cX10_unlink 20 = .ok (.iload_n 1, 1) := by decide +kernel
theorem dX10_unlink_21 : decode cX10_unlink 21 = .ok (.ireturn, 1) := by decide +kernel
theorem dX10_unlink_22 : decode cX10_unlink 22 = .ok (.aload_n 0, 1) := by decide +kernel
theorem dX10_unlink_23 : decode cX10_unlink 23 = .ok (.getfield 28, 3) := by decide +kernel
theorem dX10_unlink_26 : decode cX10_unlink 26 = .ok (.aload_n 0, 1) := by decide +kernel
theorem dX10_unlink_27 : decode cX10_unlink 27 = .ok (.getfield 69, 3) := by decide +kernel
theorem dX10_unlink_30 : decode cX10_unlink 30 = .ok (.getfield 181, 3) := by decide +kernel
theorem dX10_unlink_33 : decode cX10_unlink 33 = .ok (.iload_n 1, 1) := by decide +kernel
theorem dX10_unlink_34 : decode cX10_unlink 34 = .ok (.invokevirtual 184, 3) := by decide +kernel
theorem dX10_unlink_37 : decode cX10_unlink 37 = .ok (.istore_n 2, 1) := by decide +kernel
theorem dX10_unlink_38 : decode cX10_unlink 38 = .ok (.aload_n 0, 1) := by decide +kernel
theorem dX10_unlink_39 : decode cX10_unlink 39 = .ok (.getfield 28, 3) := by decide +kernel
theorem dX10_unlink_42 : decode cX10_unlink 42 = .ok (.iload_n 2, 1) := by decide +kernel
theorem dX10_unlink_43 : decode cX10_unlink 43 = .ok (.invokevirtual 168, 3) := by decide +kernel
theorem dX10_unlink_46 : decode cX10_unlink 46 = .ok (.iconst 2, 1) := by decide +kernel
theorem dX10_unlink_47 : decode cX10_unlink 47 = .ok (.if_icmp .ne 6, 3) := by decide +kernel
theorem dX10_unlink_50 : decode cX10_unlink 50 = .ok (.bipush (-4), 2) := by decide +kernel
theorem dX10_unlink_52 : decode cX10_unlink 52 = .ok (.ireturn, 1) := by decide +kernel
theorem dX10_unlink_53 : decode cX10_unlink 53 = .ok (.aload_n 0, 1) := by decide +kernel
theorem dX10_unlink_54 : decode cX10_unlink 54 = .ok (.getfield 28, 3) := by decide +kernel
theorem dX10_unlink_57 : decode cX10_unlink 57 = .ok (.iload_n 2, 1) := by decide +kernel
theorem dX10_unlink_58 : decode cX10_unlink 58 = .ok (.invokevirtual 172, 3) := by decide +kernel
theorem dX10_unlink_61 : decode cX10_unlink 61 = .ok (.iconst 1, 1) := by decide +kernel
theorem dX10_unlink_62 : decode cX10_unlink 62 = .ok (.isub, 1) := by decide +kernel
theorem dX10_unlink_63 : decode cX10_unlink 63 = .ok (.istore_n 3, 1) := by decide +kernel
theorem dX10_unlink_64 : decode cX10_unlink 64 = .ok (.aload_n 0, 1) := by decide +kernel
theorem dX10_unlink_65 : decode cX10_unlink 65 = .ok (.getfield 28, 3) := by decide +kernel
theorem dX10_unlink_68 : decode cX10_unlink 68 = .ok (.aload_n 0, 1) := by decide +kernel
theorem dX10_unlink_69 : decode cX10_unlink 69 = .ok (.getfield 69, 3) := by decide +kernel
theorem dX10_unlink_72 : decode cX10_unlink 72 = .ok (.getfield 181, 3) := by decide +kernel
theorem dX10_unlink_75 : decode cX10_unlink 75 = .ok (.iload_n 1, 1) := by decide +kernel
theorem dX10_unlink_76 : decode cX10_unlink 76 = .ok (.invokevirtual 187, 3) := by decide +kernel
theorem dX10_unlink_79 : decode cX10_unlink 79 = .ok (.aload_n 0, 1) := by decide +kernel
theorem dX10_unlink_80 : decode cX10_unlink 80 = .ok (.iload_n 2, 1) := by decide +kernel
theorem dX10_unlink_81 : decode cX10_unlink 81 = .ok (.invokevirtual 190, 3) := by decide +kernel
theorem dX10_unlink_84 : decode cX10_unlink 84 = .ok (.iload_n 3, 1) := by decide +kernel
theorem dX10_unlink_85 : decode cX10_unlink 85 = .ok (.ireturn, 1) := by decide +kernel
def m_X10_unlink (b0 fu : Nat) (a0 : Nat) (σ : tM) : Option (((Int32) ⊕ Unit) × tM) := grw σ (ckO b0 (σ) (a0) 10 (osm (tA (σ) (a0) 3) (fun a3 => ckO b0 (σ) (a3) 1 (clx (m_X1_postAhead b0 fu (a3) (σ)) (fun v7 ρ8 => ckO b0 (ρ8) (a0) 10 (osm (tA (ρ8) (a0) 7) (fun a12 => cll (m_X10_entryOfLast b0 fu (a0) (a12) (ρ8)) (fun v14 ρ15 => if (0) ≤ (v14) then ckO b0 (ρ15) (a0) 10 (osm (tA (ρ15) (a0) 2) (fun a20 => osm (tA (ρ15) (a0) 7) (fun a22 => ckO b0 (ρ15) (a22) 3 (ckO b0 (ρ15) (a20) 8 (cll (m_X8_nodeAt b0 fu (a20) (tI (ρ15) (a22) 4) (v14) (ρ15)) (fun v28 ρ29 => ckO b0 (ρ29) (a0) 10 (osm (tA (ρ29) (a0) 2) (fun a33 => ckO b0 (ρ29) (a33) 8 (cll (m_X8_kind b0 fu (a33) (v28) (ρ29)) (fun v37 ρ38 => if (v37) = (2) then some (.inl ((-4)), ρ38) else ckO b0 (ρ38) (a0) 10 (osm (tA (ρ38) (a0) 2) (fun a43 => ckO b0 (ρ38) (a43) 8 (cll (m_X8_names b0 fu (a43) (v28) (ρ38)) (fun v47 ρ48 => ltb (((v47) - (1) : Int32)) (fun y50 => ckO b0 (ρ48) (a0) 10 (osm (tA (ρ48) (a0) 2) (fun a53 => osm (tA (ρ48) (a0) 7) (fun a55 => ckO b0 (ρ48) (a55) 3 (ckO b0 (ρ48) (a53) 8 (cll (m_X8_removeEntry b0 fu (a53) (tI (ρ48) (a55) 4) (v14) (ρ48)) (fun v61 ρ62 => ckO b0 (ρ62) (a0) 10 (cll (m_X10_loseName b0 fu (a0) (v28) (ρ62)) (fun v66 ρ67 => some (.inl (y50), ρ67)))))))))))))))))))))))) else some (.inl (v14), ρ15)))))))))
set_option maxRecDepth 100000 in
set_option maxHeartbeats 1000000 in
theorem c_X10_unlink {l : Launch} {D : va_G} {aC : Nat → ClassId} {b0 fu : Nat} {a0 : Nat} {σ τ : tM} {v : (Int32) ⊕ Unit} (hm : m_X10_unlink b0 fu a0 σ = some (v, τ)) : tMt l D aC b0 yX10_unlink (Cond.code yX10_unlink cX10_unlink 4 (some .int)) 12 219 [.ref (a0)] σ (rxI "java/lang/IllegalStateException" v) τ := by
  unfold m_X10_unlink at hm
  obtain ⟨hg, hm⟩ := grw_e hm
  refine tMt_of (n := 0) rfl (Nat.le_of_ble_eq_true rfl) hg ?_
  intro p e s m below meth c C htab hin
  refine zx_lv [0] [(0, .ref (a0))] rfl ?_
  refine zx_aload_n C dX10_unlink_0 0 rfl ?_
  obtain ⟨k1, i2, hm⟩ := ckO_e hm
  obtain ⟨a3, h4, hm⟩ := osm_e hm
  refine zx_get (j := 3) C tC_10 k1 i2 ⟨by decide, Or.inl W_2_216⟩ dX10_unlink_1 (.ref a3) (rf_s h4) ?_
  obtain ⟨k5, i6, hm⟩ := ckO_e hm
  rcases clx_e hm with ⟨v7, ρ8, h9, hm⟩ | ⟨ρ8, h9, hm⟩
  · refine zx_callV (σ := σ) C [] tC_1 k5 i6 Y_X1_postAhead W_3_108 W_3_109 W_3_110 (c_X1_postAhead h9) (by decide) (by decide) rfl (Nat.le_of_ble_eq_true rfl) dX10_unlink_4 rfl ?_
    refine zx_aload_n C dX10_unlink_7 0 rfl ?_
    refine zx_aload_n C dX10_unlink_8 0 rfl ?_
    obtain ⟨k10, i11, hm⟩ := ckO_e hm
    obtain ⟨a12, h13, hm⟩ := osm_e hm
    refine zx_get (j := 7) C tC_10 k10 i11 ⟨by decide, Or.inl W_2_220⟩ dX10_unlink_9 (.ref a12) (rf_s h13) ?_
    obtain ⟨v14, ρ15, h16, hm⟩ := cll_e hm
    refine zx_callV (σ := ρ8) C [.ref (a12)] tC_10 k10 i11 Y_X10_entryOfLast W_5_28 W_5_30 Wp_32 (c_X10_entryOfLast h16) (by decide) (by decide) rfl (Nat.le_of_ble_eq_true rfl) dX10_unlink_12 rfl ?_
    refine zx_istore_n C [(1, .int (v14)), (0, .ref (a0))] dX10_unlink_15 rfl (by decide) rfl ?_
    refine zx_iload_n C dX10_unlink_16 0 rfl ?_
    refine zx_if_ge C 22 dX10_unlink_17 (by decide) (fun c17 => ?_) (fun c17 => ?_)
    · replace hm := ip_e hm c17
      refine zx_aload_n C dX10_unlink_22 1 rfl ?_
      obtain ⟨k18, i19, hm⟩ := ckO_e hm
      obtain ⟨a20, h21, hm⟩ := osm_e hm
      refine zx_get (j := 2) C tC_10 k18 i19 ⟨by decide, Or.inl W_2_215⟩ dX10_unlink_23 (.ref a20) (rf_s h21) ?_
      refine zx_aload_n C dX10_unlink_26 1 rfl ?_
      obtain ⟨a22, h23, hm⟩ := osm_e hm
      refine zx_get (j := 7) C tC_10 k18 i19 ⟨by decide, Or.inl W_2_220⟩ dX10_unlink_27 (.ref a22) (rf_s h23) ?_
      obtain ⟨k24, i25, hm⟩ := ckO_e hm
      refine zx_get (j := 4) C tC_3 k24 i25 ⟨by decide, Or.inr ⟨_, W_2_69⟩⟩ dX10_unlink_30 (.int (tI (ρ15) (a22) 4)) rfl ?_
      refine zx_iload_n C dX10_unlink_33 0 rfl ?_
      obtain ⟨k26, i27, hm⟩ := ckO_e hm
      obtain ⟨v28, ρ29, h30, hm⟩ := cll_e hm
      refine zx_callV (σ := ρ15) C [.int (tI (ρ15) (a22) 4), .int (v14)] tC_8 k26 i27 Y_X8_nodeAt W_5_32 W_4_125 W_4_126 (c_X8_nodeAt h30) (by decide) (by decide) rfl (Nat.le_of_ble_eq_true rfl) dX10_unlink_34 rfl ?_
      refine zx_istore_n C [(2, .int (v28)), (1, .int (v14)), (0, .ref (a0))] dX10_unlink_37 rfl (by decide) rfl ?_
      refine zx_aload_n C dX10_unlink_38 2 rfl ?_
      obtain ⟨k31, i32, hm⟩ := ckO_e hm
      obtain ⟨a33, h34, hm⟩ := osm_e hm
      refine zx_get (j := 2) C tC_10 k31 i32 ⟨by decide, Or.inl W_2_215⟩ dX10_unlink_39 (.ref a33) (rf_s h34) ?_
      refine zx_iload_n C dX10_unlink_42 0 rfl ?_
      obtain ⟨k35, i36, hm⟩ := ckO_e hm
      obtain ⟨v37, ρ38, h39, hm⟩ := cll_e hm
      refine zx_callV (σ := ρ29) C [.int (v28)] tC_8 k35 i36 Y_X8_kind W_5_14 W_3_80 W_3_81 (c_X8_kind h39) (by decide) (by decide) rfl (Nat.le_of_ble_eq_true rfl) dX10_unlink_43 rfl ?_
      refine zx_iconst (v := 2) C dX10_unlink_46 (by decide) ?_
      refine zx_icmp_ne C 53 dX10_unlink_47 (by decide) (fun c40 => ?_) (fun c40 => ?_)
      · replace hm := in_e hm c40
        refine zx_aload_n C dX10_unlink_53 2 rfl ?_
        obtain ⟨k41, i42, hm⟩ := ckO_e hm
        obtain ⟨a43, h44, hm⟩ := osm_e hm
        refine zx_get (j := 2) C tC_10 k41 i42 ⟨by decide, Or.inl W_2_215⟩ dX10_unlink_54 (.ref a43) (rf_s h44) ?_
        refine zx_iload_n C dX10_unlink_57 0 rfl ?_
        obtain ⟨k45, i46, hm⟩ := ckO_e hm
        obtain ⟨v47, ρ48, h49, hm⟩ := cll_e hm
        refine zx_callV (σ := ρ38) C [.int (v28)] tC_8 k45 i46 Y_X8_names W_5_15 W_4_191 W_4_192 (c_X8_names h49) (by decide) (by decide) rfl (Nat.le_of_ble_eq_true rfl) dX10_unlink_58 rfl ?_
        refine zx_iconst (v := 1) C dX10_unlink_61 (by decide) ?_
        refine zx_isub C dX10_unlink_62 ?_
        refine zx_topi (fun y50 hy50 => ?_)
        replace hm := ltb_e hm hy50
        refine zx_istore_n C [(3, .int (y50)), (2, .int (v28)), (1, .int (v14)), (0, .ref (a0))] dX10_unlink_63 rfl (by decide) rfl ?_
        refine zx_aload_n C dX10_unlink_64 3 rfl ?_
        obtain ⟨k51, i52, hm⟩ := ckO_e hm
        obtain ⟨a53, h54, hm⟩ := osm_e hm
        refine zx_get (j := 2) C tC_10 k51 i52 ⟨by decide, Or.inl W_2_215⟩ dX10_unlink_65 (.ref a53) (rf_s h54) ?_
        refine zx_aload_n C dX10_unlink_68 3 rfl ?_
        obtain ⟨a55, h56, hm⟩ := osm_e hm
        refine zx_get (j := 7) C tC_10 k51 i52 ⟨by decide, Or.inl W_2_220⟩ dX10_unlink_69 (.ref a55) (rf_s h56) ?_
        obtain ⟨k57, i58, hm⟩ := ckO_e hm
        refine zx_get (j := 4) C tC_3 k57 i58 ⟨by decide, Or.inr ⟨_, W_2_69⟩⟩ dX10_unlink_72 (.int (tI (ρ48) (a55) 4)) rfl ?_
        refine zx_iload_n C dX10_unlink_75 2 rfl ?_
        obtain ⟨k59, i60, hm⟩ := ckO_e hm
        obtain ⟨v61, ρ62, h63, hm⟩ := cll_e hm
        refine zx_callV (σ := ρ48) C [.int (tI (ρ48) (a55) 4), .int (v14)] tC_8 k59 i60 Y_X8_removeEntry W_5_33 W_5_34 W_5_35 (c_X8_removeEntry h63) (by decide) (by decide) rfl (Nat.le_of_ble_eq_true rfl) dX10_unlink_76 rfl ?_
        refine zx_aload_n C dX10_unlink_79 3 rfl ?_
        refine zx_iload_n C dX10_unlink_80 1 rfl ?_
        obtain ⟨k64, i65, hm⟩ := ckO_e hm
        obtain ⟨v66, ρ67, h68, hm⟩ := cll_e hm
        refine zx_callV (σ := ρ62) C [.int (v28)] tC_10 k64 i65 Y_X10_loseName W_5_58 W_5_60 Wp_36 (c_X10_loseName h68) (by decide) (by decide) rfl (Nat.le_of_ble_eq_true rfl) dX10_unlink_81 rfl ?_
        refine zx_iload_n C dX10_unlink_84 0 rfl ?_
        obtain ⟨rfl, rfl⟩ := ret_e hm
        exact zx_iret C rfl rfl rfl dX10_unlink_85
      · replace hm := ip_e hm c40
        refine zx_bipush (v := (-4)) C dX10_unlink_50 (by decide) ?_
        obtain ⟨rfl, rfl⟩ := ret_e hm
        exact zx_iret C rfl rfl rfl dX10_unlink_52
    · replace hm := in_e hm c17
      refine zx_iload_n C dX10_unlink_20 0 rfl ?_
      obtain ⟨rfl, rfl⟩ := ret_e hm
      exact zx_iret C rfl rfl rfl dX10_unlink_21
  · cases hm
    exact zx_outV (σ := σ) C htab [] tC_1 k5 i6 Y_X1_postAhead W_3_108 W_3_109 W_3_110 (c_X1_postAhead h9) rfl (by decide) (by decide) rfl (Nat.le_of_ble_eq_true rfl) dX10_unlink_4 rfl
abbrev cX10_rmdir : ByteArray := prog_1_method_13_code
def yX10_rmdir : MethodName := ⟨"SyncTree", "rmdir", "()I"⟩
theorem Y_X10_rmdir : tY yX10_rmdir cX10_rmdir 3 (some .int) 0 := ⟨W_5_94, W_1_1, ⟨by decide +kernel, by decide +kernel⟩, by decide +kernel⟩
theorem dX10_rmdir_0 : decode cX10_rmdir 0 = .ok (.aload_n 0, 1) := by decide +kernel
theorem dX10_rmdir_1 : decode cX10_rmdir 1 = .ok (.getfield 37, 3) := by decide +kernel
theorem dX10_rmdir_4 : decode cX10_rmdir 4 = .ok (.invokevirtual 127, 3) := by decide +kernel
theorem dX10_rmdir_7 : decode cX10_rmdir 7 = .ok (.aload_n 0, 1) := by decide +kernel
theorem dX10_rmdir_8 : decode cX10_rmdir 8 = .ok (.aload_n 0, 1) := by decide +kernel
theorem dX10_rmdir_9 : decode cX10_rmdir 9 = .ok (.getfield 69, 3) := by decide +kernel
theorem dX10_rmdir_12 : decode cX10_rmdir 12 = .ok (.invokevirtual 178, 3) := by decide +kernel
theorem dX10_rmdir_15 : decode cX10_rmdir 15 = .ok (.istore_n 1, 1) := by decide +kernel
theorem dX10_rmdir_16 : decode cX10_rmdir 16 = .ok (.iload_n 1, 1) := by decide +kernel
theorem dX10_rmdir_17 : decode cX10_rmdir 17 = .ok (.ifCond .ge 5, 3) := by decide +kernel
theorem dX10_rmdir_20 : decode cX10_rmdir 20 = .ok (.iload_n 1, 1) := by decide +kernel
theorem dX10_rmdir_21 : decode cX10_rmdir 21 = .ok (.ireturn, 1) := by decide +kernel
theorem dX10_rmdir_22 : decode cX10_rmdir 22 = .ok (.aload_n 0, 1) := by decide +kernel
theorem dX10_rmdir_23 : decode cX10_rmdir 23 = .ok (.getfield 28, 3) := by decide +kernel
theorem dX10_rmdir_26 : decode cX10_rmdir 26 = .ok (.aload_n 0, 1) := by decide +kernel
theorem dX10_rmdir_27 : decode cX10_rmdir 27 = .ok (.getfield 69, 3) := by decide +kernel
theorem dX10_rmdir_30 : decode cX10_rmdir 30 = .ok (.getfield 181, 3) := by decide +kernel
theorem dX10_rmdir_33 : decode cX10_rmdir 33 = .ok (.iload_n 1, 1) := by decide +kernel
theorem dX10_rmdir_34 : decode cX10_rmdir 34 = .ok (.invokevirtual 184, 3) := by decide +kernel
theorem dX10_rmdir_37 : decode cX10_rmdir 37 = .ok (.istore_n 2, 1) := by decide +kernel
theorem dX10_rmdir_38 : decode cX10_rmdir 38 = .ok (.aload_n 0, 1) := by decide +kernel
theorem dX10_rmdir_39 : decode cX10_rmdir 39 = .ok (.getfield 28, 3) := by decide +kernel
theorem dX10_rmdir_42 : decode cX10_rmdir 42 = .ok (.iload_n 2, 1) := by decide +kernel
theorem dX10_rmdir_43 : decode cX10_rmdir 43 = .ok (.invokevirtual 168, 3) := by decide +kernel
theorem dX10_rmdir_46 : decode cX10_rmdir 46 = .ok (.iconst 2, 1) := by decide +kernel
theorem dX10_rmdir_47 : decode cX10_rmdir 47 = .ok (.if_icmp .eq 6, 3) := by decide +kernel
theorem dX10_rmdir_50 : decode cX10_rmdir 50 = .ok (.bipush (-3), 2) := by decide +kernel
theorem dX10_rmdir_52 : decode cX10_rmdir 52 = .ok (.ireturn, 1) := by decide +kernel
theorem dX10_rmdir_53 : decode cX10_rmdir 53 = .ok (.aload_n 0, 1) := by decide +kernel
theorem dX10_rmdir_54 : decode cX10_rmdir 54 = .ok (.getfield 28, 3) := by decide +kernel
theorem dX10_rmdir_57 : decode cX10_rmdir 57 = .ok (.iload_n 2, 1) := by decide +kernel
theorem dX10_rmdir_58 : decode cX10_rmdir 58 = .ok (.invokevirtual 193, 3) := by decide +kernel
theorem dX10_rmdir_61 : decode cX10_rmdir 61 = .ok (.ifCond .eq 6, 3) := by decide +kernel
theorem dX10_rmdir_64 : decode cX10_rmdir 64 = .ok (.bipush (-5), 2) := by decide +kernel
theorem dX10_rmdir_66 : decode cX10_rmdir 66 = .ok (.ireturn, 1) := by decide +kernel
theorem dX10_rmdir_67 : decode cX10_rmdir 67 = .ok (.aload_n 0, 1) := by decide +kernel
theorem dX10_rmdir_68 : decode cX10_rmdir 68 = .ok (.getfield 28, 3) := by decide +kernel
theorem dX10_rmdir_71 : decode cX10_rmdir 71 = .ok (.aload_n 0, 1) := by decide +kernel
theorem dX10_rmdir_72 : decode cX10_rmdir 72 = .ok (.getfield 69, 3) := by decide +kernel
theorem dX10_rmdir_75 : decode cX10_rmdir 75 = .ok (.getfield 181, 3) := by decide +kernel
theorem dX10_rmdir_78 : decode cX10_rmdir 78 = .ok (.iload_n 1, 1) := by decide +kernel
theorem dX10_rmdir_79 : decode cX10_rmdir 79 = .ok (.invokevirtual 187, 3) := by decide +kernel
theorem dX10_rmdir_82 : decode cX10_rmdir 82 = .ok (.aload_n 0, 1) := by decide +kernel
theorem dX10_rmdir_83 : decode cX10_rmdir 83 = .ok (.getfield 28, 3) := by decide +kernel
theorem dX10_rmdir_86 : decode cX10_rmdir 86 = .ok (.iload_n 2, 1) := by decide +kernel
theorem dX10_rmdir_87 : decode cX10_rmdir 87 = .ok (.invokevirtual 196, 3) := by decide +kernel
theorem dX10_rmdir_90 : decode cX10_rmdir 90 = .ok (.iload_n 2, 1) := by decide +kernel
theorem dX10_rmdir_91 : decode cX10_rmdir 91 = .ok (.ireturn, 1) := by decide +kernel
def m_X10_rmdir (b0 fu : Nat) (a0 : Nat) (σ : tM) : Option (((Int32) ⊕ Unit) × tM) := grw σ (ckO b0 (σ) (a0) 10 (osm (tA (σ) (a0) 3) (fun a3 => ckO b0 (σ) (a3) 1 (clx (m_X1_postAhead b0 fu (a3) (σ)) (fun v7 ρ8 => ckO b0 (ρ8) (a0) 10 (osm (tA (ρ8) (a0) 7) (fun a12 => cll (m_X10_entryOfLast b0 fu (a0) (a12) (ρ8)) (fun v14 ρ15 => if (0) ≤ (v14) then ckO b0 (ρ15) (a0) 10 (osm (tA (ρ15) (a0) 2) (fun a20 => osm (tA (ρ15) (a0) 7) (fun a22 => ckO b0 (ρ15) (a22) 3 (ckO b0 (ρ15) (a20) 8 (cll (m_X8_nodeAt b0 fu (a20) (tI (ρ15) (a22) 4) (v14) (ρ15)) (fun v28 ρ29 => ckO b0 (ρ29) (a0) 10 (osm (tA (ρ29) (a0) 2) (fun a33 => ckO b0 (ρ29) (a33) 8 (cll (m_X8_kind b0 fu (a33) (v28) (ρ29)) (fun v37 ρ38 => if (v37) = (2) then ckO b0 (ρ38) (a0) 10 (osm (tA (ρ38) (a0) 2) (fun a43 => ckO b0 (ρ38) (a43) 8 (cll (m_X8_countEntries b0 fu (a43) (v28) (ρ38)) (fun v47 ρ48 => if (v47) = (0) then ckO b0 (ρ48) (a0) 10 (osm (tA (ρ48) (a0) 2) (fun a53 => osm (tA (ρ48) (a0) 7) (fun a55 => ckO b0 (ρ48) (a55) 3 (ckO b0 (ρ48) (a53) 8 (cll (m_X8_removeEntry b0 fu (a53) (tI (ρ48) (a55) 4) (v14) (ρ48)) (fun v61 ρ62 => ckO b0 (ρ62) (a0) 10 (osm (tA (ρ62) (a0) 2) (fun a66 => ckO b0 (ρ62) (a66) 8 (cll (m_X8_discard b0 fu (a66) (v28) (ρ62)) (fun v70 ρ71 => some (.inl (v28), ρ71))))))))))) else some (.inl ((-5)), ρ48))))) else some (.inl ((-3)), ρ38))))))))))) else some (.inl (v14), ρ15)))))))))
set_option maxRecDepth 100000 in
set_option maxHeartbeats 1000000 in
theorem c_X10_rmdir {l : Launch} {D : va_G} {aC : Nat → ClassId} {b0 fu : Nat} {a0 : Nat} {σ τ : tM} {v : (Int32) ⊕ Unit} (hm : m_X10_rmdir b0 fu a0 σ = some (v, τ)) : tMt l D aC b0 yX10_rmdir (Cond.code yX10_rmdir cX10_rmdir 3 (some .int)) 12 219 [.ref (a0)] σ (rxI "java/lang/IllegalStateException" v) τ := by
  unfold m_X10_rmdir at hm
  obtain ⟨hg, hm⟩ := grw_e hm
  refine tMt_of (n := 0) rfl (Nat.le_of_ble_eq_true rfl) hg ?_
  intro p e s m below meth c C htab hin
  refine zx_lv [0] [(0, .ref (a0))] rfl ?_
  refine zx_aload_n C dX10_rmdir_0 0 rfl ?_
  obtain ⟨k1, i2, hm⟩ := ckO_e hm
  obtain ⟨a3, h4, hm⟩ := osm_e hm
  refine zx_get (j := 3) C tC_10 k1 i2 ⟨by decide, Or.inl W_2_216⟩ dX10_rmdir_1 (.ref a3) (rf_s h4) ?_
  obtain ⟨k5, i6, hm⟩ := ckO_e hm
  rcases clx_e hm with ⟨v7, ρ8, h9, hm⟩ | ⟨ρ8, h9, hm⟩
  · refine zx_callV (σ := σ) C [] tC_1 k5 i6 Y_X1_postAhead W_3_108 W_3_109 W_3_110 (c_X1_postAhead h9) (by decide) (by decide) rfl (Nat.le_of_ble_eq_true rfl) dX10_rmdir_4 rfl ?_
    refine zx_aload_n C dX10_rmdir_7 0 rfl ?_
    refine zx_aload_n C dX10_rmdir_8 0 rfl ?_
    obtain ⟨k10, i11, hm⟩ := ckO_e hm
    obtain ⟨a12, h13, hm⟩ := osm_e hm
    refine zx_get (j := 7) C tC_10 k10 i11 ⟨by decide, Or.inl W_2_220⟩ dX10_rmdir_9 (.ref a12) (rf_s h13) ?_
    obtain ⟨v14, ρ15, h16, hm⟩ := cll_e hm
    refine zx_callV (σ := ρ8) C [.ref (a12)] tC_10 k10 i11 Y_X10_entryOfLast W_5_28 W_5_30 Wp_32 (c_X10_entryOfLast h16) (by decide) (by decide) rfl (Nat.le_of_ble_eq_true rfl) dX10_rmdir_12 rfl ?_
    refine zx_istore_n C [(1, .int (v14)), (0, .ref (a0))] dX10_rmdir_15 rfl (by decide) rfl ?_
    refine zx_iload_n C dX10_rmdir_16 0 rfl ?_
    refine zx_if_ge C 22 dX10_rmdir_17 (by decide) (fun c17 => ?_) (fun c17 => ?_)
    · replace hm := ip_e hm c17
      refine zx_aload_n C dX10_rmdir_22 1 rfl ?_
      obtain ⟨k18, i19, hm⟩ := ckO_e hm
      obtain ⟨a20, h21, hm⟩ := osm_e hm
      refine zx_get (j := 2) C tC_10 k18 i19 ⟨by decide, Or.inl W_2_215⟩ dX10_rmdir_23 (.ref a20) (rf_s h21) ?_
      refine zx_aload_n C dX10_rmdir_26 1 rfl ?_
      obtain ⟨a22, h23, hm⟩ := osm_e hm
      refine zx_get (j := 7) C tC_10 k18 i19 ⟨by decide, Or.inl W_2_220⟩ dX10_rmdir_27 (.ref a22) (rf_s h23) ?_
      obtain ⟨k24, i25, hm⟩ := ckO_e hm
      refine zx_get (j := 4) C tC_3 k24 i25 ⟨by decide, Or.inr ⟨_, W_2_69⟩⟩ dX10_rmdir_30 (.int (tI (ρ15) (a22) 4)) rfl ?_
      refine zx_iload_n C dX10_rmdir_33 0 rfl ?_
      obtain ⟨k26, i27, hm⟩ := ckO_e hm
      obtain ⟨v28, ρ29, h30, hm⟩ := cll_e hm
      refine zx_callV (σ := ρ15) C [.int (tI (ρ15) (a22) 4), .int (v14)] tC_8 k26 i27 Y_X8_nodeAt W_5_32 W_4_125 W_4_126 (c_X8_nodeAt h30) (by decide) (by decide) rfl (Nat.le_of_ble_eq_true rfl) dX10_rmdir_34 rfl ?_
      refine zx_istore_n C [(2, .int (v28)), (1, .int (v14)), (0, .ref (a0))] dX10_rmdir_37 rfl (by decide) rfl ?_
      refine zx_aload_n C dX10_rmdir_38 2 rfl ?_
      obtain ⟨k31, i32, hm⟩ := ckO_e hm
      obtain ⟨a33, h34, hm⟩ := osm_e hm
      refine zx_get (j := 2) C tC_10 k31 i32 ⟨by decide, Or.inl W_2_215⟩ dX10_rmdir_39 (.ref a33) (rf_s h34) ?_
      refine zx_iload_n C dX10_rmdir_42 0 rfl ?_
      obtain ⟨k35, i36, hm⟩ := ckO_e hm
      obtain ⟨v37, ρ38, h39, hm⟩ := cll_e hm
      refine zx_callV (σ := ρ29) C [.int (v28)] tC_8 k35 i36 Y_X8_kind W_5_14 W_3_80 W_3_81 (c_X8_kind h39) (by decide) (by decide) rfl (Nat.le_of_ble_eq_true rfl) dX10_rmdir_43 rfl ?_
      refine zx_iconst (v := 2) C dX10_rmdir_46 (by decide) ?_
      refine zx_icmp_eq C 53 dX10_rmdir_47 (by decide) (fun c40 => ?_) (fun c40 => ?_)
      · replace hm := ip_e hm c40
        refine zx_aload_n C dX10_rmdir_53 2 rfl ?_
        obtain ⟨k41, i42, hm⟩ := ckO_e hm
        obtain ⟨a43, h44, hm⟩ := osm_e hm
        refine zx_get (j := 2) C tC_10 k41 i42 ⟨by decide, Or.inl W_2_215⟩ dX10_rmdir_54 (.ref a43) (rf_s h44) ?_
        refine zx_iload_n C dX10_rmdir_57 0 rfl ?_
        obtain ⟨k45, i46, hm⟩ := ckO_e hm
        obtain ⟨v47, ρ48, h49, hm⟩ := cll_e hm
        refine zx_callV (σ := ρ38) C [.int (v28)] tC_8 k45 i46 Y_X8_countEntries W_5_95 W_5_96 W_5_97 (c_X8_countEntries h49) (by decide) (by decide) rfl (Nat.le_of_ble_eq_true rfl) dX10_rmdir_58 rfl ?_
        refine zx_if_eq C 67 dX10_rmdir_61 (by decide) (fun c50 => ?_) (fun c50 => ?_)
        · replace hm := ip_e hm c50
          refine zx_aload_n C dX10_rmdir_67 2 rfl ?_
          obtain ⟨k51, i52, hm⟩ := ckO_e hm
          obtain ⟨a53, h54, hm⟩ := osm_e hm
          refine zx_get (j := 2) C tC_10 k51 i52 ⟨by decide, Or.inl W_2_215⟩ dX10_rmdir_68 (.ref a53) (rf_s h54) ?_
          refine zx_aload_n C dX10_rmdir_71 2 rfl ?_
          obtain ⟨a55, h56, hm⟩ := osm_e hm
          refine zx_get (j := 7) C tC_10 k51 i52 ⟨by decide, Or.inl W_2_220⟩ dX10_rmdir_72 (.ref a55) (rf_s h56) ?_
          obtain ⟨k57, i58, hm⟩ := ckO_e hm
          refine zx_get (j := 4) C tC_3 k57 i58 ⟨by decide, Or.inr ⟨_, W_2_69⟩⟩ dX10_rmdir_75 (.int (tI (ρ48) (a55) 4)) rfl ?_
          refine zx_iload_n C dX10_rmdir_78 1 rfl ?_
          obtain ⟨k59, i60, hm⟩ := ckO_e hm
          obtain ⟨v61, ρ62, h63, hm⟩ := cll_e hm
          refine zx_callV (σ := ρ48) C [.int (tI (ρ48) (a55) 4), .int (v14)] tC_8 k59 i60 Y_X8_removeEntry W_5_33 W_5_34 W_5_35 (c_X8_removeEntry h63) (by decide) (by decide) rfl (Nat.le_of_ble_eq_true rfl) dX10_rmdir_79 rfl ?_
          refine zx_aload_n C dX10_rmdir_82 2 rfl ?_
          obtain ⟨k64, i65, hm⟩ := ckO_e hm
          obtain ⟨a66, h67, hm⟩ := osm_e hm
          refine zx_get (j := 2) C tC_10 k64 i65 ⟨by decide, Or.inl W_2_215⟩ dX10_rmdir_83 (.ref a66) (rf_s h67) ?_
          refine zx_iload_n C dX10_rmdir_86 0 rfl ?_
          obtain ⟨k68, i69, hm⟩ := ckO_e hm
          obtain ⟨v70, ρ71, h72, hm⟩ := cll_e hm
          refine zx_callV (σ := ρ62) C [.int (v28)] tC_8 k68 i69 Y_X8_discard W_5_62 W_5_63 W_5_64 (c_X8_discard h72) (by decide) (by decide) rfl (Nat.le_of_ble_eq_true rfl) dX10_rmdir_87 rfl ?_
          refine zx_iload_n C dX10_rmdir_90 0 rfl ?_
          obtain ⟨rfl, rfl⟩ := ret_e hm
          exact zx_iret C rfl rfl rfl dX10_rmdir_91
        · replace hm := in_e hm c50
          refine zx_bipush (v := (-5)) C dX10_rmdir_64 (by decide) ?_
          obtain ⟨rfl, rfl⟩ := ret_e hm
          exact zx_iret C rfl rfl rfl dX10_rmdir_66
      · replace hm := in_e hm c40
        refine zx_bipush (v := (-3)) C dX10_rmdir_50 (by decide) ?_
        obtain ⟨rfl, rfl⟩ := ret_e hm
        exact zx_iret C rfl rfl rfl dX10_rmdir_52
    · replace hm := in_e hm c17
      refine zx_iload_n C dX10_rmdir_20 0 rfl ?_
      obtain ⟨rfl, rfl⟩ := ret_e hm
      exact zx_iret C rfl rfl rfl dX10_rmdir_21
  · cases hm
    exact zx_outV (σ := σ) C htab [] tC_1 k5 i6 Y_X1_postAhead W_3_108 W_3_109 W_3_110 (c_X1_postAhead h9) rfl (by decide) (by decide) rfl (Nat.le_of_ble_eq_true rfl) dX10_rmdir_4 rfl
