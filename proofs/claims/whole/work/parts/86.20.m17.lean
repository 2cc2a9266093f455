abbrev cX10_unlink : ByteArray := prog_1_method_12_code
def yX10_unlink : MethodName := ⟨"SyncTree", "unlink", "()I"⟩
theorem Y_X10_unlink : tY yX10_unlink cX10_unlink 4 (some .int) 0 := ⟨W_5_27, W_1_1, ⟨by decide +kernel, by decide +kernel⟩, by decide +kernel⟩
theorem dX10_unlink_0 : decode cX10_unlink 0 = .ok (.aload_n 0, 1) := by decide +kernel
theorem dX10_unlink_1 : decode cX10_unlink 1 = .ok (.getfield 37, 3) := by decide +kernel
theorem dX10_unlink_4 : decode cX10_unlink 4 = .ok (.invokevirtual 127, 3) := by decide +kernel
theorem dX10_unlink_7 : decode cX10_unlink 7 = .ok (.aload_n 0, 1) := by decide +kernel
theorem dX10_unlink_8 : decode cX10_unlink 8 = .ok (.aload_n 0, 1) := by decide +kernel
theorem dX10_unlink_9 : decode cX10_unlink 9 = .ok (.getfield 69, 3) := by decide +kernel
theorem dX10_unlink_12 : decode cX10_unlink 12 = .ok (.invokevirtual 178, 3) := by decide +kernel
theorem dX10_unlink_15 : decode cX10_unlink 15 = .ok (.istore_n 1, 1) := by decide +kernel
theorem dX10_unlink_16 : decode cX10_unlink 16 = .ok (.iload_n 1, 1) := by decide +kernel
theorem dX10_unlink_17 : decode cX10_unlink 17 = .ok (.ifCond .ge 5, 3) := by decide +kernel
theorem dX10_unlink_20 : decode cX10_unlink 20 = .ok (.iload_n 1, 1) := by decide +kernel
theorem dX10_unlink_21 : decode cX10_unlink 21 = .ok (.ireturn, 1) := by decide +kernel
theorem dX10_unlink_22 : decode cX10_unlink 22 = .ok (.aload_n 0, 1) := by decide +kernel
theorem dX10_unlink_23 : decode cX10_unlink 23 = .ok (.getfield 28, 3) := by decide +kernel
theorem dX10_unlink_26 : decode cX10_unlink 26 = .ok (.aload_n 0, 1) := by decide +kernel
theorem dX10_unlink_27 : decode cX10_unlink 27 = .ok (.getfield 69, 3) := by decide +kernel
theorem dX10_unlink_30 : decode cX10_unlink 30 = .ok (.getfield 181, 3) := by decide +kernel
theorem dX10_unlink_33 : decode cX10_unlink 33 = .ok (.iload_n 1, 1) := by decide +kernel
theorem dX10_unlink_34 : decode cX10_unlink 34 = .ok (.invokevirtual 184, 3) := by decide +kernel
theorem dX10_unlink_37 : decode cX10_unlink 37 = .ok (.istore_n 2, 1) := by decide +kernel
theorem dX10_unlink_38 : decode cX10_unlink 38 = .ok (.aload_n 0, 1) := by decide +kernel
theorem dX10_unlink_39 : decode cX10_unlink 39 = .ok (.getfield 28, 3) := by decide +kernel
theorem dX10_unlink_42 : decode cX10_unlink 42 = .ok (.iload_n 2, 1) := by decide +kernel
theorem dX10_unlink_43 : decode cX10_unlink 43 = .ok (.invokevirtual 168, 3) := by decide +kernel
theorem dX10_unlink_46 : decode cX10_unlink 46 = .ok (.iconst 2, 1) := by decide +kernel
theorem dX10_unlink_47 : decode cX10_unlink 47 = .ok (.if_icmp .ne 6, 3) := by decide +kernel
theorem dX10_unlink_50 : decode cX10_unlink 50 = .ok (.bipush (-4), 2) := by decide +kernel
theorem dX10_unlink_52 : decode cX10_unlink 52 = .ok (.ireturn, 1) := by decide +kernel
theorem dX10_unlink_53 : decode cX10_unlink 53 = .ok (.aload_n 0, 1) := by decide +kernel
theorem dX10_unlink_54 : decode cX10_unlink 54 = .ok (.getfield 28, 3) := by decide +kernel
theorem dX10_unlink_57 : decode cX10_unlink 57 = .ok (.iload_n 2, 1) := by decide +kernel
theorem dX10_unlink_58 : decode cX10_unlink 58 = .ok (.invokevirtual 172, 3) := by decide +kernel
theorem dX10_unlink_61 : decode cX10_unlink 61 = .ok (.iconst 1, 1) := by decide +kernel
theorem dX10_unlink_62 : decode cX10_unlink 62 = .ok (.isub, 1) := by decide +kernel
theorem dX10_unlink_63 : decode cX10_unlink 63 = .ok (.istore_n 3, 1) := by decide +kernel
theorem dX10_unlink_64 : decode cX10_unlink 64 = .ok (.aload_n 0, 1) := by decide +kernel
theorem dX10_unlink_65 : decode cX10_unlink 65 = .ok (.getfield 28, 3) := by decide +kernel
theorem dX10_unlink_68 : decode cX10_unlink 68 = .ok (.aload_n 0, 1) := by decide +kernel
theorem dX10_unlink_69 : decode cX10_unlink 69 = .ok (.getfield 69, 3) := by decide +kernel
theorem dX10_unlink_72 : decode cX10_unlink 72 = .ok (.getfield 181, 3) := by decide +kernel
theorem dX10_unlink_75 : decode cX10_unlink 75 = .ok (.iload_n 1, 1) := by decide +kernel
theorem dX10_unlink_76 : decode cX10_unlink 76 = .ok (.invokevirtual 187, 3) := by decide +kernel
theorem dX10_unlink_79 : decode cX10_unlink 79 = .ok (.aload_n 0, 1) := by decide +kernel
theorem dX10_unlink_80 : decode cX10_unlink 80 = .ok (.iload_n 2, 1) := by decide +kernel
theorem dX10_unlink_81 : decode cX10_unlink 81 = .ok (.invokevirtual 190, 3) := by decide +kernel
theorem dX10_unlink_84 : decode cX10_unlink 84 = .ok (.iload_n 3, 1) := by decide +kernel
theorem dX10_unlink_85 : decode cX10_unlink 85 = .ok (.ireturn, 1) := by decide +kernel
set_option maxRecDepth 100000 in
set_option maxHeartbeats 1000000 in
theorem c_X10_unlink {l : Launch} {D : va_G} {aC : Nat → ClassId} {b0 fu : Nat} {a0 : Nat} {σ τ : tM} {v : (Int32) ⊕ Unit} (hm : m_X10_unlink b0 fu a0 σ = some (v, τ)) : tMt l D aC b0 yX10_unlink (Cond.code yX10_unlink cX10_unlink 4 (some .int)) 12 219 [.ref (a0)] σ (rxI "java/lang/IllegalStateException" v) τ := by
  unfold m_X10_unlink at hm
  obtain ⟨hg, hm⟩ := grw_e hm
  refine tMt_of (n := 0) rfl (Nat.le_of_ble_eq_true rfl) hg ?_
  intro p e s m below meth c C htab hin
  refine zx_lv [0] [(0, .ref (a0))] rfl ?_
  refine zx_aload_n C dX10_unlink_0 0 rfl ?_
  obtain ⟨k1, i2, hm⟩ := ckO_e hm
  obtain ⟨a3, h4, hm⟩ := osm_e hm
  refine zx_get (j := 3) C tC_10 k1 i2 ⟨by decide, Or.inl W_2_216⟩ dX10_unlink_1 (.ref a3) (rf_s h4) ?_
  obtain ⟨k5, i6, hm⟩ := ckO_e hm
  rcases clx_e hm with ⟨v7, ρ8, h9, hm⟩ | ⟨ρ8, h9, hm⟩
  · refine zx_callV (σ := σ) C [] tC_1 k5 i6 Y_X1_postAhead W_3_108 W_3_109 W_3_110 (c_X1_postAhead h9) (by decide) (by decide) rfl (Nat.le_of_ble_eq_true rfl) dX10_unlink_4 rfl ?_
    refine zx_aload_n C dX10_unlink_7 0 rfl ?_
    refine zx_aload_n C dX10_unlink_8 0 rfl ?_
    obtain ⟨k10, i11, hm⟩ := ckO_e hm
    obtain ⟨a12, h13, hm⟩ := osm_e hm
    refine zx_get (j := 7) C tC_10 k10 i11 ⟨by decide, Or.inl W_2_220⟩ dX10_unlink_9 (.ref a12) (rf_s h13) ?_
    obtain ⟨v14, ρ15, h16, hm⟩ := cll_e hm
    refine zx_callV (σ := ρ8) C [.ref (a12)] tC_10 k10 i11 Y_X10_entryOfLast W_5_28 W_5_30 Wp_32 (c_X10_entryOfLast h16) (by decide) (by decide) rfl (Nat.le_of_ble_eq_true rfl) dX10_unlink_12 rfl ?_
    refine zx_istore_n C [(1, .int (v14)), (0, .ref (a0))] dX10_unlink_15 rfl (by decide) rfl ?_
    refine zx_iload_n C dX10_unlink_16 0 rfl ?_
    refine zx_if_ge C 22 dX10_unlink_17 (by decide) (fun c17 => ?_) (fun c17 => ?_)
    · replace hm := ip_e hm c17
      refine zx_aload_n C dX10_unlink_22 1 rfl ?_
      obtain ⟨k18, i19, hm⟩ := ckO_e hm
      obtain ⟨a20, h21, hm⟩ := osm_e hm
      refine zx_get (j := 2) C tC_10 k18 i19 ⟨by decide, Or.inl W_2_215⟩ dX10_unlink_23 (.ref a20) (rf_s h21) ?_
      refine zx_aload_n C dX10_unlink_26 1 rfl ?_
      obtain ⟨a22, h23, hm⟩ := osm_e hm
      refine zx_get (j := 7) C tC_10 k18 i19 ⟨by decide, Or.inl W_2_220⟩ dX10_unlink_27 (.ref a22) (rf_s h23) ?_
      obtain ⟨k24, i25, hm⟩ := ckO_e hm
      refine zx_get (j := 4) C tC_3 k24 i25 ⟨by decide, Or.inr ⟨_, W_2_69⟩⟩ dX10_unlink_30 (.int (tI (ρ15) (a22) 4)) rfl ?_
      refine zx_iload_n C dX10_unlink_33 0 rfl ?_
      obtain ⟨k26, i27, hm⟩ := ckO_e hm
      obtain ⟨v28, ρ29, h30, hm⟩ := cll_e hm
      refine zx_callV (σ := ρ15) C [.int (tI (ρ15) (a22) 4), .int (v14)] tC_8 k26 i27 Y_X8_nodeAt W_5_32 W_4_125 W_4_126 (c_X8_nodeAt h30) (by decide) (by decide) rfl (Nat.le_of_ble_eq_true rfl) dX10_unlink_34 rfl ?_
      refine zx_istore_n C [(2, .int (v28)), (1, .int (v14)), (0, .ref (a0))] dX10_unlink_37 rfl (by decide) rfl ?_
      refine zx_aload_n C dX10_unlink_38 2 rfl ?_
      obtain ⟨k31, i32, hm⟩ := ckO_e hm
      obtain ⟨a33, h34, hm⟩ := osm_e hm
      refine zx_get (j := 2) C tC_10 k31 i32 ⟨by decide, Or.inl W_2_215⟩ dX10_unlink_39 (.ref a33) (rf_s h34) ?_
      refine zx_iload_n C dX10_unlink_42 0 rfl ?_
      obtain ⟨k35, i36, hm⟩ := ckO_e hm
      obtain ⟨v37, ρ38, h39, hm⟩ := cll_e hm
      refine zx_callV (σ := ρ29) C [.int (v28)] tC_8 k35 i36 Y_X8_kind W_5_14 W_3_80 W_3_81 (c_X8_kind h39) (by decide) (by decide) rfl (Nat.le_of_ble_eq_true rfl) dX10_unlink_43 rfl ?_
      refine zx_iconst (v := 2) C dX10_unlink_46 (by decide) ?_
      refine zx_icmp_ne C 53 dX10_unlink_47 (by decide) (fun c40 => ?_) (fun c40 => ?_)
      · replace hm := in_e hm c40
        refine zx_aload_n C dX10_unlink_53 2 rfl ?_
        obtain ⟨k41, i42, hm⟩ := ckO_e hm
        obtain ⟨a43, h44, hm⟩ := osm_e hm
        refine zx_get (j := 2) C tC_10 k41 i42 ⟨by decide, Or.inl W_2_215⟩ dX10_unlink_54 (.ref a43) (rf_s h44) ?_
        refine zx_iload_n C dX10_unlink_57 0 rfl ?_
        obtain ⟨k45, i46, hm⟩ := ckO_e hm
        obtain ⟨v47, ρ48, h49, hm⟩ := cll_e hm
        refine zx_callV (σ := ρ38) C [.int (v28)] tC_8 k45 i46 Y_X8_names W_5_15 W_4_191 W_4_192 (c_X8_names h49) (by decide) (by decide) rfl (Nat.le_of_ble_eq_true rfl) dX10_unlink_58 rfl ?_
        refine zx_iconst (v := 1) C dX10_unlink_61 (by decide) ?_
        refine zx_isub C dX10_unlink_62 ?_
        refine zx_topi (fun y50 hy50 => ?_)
        replace hm := ltb_e hm hy50
        refine zx_istore_n C [(3, .int (y50)), (2, .int (v28)), (1, .int (v14)), (0, .ref (a0))] dX10_unlink_63 rfl (by decide) rfl ?_
        refine zx_aload_n C dX10_unlink_64 3 rfl ?_
        obtain ⟨k51, i52, hm⟩ := ckO_e hm
        obtain ⟨a53, h54, hm⟩ := osm_e hm
        refine zx_get (j := 2) C tC_10 k51 i52 ⟨by decide, Or.inl W_2_215⟩ dX10_unlink_65 (.ref a53) (rf_s h54) ?_
        refine zx_aload_n C dX10_unlink_68 3 rfl ?_
        obtain ⟨a55, h56, hm⟩ := osm_e hm
        refine zx_get (j := 7) C tC_10 k51 i52 ⟨by decide, Or.inl W_2_220⟩ dX10_unlink_69 (.ref a55) (rf_s h56) ?_
        obtain ⟨k57, i58, hm⟩ := ckO_e hm
        refine zx_get (j := 4) C tC_3 k57 i58 ⟨by decide, Or.inr ⟨_, W_2_69⟩⟩ dX10_unlink_72 (.int (tI (ρ48) (a55) 4)) rfl ?_
        refine zx_iload_n C dX10_unlink_75 2 rfl ?_
        obtain ⟨k59, i60, hm⟩ := ckO_e hm
        obtain ⟨v61, ρ62, h63, hm⟩ := cll_e hm
        refine zx_callV (σ := ρ48) C [.int (tI (ρ48) (a55) 4), .int (v14)] tC_8 k59 i60 Y_X8_removeEntry W_5_33 W_5_34 W_5_35 (c_X8_removeEntry h63) (by decide) (by decide) rfl (Nat.le_of_ble_eq_true rfl) dX10_unlink_76 rfl ?_
        refine zx_aload_n C dX10_unlink_79 3 rfl ?_
        refine zx_iload_n C dX10_unlink_80 1 rfl ?_
        obtain ⟨k64, i65, hm⟩ := ckO_e hm
        obtain ⟨v66, ρ67, h68, hm⟩ := cll_e hm
        refine zx_callV (σ := ρ62) C [.int (v28)] tC_10 k64 i65 Y_X10_loseName W_5_58 W_5_60 Wp_36 (c_X10_loseName h68) (by decide) (by decide) rfl (Nat.le_of_ble_eq_true rfl) dX10_unlink_81 rfl ?_
        refine zx_iload_n C dX10_unlink_84 0 rfl ?_
        obtain ⟨rfl, rfl⟩ := ret_e hm
        exact zx_iret C rfl rfl rfl dX10_unlink_85
      · replace hm := ip_e hm c40
        refine zx_bipush (v := (-4)) C dX10_unlink_50 (by decide) ?_
        obtain ⟨rfl, rfl⟩ := ret_e hm
        exact zx_iret C rfl rfl rfl dX10_unlink_52
    · replace hm := in_e hm c17
      refine zx_iload_n C dX10_unlink_20 0 rfl ?_
      obtain ⟨rfl, rfl⟩ := ret_e hm
      exact zx_iret C rfl rfl rfl dX10_unlink_21
  · cases hm
    exact zx_outV (σ := σ) C htab [] tC_1 k5 i6 Y_X1_postAhead W_3_108 W_3_109 W_3_110 (c_X1_postAhead h9) rfl (by decide) (by decide) rfl (Nat.le_of_ble_eq_true rfl) dX10_unlink_4 rfl
abbrev cX10_rmdir : ByteArray := prog_1_method_13_code
def yX10_rmdir : MethodName := ⟨"SyncTree", "rmdir", "()I"⟩
theorem Y_X10_rmdir : tY yX10_rmdir cX10_rmdir 3 (some .int) 0 := ⟨W_5_94, W_1_1, ⟨by decide +kernel, by decide +kernel⟩, by decide +kernel⟩
theorem dX10_rmdir_0 : decode cX10_rmdir 0 = .ok (.aload_n 0, 1) := by decide +kernel
theorem dX10_rmdir_1 : decode cX10_rmdir 1 = .ok (.getfield 37, 3) := by decide +kernel
theorem dX10_rmdir_4 : decode cX10_rmdir 4 = .ok (.invokevirtual 127, 3) := by decide +kernel
theorem dX10_rmdir_7 : decode cX10_rmdir 7 = .ok (.aload_n 0, 1) := by decide +kernel
theorem dX10_rmdir_8 : decode cX10_rmdir 8 = .ok (.aload_n 0, 1) := by decide +kernel
theorem dX10_rmdir_9 : decode cX10_rmdir 9 = .ok (.getfield 69, 3) := by decide +kernel
theorem dX10_rmdir_12 : decode cX10_rmdir 12 = .ok (.invokevirtual 178, 3) := by decide +kernel
theorem dX10_rmdir_15 : decode cX10_rmdir 15 = .ok (.istore_n 1, 1) := by decide +kernel
theorem dX10_rmdir_16 : decode cX10_rmdir 16 = .ok (.iload_n 1, 1) := by decide +kernel
theorem dX10_rmdir_17 : decode cX10_rmdir 17 = .ok (.ifCond .ge 5, 3) := by decide +kernel
theorem dX10_rmdir_20 : decode cX10_rmdir 20 = .ok (.iload_n 1, 1) := by decide +kernel
theorem dX10_rmdir_21 : decode cX10_rmdir 21 = .ok (.ireturn, 1) := by decide +kernel
theorem dX10_rmdir_22 : decode cX10_rmdir 22 = .ok (.aload_n 0, 1) := by decide +kernel
theorem dX10_rmdir_23 : decode cX10_rmdir 23 = .ok (.getfield 28, 3) := by decide +kernel
theorem dX10_rmdir_26 : decode cX10_rmdir 26 = .ok (.aload_n 0, 1) := by decide +kernel
theorem dX10_rmdir_27 : decode cX10_rmdir 27 = .ok (.getfield 69, 3) := by decide +kernel
theorem dX10_rmdir_30 : decode cX10_rmdir 30 = .ok (.getfield 181, 3) := by decide +kernel
theorem dX10_rmdir_33 : decode cX10_rmdir 33 = .ok (.iload_n 1, 1) := by decide +kernel
theorem dX10_rmdir_34 : decode cX10_rmdir 34 = .ok (.invokevirtual 184, 3) := by decide +kernel
theorem dX10_rmdir_37 : decode cX10_rmdir 37 = .ok (.istore_n 2, 1) := by decide +kernel
theorem dX10_rmdir_38 : decode cX10_rmdir 38 = .ok (.aload_n 0, 1) := by decide +kernel
theorem dX10_rmdir_39 : decode cX10_rmdir 39 = .ok (.getfield 28, 3) := by decide +kernel
theorem dX10_rmdir_42 : decode cX10_rmdir 42 = .ok (.iload_n 2, 1) := by decide +kernel
theorem dX10_rmdir_43 : decode cX10_rmdir 43 = .ok (.invokevirtual 168, 3) := by decide +kernel
theorem dX10_rmdir_46 : decode cX10_rmdir 46 = .ok (.iconst 2, 1) := by decide +kernel
theorem dX10_rmdir_47 : decode cX10_rmdir 47 = .ok (.if_icmp .eq 6, 3) := by decide +kernel
theorem dX10_rmdir_50 : decode cX10_rmdir 50 = .ok (.bipush (-3), 2) := by decide +kernel
theorem dX10_rmdir_52 : decode cX10_rmdir 52 = .ok (.ireturn, 1) := by decide +kernel
theorem dX10_rmdir_53 : decode cX10_rmdir 53 = .ok (.aload_n 0, 1) := by decide +kernel
theorem dX10_rmdir_54 : decode cX10_rmdir 54 = .ok (.getfield 28, 3) := by decide +kernel
theorem dX10_rmdir_57 : decode cX10_rmdir 57 = .ok (.iload_n 2, 1) := by decide +kernel
theorem dX10_rmdir_58 : decode cX10_rmdir 58 = .ok (.invokevirtual 193, 3) := by decide +kernel
theorem dX10_rmdir_61 : decode cX10_rmdir 61 = .ok (.ifCond .eq 6, 3) := by decide +kernel
theorem dX10_rmdir_64 : decode cX10_rmdir 64 = .ok (.bipush (-5), 2) := by decide +kernel
theorem dX10_rmdir_66 : decode cX10_rmdir 66 = .ok (.ireturn, 1) := by decide +kernel
theorem dX10_rmdir_67 : decode cX10_rmdir 67 = .ok (.aload_n 0, 1) := by decide +kernel
theorem dX10_rmdir_68 : decode cX10_rmdir 68 = .ok (.getfield 28, 3) := by decide +kernel
theorem dX10_rmdir_71 : decode cX10_rmdir 71 = .ok (.aload_n 0, 1) := by decide +kernel
theorem dX10_rmdir_72 : decode cX10_rmdir 72 = .ok (.getfield 69, 3) := by decide +kernel
theorem dX10_rmdir_75 : decode cX10_rmdir 75 = .ok (.getfield 181, 3) := by decide +kernel
theorem dX10_rmdir_78 : decode cX10_rmdir 78 = .ok (.iload_n 1, 1) := by decide +kernel
theorem dX10_rmdir_79 : decode cX10_rmdir 79 = .ok (.invokevirtual 187, 3) := by decide +kernel
theorem dX10_rmdir_82 : decode cX10_rmdir 82 = .ok (.aload_n 0, 1) := by decide +kernel
theorem dX10_rmdir_83 : decode cX10_rmdir 83 = .ok (.getfield 28, 3) := by decide +kernel
theorem dX10_rmdir_86 : decode cX10_rmdir 86 = .ok (.iload_n 2, 1) := by decide +kernel
theorem dX10_rmdir_87 : decode cX10_rmdir 87 = .ok (.invokevirtual 196, 3) := by decide +kernel
theorem dX10_rmdir_90 : decode cX10_rmdir 90 = .ok (.iload_n 2, 1) := by decide +kernel
theorem dX10_rmdir_91 : decode cX10_rmdir 91 = .ok (.ireturn, 1) := by decide +kernel
set_option maxRecDepth 100000 in
set_option maxHeartbeats 1000000 in
theorem c_X10_rmdir {l : Launch} {D : va_G} {aC : Nat → ClassId} {b0 fu : Nat} {a0 : Nat} {σ τ : tM} {v : (Int32) ⊕ Unit} (hm : m_X10_rmdir b0 fu a0 σ = some (v, τ)) : tMt l D aC b0 yX10_rmdir (Cond.code yX10_rmdir cX10_rmdir 3 (some .int)) 12 219 [.ref (a0)] σ (rxI "java/lang/IllegalStateException" v) τ := by
  unfold m_X10_rmdir at hm
  obtain ⟨hg, hm⟩ := grw_e hm
  refine tMt_of (n := 0) rfl (Nat.le_of_ble_eq_true rfl) hg ?_
  intro p e s m below meth c C htab hin
  refine zx_lv [0] [(0, .ref (a0))] rfl ?_
  refine zx_aload_n C dX10_rmdir_0 0 rfl ?_
  obtain ⟨k1, i2, hm⟩ := ckO_e hm
  obtain ⟨a3, h4, hm⟩ := osm_e hm
  refine zx_get (j := 3) C tC_10 k1 i2 ⟨by decide, Or.inl W_2_216⟩ dX10_rmdir_1 (.ref a3) (rf_s h4) ?_
  obtain ⟨k5, i6, hm⟩ := ckO_e hm
  rcases clx_e hm with ⟨v7, ρ8, h9, hm⟩ | ⟨ρ8, h9, hm⟩
  · refine zx_callV (σ := σ) C [] tC_1 k5 i6 Y_X1_postAhead W_3_108 W_3_109 W_3_110 (c_X1_postAhead h9) (by decide) (by decide) rfl (Nat.le_of_ble_eq_true rfl) dX10_rmdir_4 rfl ?_
    refine zx_aload_n C dX10_rmdir_7 0 rfl ?_
    refine zx_aload_n C dX10_rmdir_8 0 rfl ?_
    obtain ⟨k10, i11, hm⟩ := ckO_e hm
    obtain ⟨a12, h13, hm⟩ := osm_e hm
    refine zx_get (j := 7) C tC_10 k10 i11 ⟨by decide, Or.inl W_2_220⟩ dX10_rmdir_9 (.ref a12) (rf_s h13) ?_
    obtain ⟨v14, ρ15, h16, hm⟩ := cll_e hm
    refine zx_callV (σ := ρ8) C [.ref (a12)] tC_10 k10 i11 Y_X10_entryOfLast W_5_28 W_5_30 Wp_32 (c_X10_entryOfLast h16) (by decide) (by decide) rfl (Nat.le_of_ble_eq_true rfl) dX10_rmdir_12 rfl ?_
    refine zx_istore_n C [(1, .int (v14)), (0, .ref (a0))] dX10_rmdir_15 rfl (by decide) rfl ?_
    refine zx_iload_n C dX10_rmdir_16 0 rfl ?_
    refine zx_if_ge C 22 dX10_rmdir_17 (by decide) (fun c17 => ?_) (fun c17 => ?_)
    · replace hm := ip_e hm c17
      refine zx_aload_n C dX10_rmdir_22 1 rfl ?_
      obtain ⟨k18, i19, hm⟩ := ckO_e hm
      obtain ⟨a20, h21, hm⟩ := osm_e hm
      refine zx_get (j := 2) C tC_10 k18 i19 ⟨by decide, Or.inl W_2_215⟩ dX10_rmdir_23 (.ref a20) (rf_s h21) ?_
      refine zx_aload_n C dX10_rmdir_26 1 rfl ?_
      obtain ⟨a22, h23, hm⟩ := osm_e hm
      refine zx_get (j := 7) C tC_10 k18 i19 ⟨by decide, Or.inl W_2_220⟩ dX10_rmdir_27 (.ref a22) (rf_s h23) ?_
      obtain ⟨k24, i25, hm⟩ := ckO_e hm
      refine zx_get (j := 4) C tC_3 k24 i25 ⟨by decide, Or.inr ⟨_, W_2_69⟩⟩ dX10_rmdir_30 (.int (tI (ρ15) (a22) 4)) rfl ?_
      refine zx_iload_n C dX10_rmdir_33 0 rfl ?_
      obtain ⟨k26, i27, hm⟩ := ckO_e hm
      obtain ⟨v28, ρ29, h30, hm⟩ := cll_e hm
      refine zx_callV (σ := ρ15) C [.int (tI (ρ15) (a22) 4), .int (v14)] tC_8 k26 i27 Y_X8_nodeAt W_5_32 W_4_125 W_4_126 (c_X8_nodeAt h30) (by decide) (by decide) rfl (Nat.le_of_ble_eq_true rfl) dX10_rmdir_34 rfl ?_
      refine zx_istore_n C [(2, .int (v28)), (1, .int (v14)), (0, .ref (a0))] dX10_rmdir_37 rfl (by decide) rfl ?_
      refine zx_aload_n C dX10_rmdir_38 2 rfl ?_
      obtain ⟨k31, i32, hm⟩ := ckO_e hm
      obtain ⟨a33, h34, hm⟩ := osm_e hm
      refine zx_get (j := 2) C tC_10 k31 i32 ⟨by decide, Or.inl W_2_215⟩ dX10_rmdir_39 (.ref a33) (rf_s h34) ?_
      refine zx_iload_n C dX10_rmdir_42 0 rfl ?_
      obtain ⟨k35, i36, hm⟩ := ckO_e hm
      obtain ⟨v37, ρ38, h39, hm⟩ := cll_e hm
      refine zx_callV (σ := ρ29) C [.int (v28)] tC_8 k35 i36 Y_X8_kind W_5_14 W_3_80 W_3_81 (c_X8_kind h39) (by decide) (by decide) rfl (Nat.le_of_ble_eq_true rfl) dX10_rmdir_43 rfl ?_
      refine zx_iconst (v := 2) C dX10_rmdir_46 (by decide) ?_
      refine zx_icmp_eq C 53 dX10_rmdir_47 (by decide) (fun c40 => ?_) (fun c40 => ?_)
      · replace hm := ip_e hm c40
        refine zx_aload_n C dX10_rmdir_53 2 rfl ?_
        obtain ⟨k41, i42, hm⟩ := ckO_e hm
        obtain ⟨a43, h44, hm⟩ := osm_e hm
        refine zx_get (j := 2) C tC_10 k41 i42 ⟨by decide, Or.inl W_2_215⟩ dX10_rmdir_54 (.ref a43) (rf_s h44) ?_
        refine zx_iload_n C dX10_rmdir_57 0 rfl ?_
        obtain ⟨k45, i46, hm⟩ := ckO_e hm
        obtain ⟨v47, ρ48, h49, hm⟩ := cll_e hm
        refine zx_callV (σ := ρ38) C [.int (v28)] tC_8 k45 i46 Y_X8_countEntries W_5_95 W_5_96 W_5_97 (c_X8_countEntries h49) (by decide) (by decide) rfl (Nat.le_of_ble_eq_true rfl) dX10_rmdir_58 rfl ?_
        refine zx_if_eq C 67 dX10_rmdir_61 (by decide) (fun c50 => ?_) (fun c50 => ?_)
        · replace hm := ip_e hm c50
          refine zx_aload_n C dX10_rmdir_67 2 rfl ?_
          obtain ⟨k51, i52, hm⟩ := ckO_e hm
          obtain ⟨a53, h54, hm⟩ := osm_e hm
          refine zx_get (j := 2) C tC_10 k51 i52 ⟨by decide, Or.inl W_2_215⟩ dX10_rmdir_68 (.ref a53) (rf_s h54) ?_
          refine zx_aload_n C dX10_rmdir_71 2 rfl ?_
          obtain ⟨a55, h56, hm⟩ := osm_e hm
          refine zx_get (j := 7) C tC_10 k51 i52 ⟨by decide, Or.inl W_2_220⟩ dX10_rmdir_72 (.ref a55) (rf_s h56) ?_
          obtain ⟨k57, i58, hm⟩ := ckO_e hm
          refine zx_get (j := 4) C tC_3 k57 i58 ⟨by decide, Or.inr ⟨_, W_2_69⟩⟩ dX10_rmdir_75 (.int (tI (ρ48) (a55) 4)) rfl ?_
          refine zx_iload_n C dX10_rmdir_78 1 rfl ?_
          obtain ⟨k59, i60, hm⟩ := ckO_e hm
          obtain ⟨v61, ρ62, h63, hm⟩ := cll_e hm
          refine zx_callV (σ := ρ48) C [.int (tI (ρ48) (a55) 4), .int (v14)] tC_8 k59 i60 Y_X8_removeEntry W_5_33 W_5_34 W_5_35 (c_X8_removeEntry h63) (by decide) (by decide) rfl (Nat.le_of_ble_eq_true rfl) dX10_rmdir_79 rfl ?_
          refine zx_aload_n C dX10_rmdir_82 2 rfl ?_
          obtain ⟨k64, i65, hm⟩ := ckO_e hm
          obtain ⟨a66, h67, hm⟩ := osm_e hm
          refine zx_get (j := 2) C tC_10 k64 i65 ⟨by decide, Or.inl W_2_215⟩ dX10_rmdir_83 (.ref a66) (rf_s h67) ?_
          refine zx_iload_n C dX10_rmdir_86 0 rfl ?_
          obtain ⟨k68, i69, hm⟩ := ckO_e hm
          obtain ⟨v70, ρ71, h72, hm⟩ := cll_e hm
          refine zx_callV (σ := ρ62) C [.int (v28)] tC_8 k68 i69 Y_X8_discard W_5_62 W_5_63 W_5_64 (c_X8_discard h72) (by decide) (by decide) rfl (Nat.le_of_ble_eq_true rfl) dX10_rmdir_87 rfl ?_
          refine zx_iload_n C dX10_rmdir_90 0 rfl ?_
          obtain ⟨rfl, rfl⟩ := ret_e hm
          exact zx_iret C rfl rfl rfl dX10_rmdir_91
        · replace hm := in_e hm c50
          refine zx_bipush (v := (-5)) C dX10_rmdir_64 (by decide) ?_
          obtain ⟨rfl, rfl⟩ := ret_e hm
          exact zx_iret C rfl rfl rfl dX10_rmdir_66
      · replace hm := in_e hm c40
        refine zx_bipush (v := (-3)) C dX10_rmdir_50 (by decide) ?_
        obtain ⟨rfl, rfl⟩ := ret_e hm
        exact zx_iret C rfl rfl rfl dX10_rmdir_52
    · replace hm := in_e hm c17
      refine zx_iload_n C dX10_rmdir_20 0 rfl ?_
      obtain ⟨rfl, rfl⟩ := ret_e hm
      exact zx_iret C rfl rfl rfl dX10_rmdir_21
  · cases hm
    exact zx_outV (σ := σ) C htab [] tC_1 k5 i6 Y_X1_postAhead W_3_108 W_3_109 W_3_110 (c_X1_postAhead h9) rfl (by decide) (by decide) rfl (Nat.le_of_ble_eq_true rfl) dX10_rmdir_4 rfl
abbrev cX10_rename : ByteArray := prog_1_method_15_code
def yX10_rename : MethodName := ⟨"SyncTree", "rename", "()I"⟩
theorem Y_X10_rename : tY yX10_rename cX10_rename 8 (some .int) 0 := ⟨W_5_105, W_1_1, ⟨by decide +kernel, by decide +kernel⟩, by decide +kernel⟩
theorem dX10_rename_0 : decode cX10_rename 0 = .ok (.aload_n 0, 1) := by decide +kernel
theorem dX10_rename_1 : decode cX10_rename 1 = .ok (.getfield 37, 3) := by decide +kernel
theorem dX10_rename_4 : decode cX10_rename 4 = .ok (.invokevirtual 127, 3) := by decide +kernel
theorem dX10_rename_7 : decode cX10_rename 7 = .ok (.aload_n 0, 1) := by decide +kernel
theorem dX10_rename_8 : decode cX10_rename 8 = .ok (.aload_n 0, 1) := by decide +kernel
theorem dX10_rename_9 : decode cX10_rename 9 = .ok (.getfield 69, 3) := by decide +kernel
theorem dX10_rename_12 : decode cX10_rename 12 = .ok (.invokevirtual 178, 3) := by decide +kernel
theorem dX10_rename_15 : decode cX10_rename 15 = .ok (.istore_n 1, 1) := by decide +kernel
theorem dX10_rename_16 : decode cX10_rename 16 = .ok (.iload_n 1, 1) := by decide +kernel
theorem dX10_rename_17 : decode cX10_rename 17 = .ok (.ifCond .ge 5, 3) := by decide +kernel
theorem dX10_rename_20 : decode cX10_rename 20 = .ok (.iload_n 1, 1) := by decide +kernel
theorem dX10_rename_21 : decode cX10_rename 21 = .ok (.ireturn, 1) := by decide +kernel
theorem dX10_rename_22 : decode cX10_rename 22 = .ok (.aload_n 0, 1) := by decide +kernel
theorem dX10_rename_23 : decode cX10_rename 23 = .ok (.aload_n 0, 1) := by decide +kernel
theorem dX10_rename_24 : decode cX10_rename 24 = .ok (.getfield 73, 3) := by decide +kernel
theorem dX10_rename_27 : decode cX10_rename 27 = .ok (.invokevirtual 178, 3) := by decide +kernel
theorem dX10_rename_30 : decode cX10_rename 30 = .ok (.istore_n 2, 1) := by decide +kernel
theorem dX10_rename_31 : decode cX10_rename 31 = .ok (.iload_n 2, 1) := by decide +kernel
theorem dX10_rename_32 : decode cX10_rename 32 = .ok (.ifCond .ge 20, 3) := by decide +kernel
theorem dX10_rename_35 : decode cX10_rename 35 = .ok (.iload_n 2, 1) := by decide +kernel
theorem dX10_rename_36 : decode cX10_rename 36 = .ok (.iconst (-1), 1) := by decide +kernel
theorem dX10_rename_37 : decode cX10_rename 37 = .ok (.if_icmp .ne 13, 3) := by decide +kernel
theorem dX10_rename_40 : decode cX10_rename 40 = .ok (.aload_n 0, 1) := by decide +kernel
theorem dX10_rename_41 : decode cX10_rename 41 = .ok (.getfield 73, 3) := by decide +kernel
theorem dX10_rename_44 : decode cX10_rename 44 = .ok (.getfield 181, 3) := by decide +kernel
theorem dX10_rename_47 : decode cX10_rename 47 = .ok (.ifCond .ge 5, 3) := by decide +kernel
theorem dX10_rename_50 : decode cX10_rename 50 = .ok (.iload_n 2, 1) := by decide +kernel
theorem dX10_rename_51 : decode cX10_rename 51 = .ok (.ireturn, 1) := by decide +kernel
theorem dX10_rename_52 : decode cX10_rename 52 = .ok (.aload_n 0, 1) := by decide +kernel
theorem dX10_rename_53 : decode cX10_rename 53 = .ok (.getfield 69, 3) := by decide +kernel
theorem dX10_rename_56 : decode cX10_rename 56 = .ok (.getfield 181, 3) := by decide +kernel
theorem dX10_rename_59 : decode cX10_rename 59 = .ok (.istore_n 3, 1) := by decide +kernel
theorem dX10_rename_60 : decode cX10_rename 60 = .ok (.aload_n 0, 1) := by decide +kernel
theorem dX10_rename_61 : decode cX10_rename 61 = .ok (.getfield 73, 3) := by decide +kernel
theorem dX10_rename_64 : decode cX10_rename 64 = .ok (.getfield 181, 3) := by decide +kernel
theorem dX10_rename_67 : decode cX10_rename 67 = .ok (.istore 4, 2) := by decide +kernel
theorem dX10_rename_69 : decode cX10_rename 69 = .ok (.aload_n 0, 1) := by decide +kernel
theorem dX10_rename_70 : decode cX10_rename 70 = .ok (.getfield 28, 3) := by decide +kernel
theorem dX10_rename_73 : decode cX10_rename 73 = .ok (.iload_n 3, 1) := by decide +kernel
theorem dX10_rename_74 : decode cX10_rename 74 = .ok (.iload_n 1, 1) := by decide +kernel
theorem dX10_rename_75 : decode cX10_rename 75 = .ok (.invokevirtual 184, 3) := by decide +kernel
theorem dX10_rename_78 : decode cX10_rename 78 = .ok (.istore 5, 2) := by decide +kernel
theorem dX10_rename_80 : decode cX10_rename 80 = .ok (.iload_n 2, 1) := by decide +kernel
theorem dX10_rename_81 : decode cX10_rename 81 = .ok (.ifCond .ge 7, 3) := by decide +kernel
theorem dX10_rename_84 : decode cX10_rename 84 = .ok (.iconst (-1), 1) := by decide +kernel
theorem dX10_rename_85 : decode cX10_rename 85 = .ok (.goto 13, 3) := by decide +kernel
theorem dX10_rename_88 : decode cX10_rename 88 = .ok (.aload_n 0, 1) := by decide +kernel
theorem dX10_rename_89 : decode cX10_rename 89 = .ok (.getfield 28, 3) := by decide +kernel
theorem dX10_rename_92 : decode cX10_rename 92 = .ok (.iload 4, 2) := by decide +kernel
theorem dX10_rename_94 : decode cX10_rename 94 = .ok (.iload_n 2, 1) := by decide +kernel
theorem dX10_rename_95 : decode cX10_rename 95 = .ok (.invokevirtual 184, 3) := by decide +kernel
theorem dX10_rename_98 : decode cX10_rename 98 = .ok (.istore 6, 2) := by decide +kernel
theorem dX10_rename_100 : decode cX10_rename 100 = .ok (.iload 6, 2) := by decide +kernel
theorem dX10_rename_102 : decode cX10_rename 102 = .ok (.iload 5, 2) := by decide +kernel
theorem dX10_rename_104 : decode cX10_rename 104 = .ok (.if_icmp .ne 6, 3) := by decide +kernel
theorem dX10_rename_107 : decode cX10_rename 107 = .ok (.iload 5, 2) := by decide +kernel
theorem dX10_rename_109 : decode cX10_rename 109 = .ok (.ireturn, 1) := by decide +kernel
theorem dX10_rename_110 : decode cX10_rename 110 = .ok (.aload_n 0, 1) := by decide +kernel
theorem dX10_rename_111 : decode cX10_rename 111 = .ok (.iload 5, 2) := by decide +kernel
theorem dX10_rename_113 : decode cX10_rename 113 = .ok (.iload 4, 2) := by decide +kernel
theorem dX10_rename_115 : decode cX10_rename 115 = .ok (.iload 6, 2) := by decide +kernel
theorem dX10_rename_117 : decode cX10_rename 117 = .ok (.invokevirtual 199, 3) := by decide +kernel
theorem dX10_rename_120 : decode cX10_rename 120 = .ok (.istore 7, 2) := by decide +kernel
theorem dX10_rename_122 : decode cX10_rename 122 = .ok (.iload 7, 2) := by decide +kernel
theorem dX10_rename_124 : decode cX10_rename 124 = .ok (.ifCond .ge 6, 3) := by decide +kernel
theorem dX10_rename_127 : decode cX10_rename 127 = .ok (.iload 7, 2) := by decide +kernel
theorem dX10_rename_129 : decode cX10_rename 129 = .ok (.ireturn, 1) := by decide +kernel
theorem dX10_rename_130 : decode cX10_rename 130 = .ok (.iload_n 2, 1) := by decide +kernel
theorem dX10_rename_131 : decode cX10_rename 131 = .ok (.ifCond .ge 21, 3) := by decide +kernel
theorem dX10_rename_134 : decode cX10_rename 134 = .ok (.aload_n 0, 1) := by decide +kernel
theorem dX10_rename_135 : decode cX10_rename 135 = .ok (.getfield 28, 3) := by decide +kernel
theorem dX10_rename_138 : decode cX10_rename 138 = .ok (.iload 4, 2) := by decide +kernel
theorem dX10_rename_140 : decode cX10_rename 140 = .ok (.aload_n 0, 1) := by decide +kernel
theorem dX10_rename_141 : decode cX10_rename 141 = .ok (.getfield 73, 3) := by decide +kernel
theorem dX10_rename_144 : decode cX10_rename 144 = .ok (.iload 5, 2) := by decide +kernel
theorem dX10_rename_146 : decode cX10_rename 146 = .ok (.invokevirtual 149, 3) := by decide +kernel
theorem dX10_rename_149 : decode cX10_rename 149 = .ok (.goto 19, 3) := by decide +kernel
theorem dX10_rename_152 : decode cX10_rename 152 = .ok (.aload_n 0, 1) := by decide +kernel
theorem dX10_rename_153 : decode cX10_rename 153 = .ok (.getfield 28, 3) := by decide +kernel
theorem dX10_rename_156 : decode cX10_rename 156 = .ok (.iload 4, 2) := by decide +kernel
theorem dX10_rename_158 : decode cX10_rename 158 = .ok (.iload_n 2, 1) := by decide +kernel
theorem dX10_rename_159 : decode cX10_rename 159 = .ok (.aload_n 0, 1) := by decide +kernel
theorem dX10_rename_160 : decode cX10_rename 160 = .ok (.getfield 73, 3) := by decide +kernel
theorem dX10_rename_163 : decode cX10_rename 163 = .ok (.iload 5, 2) := by decide +kernel
theorem dX10_rename_165 : decode cX10_rename 165 = .ok (.invokevirtual 203, 3) := by decide +kernel
theorem dX10_rename_168 : decode cX10_rename 168 = .ok (.aload_n 0, 1) := by decide +kernel
theorem dX10_rename_169 : decode cX10_rename 169 = .ok (.iload 5, 2) := by decide +kernel
theorem dX10_rename_171 : decode cX10_rename 171 = .ok (.iload 4, 2) := by decide +kernel
theorem dX10_rename_173 : decode cX10_rename 173 = .ok (.iload_n 3, 1) := by decide +kernel
theorem dX10_rename_174 : decode cX10_rename 174 = .ok (.iload_n 1, 1) := by decide +kernel
theorem dX10_rename_175 : decode cX10_rename 175 = .ok (.invokevirtual 207, 3) := by decide +kernel
theorem dX10_rename_178 : decode cX10_rename 178 = .ok (.iload 6, 2) := by decide +kernel
theorem dX10_rename_180 : decode cX10_rename 180 = .ok (.ifCond .lt 9, 3) := by decide +kernel
theorem dX10_rename_183 : decode cX10_rename 183 = .ok (.aload_n 0, 1) := by decide +kernel
theorem dX10_rename_184 : decode cX10_rename 184 = .ok (.iload 6, 2) := by decide +kernel
theorem dX10_rename_186 : decode cX10_rename 186 = .ok (.invokevirtual 190, 3) := by decide +kernel
theorem dX10_rename_189 : decode cX10_rename 189 = .ok (.iload 5, 2) := by decide +kernel
theorem dX10_rename_191 : decode cX10_rename 191 = .ok (.ireturn, 1) := by decide +kernel
set_option maxRecDepth 100000 in
set_option maxHeartbeats 1000000 in
theorem j_X10_rename_189 {p : Program} {l : Launch} {e : Env} {s : State} {m : MethodId} {args : Array Value} {below : List Frame} {meth : Method} {c : Code} {D : va_G} {aC : Nat → ClassId} {b0 fu : Nat} {σ0 τ : tM} {v : (Int32) ⊕ Unit}  (C : tCx p l s m args meth c yX10_rename.cls cX10_rename 8 (some .int) D aC b0 σ0) (htab : ∀ x ∈ c.exceptionTable.toList, False) (hin : meth.name = yX10_rename.name)  {x5 : Int32} {σ : tM} (hm : J_X10_rename_189 b0 fu  x5 σ = some (v, τ)) : tX p l e s m args below meth c 8 12 219 D aC b0 σ0 (rxI "java/lang/IllegalStateException" v) τ 189 [(5, .int (x5))] [] σ := by
  unfold J_X10_rename_189 at hm
  refine zx_iload C dX10_rename_189 0 rfl ?_
  obtain ⟨rfl, rfl⟩ := ret_e hm
  exact zx_iret C rfl rfl rfl dX10_rename_191
set_option maxRecDepth 100000 in
set_option maxHeartbeats 1000000 in
theorem j_X10_rename_168 {p : Program} {l : Launch} {e : Env} {s : State} {m : MethodId} {args : Array Value} {below : List Frame} {meth : Method} {c : Code} {D : va_G} {aC : Nat → ClassId} {b0 fu : Nat} {σ0 τ : tM} {v : (Int32) ⊕ Unit}  (C : tCx p l s m args meth c yX10_rename.cls cX10_rename 8 (some .int) D aC b0 σ0) (htab : ∀ x ∈ c.exceptionTable.toList, False) (hin : meth.name = yX10_rename.name)  {x0 : Nat} {x1 : Int32} {x3 : Int32} {x4 : Int32} {x5 : Int32} {x6 : Int32} {σ : tM} (hm : J_X10_rename_168 b0 fu  x0 x1 x3 x4 x5 x6 σ = some (v, τ)) : tX p l e s m args below meth c 8 12 219 D aC b0 σ0 (rxI "java/lang/IllegalStateException" v) τ 168 [(0, .ref (x0)), (1, .int (x1)), (3, .int (x3)), (4, .int (x4)), (5, .int (x5)), (6, .int (x6))] [] σ := by
  unfold J_X10_rename_168 at hm
  refine zx_aload_n C dX10_rename_168 0 rfl ?_
  refine zx_iload C dX10_rename_169 4 rfl ?_
  refine zx_iload C dX10_rename_171 3 rfl ?_
  refine zx_iload_n C dX10_rename_173 2 rfl ?_
  refine zx_iload_n C dX10_rename_174 1 rfl ?_
  obtain ⟨k74, i75, hm⟩ := ckO_e hm
  obtain ⟨v76, ρ77, h78, hm⟩ := cll_e hm
  refine zx_callV (σ := σ) C [.int (x5), .int (x4), .int (x3), .int (x1)] tC_10 k74 i75 Y_X10_finishMove W_5_115 W_5_117 Wp_40 (c_X10_finishMove h78) (by decide) (by decide) rfl (Nat.le_of_ble_eq_true rfl) dX10_rename_175 rfl ?_
  refine zx_iload C dX10_rename_178 5 rfl ?_
  refine zx_if_lt C 189 dX10_rename_180 (by decide) (fun c79 => ?_) (fun c79 => ?_)
  · replace hm := ip_e hm c79
    exact zx_lv [4] [(5, .int (x5))] rfl (j_X10_rename_189 C htab hin    hm)
  · replace hm := in_e hm c79
    refine zx_aload_n C dX10_rename_183 0 rfl ?_
    refine zx_iload C dX10_rename_184 5 rfl ?_
    obtain ⟨k80, i81, hm⟩ := ckO_e hm
    obtain ⟨v82, ρ83, h84, hm⟩ := cll_e hm
    refine zx_callV (σ := ρ77) C [.int (x6)] tC_10 k80 i81 Y_X10_loseName W_5_58 W_5_60 Wp_36 (c_X10_loseName h84) (by decide) (by decide) rfl (Nat.le_of_ble_eq_true rfl) dX10_rename_186 rfl ?_
    exact zx_lv [4] [(5, .int (x5))] rfl (j_X10_rename_189 C htab hin    hm)
set_option maxRecDepth 100000 in
set_option maxHeartbeats 1000000 in
theorem j_X10_rename_98 {p : Program} {l : Launch} {e : Env} {s : State} {m : MethodId} {args : Array Value} {below : List Frame} {meth : Method} {c : Code} {D : va_G} {aC : Nat → ClassId} {b0 fu : Nat} {σ0 τ : tM} {v : (Int32) ⊕ Unit}  (C : tCx p l s m args meth c yX10_rename.cls cX10_rename 8 (some .int) D aC b0 σ0) (htab : ∀ x ∈ c.exceptionTable.toList, False) (hin : meth.name = yX10_rename.name)  {x0 : Nat} {x1 : Int32} {x2 : Int32} {x3 : Int32} {x4 : Int32} {x5 : Int32} {s0 : Int32} {σ : tM} (hm : J_X10_rename_98 b0 fu  x0 x1 x2 x3 x4 x5 s0 σ = some (v, τ)) : tX p l e s m args below meth c 8 12 219 D aC b0 σ0 (rxI "java/lang/IllegalStateException" v) τ 98 [(0, .ref (x0)), (1, .int (x1)), (2, .int (x2)), (3, .int (x3)), (4, .int (x4)), (5, .int (x5))] [.int (s0)] σ := by
  unfold J_X10_rename_98 at hm
  refine zx_istore C [(6, .int (s0)), (0, .ref (x0)), (1, .int (x1)), (2, .int (x2)), (3, .int (x3)), (4, .int (x4)), (5, .int (x5))] dX10_rename_98 (by decide) rfl ?_
  refine zx_iload C dX10_rename_100 0 rfl ?_
  refine zx_iload C dX10_rename_102 6 rfl ?_
  refine zx_icmp_ne C 110 dX10_rename_104 (by decide) (fun c55 => ?_) (fun c55 => ?_)
  · replace hm := in_e hm c55
    refine zx_aload_n C dX10_rename_110 1 rfl ?_
    refine zx_iload C dX10_rename_111 6 rfl ?_
    refine zx_iload C dX10_rename_113 5 rfl ?_
    refine zx_iload C dX10_rename_115 0 rfl ?_
    obtain ⟨k56, i57, hm⟩ := ckO_e hm
    obtain ⟨v58, ρ59, h60, hm⟩ := cll_e hm
    refine zx_callV (σ := σ) C [.int (x5), .int (x4), .int (s0)] tC_10 k56 i57 Y_X10_refuseMove W_5_106 W_5_108 Wp_39 (c_X10_refuseMove h60) (by decide) (by decide) rfl (Nat.le_of_ble_eq_true rfl) dX10_rename_117 rfl ?_
    refine zx_istore C [(7, .int (v58)), (6, .int (s0)), (0, .ref (x0)), (1, .int (x1)), (2, .int (x2)), (3, .int (x3)), (4, .int (x4)), (5, .int (x5))] dX10_rename_120 (by decide) rfl ?_
    refine zx_iload C dX10_rename_122 0 rfl ?_
    refine zx_if_ge C 130 dX10_rename_124 (by decide) (fun c61 => ?_) (fun c61 => ?_)
    · replace hm := ip_e hm c61
      refine zx_iload_n C dX10_rename_130 4 rfl ?_
      refine zx_if_ge C 152 dX10_rename_131 (by decide) (fun c62 => ?_) (fun c62 => ?_)
      · replace hm := ip_e hm c62
        refine zx_aload_n C dX10_rename_152 2 rfl ?_
        obtain ⟨k63, i64, hm⟩ := ckO_e hm
        obtain ⟨a65, h66, hm⟩ := osm_e hm
        refine zx_get (j := 2) C tC_10 k63 i64 ⟨by decide, Or.inl W_2_215⟩ dX10_rename_153 (.ref a65) (rf_s h66) ?_
        refine zx_iload C dX10_rename_156 6 rfl ?_
        refine zx_iload_n C dX10_rename_158 4 rfl ?_
        refine zx_aload_n C dX10_rename_159 2 rfl ?_
        obtain ⟨a67, h68, hm⟩ := osm_e hm
        refine zx_get (j := 8) C tC_10 k63 i64 ⟨by decide, Or.inl W_2_221⟩ dX10_rename_160 (.ref a67) (rf_s h68) ?_
        refine zx_iload C dX10_rename_163 7 rfl ?_
        obtain ⟨k69, i70, hm⟩ := ckO_e hm
        obtain ⟨v71, ρ72, h73, hm⟩ := cll_e hm
        refine zx_callV (σ := ρ59) C [.int (x4), .int (x2), .ref (a67), .int (x5)] tC_8 k69 i70 Y_X8_setEntry W_5_114 W_4_226 W_4_227 (c_X8_setEntry h73) (by decide) (by decide) rfl (Nat.le_of_ble_eq_true rfl) dX10_rename_165 rfl ?_
        exact zx_lv [2, 3, 5, 6, 7, 1] [(0, .ref (x0)), (1, .int (x1)), (3, .int (x3)), (4, .int (x4)), (5, .int (x5)), (6, .int (s0))] rfl (j_X10_rename_168 C htab hin    hm)
      · replace hm := in_e hm c62
        refine zx_aload_n C dX10_rename_134 2 rfl ?_
        obtain ⟨k85, i86, hm⟩ := ckO_e hm
        obtain ⟨a87, h88, hm⟩ := osm_e hm
        refine zx_get (j := 2) C tC_10 k85 i86 ⟨by decide, Or.inl W_2_215⟩ dX10_rename_135 (.ref a87) (rf_s h88) ?_
        refine zx_iload C dX10_rename_138 6 rfl ?_
        refine zx_aload_n C dX10_rename_140 2 rfl ?_
        obtain ⟨a89, h90, hm⟩ := osm_e hm
        refine zx_get (j := 8) C tC_10 k85 i86 ⟨by decide, Or.inl W_2_221⟩ dX10_rename_141 (.ref a89) (rf_s h90) ?_
        refine zx_iload C dX10_rename_144 7 rfl ?_
        obtain ⟨k91, i92, hm⟩ := ckO_e hm
        obtain ⟨v93, ρ94, h95, hm⟩ := cll_e hm
        refine zx_callV (σ := ρ59) C [.int (x4), .ref (a89), .int (x5)] tC_8 k91 i92 Y_X8_addEntry W_4_195 W_4_196 W_4_197 (c_X8_addEntry h95) (by decide) (by decide) rfl (Nat.le_of_ble_eq_true rfl) dX10_rename_146 rfl ?_
        refine zx_goto C 168 dX10_rename_149 (by decide) ?_
        exact zx_lv [2, 3, 5, 6, 7, 1] [(0, .ref (x0)), (1, .int (x1)), (3, .int (x3)), (4, .int (x4)), (5, .int (x5)), (6, .int (s0))] rfl (j_X10_rename_168 C htab hin    hm)
    · replace hm := in_e hm c61
      refine zx_iload C dX10_rename_127 0 rfl ?_
      obtain ⟨rfl, rfl⟩ := ret_e hm
      exact zx_iret C rfl rfl rfl dX10_rename_129
  · replace hm := ip_e hm c55
    refine zx_iload C dX10_rename_107 6 rfl ?_
    obtain ⟨rfl, rfl⟩ := ret_e hm
    exact zx_iret C rfl rfl rfl dX10_rename_109
set_option maxRecDepth 100000 in
set_option maxHeartbeats 1000000 in
theorem j_X10_rename_52 {p : Program} {l : Launch} {e : Env} {s : State} {m : MethodId} {args : Array Value} {below : List Frame} {meth : Method} {c : Code} {D : va_G} {aC : Nat → ClassId} {b0 fu : Nat} {σ0 τ : tM} {v : (Int32) ⊕ Unit}  (C : tCx p l s m args meth c yX10_rename.cls cX10_rename 8 (some .int) D aC b0 σ0) (htab : ∀ x ∈ c.exceptionTable.toList, False) (hin : meth.name = yX10_rename.name)  {x0 : Nat} {x1 : Int32} {x2 : Int32} {σ : tM} (hm : J_X10_rename_52 b0 fu  x0 x1 x2 σ = some (v, τ)) : tX p l e s m args below meth c 8 12 219 D aC b0 σ0 (rxI "java/lang/IllegalStateException" v) τ 52 [(0, .ref (x0)), (1, .int (x1)), (2, .int (x2))] [] σ := by
  unfold J_X10_rename_52 at hm
  refine zx_aload_n C dX10_rename_52 0 rfl ?_
  obtain ⟨k26, i27, hm⟩ := ckO_e hm
  obtain ⟨a28, h29, hm⟩ := osm_e hm
  refine zx_get (j := 7) C tC_10 k26 i27 ⟨by decide, Or.inl W_2_220⟩ dX10_rename_53 (.ref a28) (rf_s h29) ?_
  obtain ⟨k30, i31, hm⟩ := ckO_e hm
  refine zx_get (j := 4) C tC_3 k30 i31 ⟨by decide, Or.inr ⟨_, W_2_69⟩⟩ dX10_rename_56 (.int (tI (σ) (a28) 4)) rfl ?_
  refine zx_topi (fun y32 hy32 => ?_)
  replace hm := ltb_e hm hy32
  refine zx_istore_n C [(3, .int (y32)), (0, .ref (x0)), (1, .int (x1)), (2, .int (x2))] dX10_rename_59 rfl (by decide) rfl ?_
  refine zx_aload_n C dX10_rename_60 1 rfl ?_
  obtain ⟨a33, h34, hm⟩ := osm_e hm
  refine zx_get (j := 8) C tC_10 k26 i27 ⟨by decide, Or.inl W_2_221⟩ dX10_rename_61 (.ref a33) (rf_s h34) ?_
  obtain ⟨k35, i36, hm⟩ := ckO_e hm
  refine zx_get (j := 4) C tC_3 k35 i36 ⟨by decide, Or.inr ⟨_, W_2_69⟩⟩ dX10_rename_64 (.int (tI (σ) (a33) 4)) rfl ?_
  refine zx_topi (fun y37 hy37 => ?_)
  replace hm := ltb_e hm hy37
  refine zx_istore C [(4, .int (y37)), (3, .int (y32)), (0, .ref (x0)), (1, .int (x1)), (2, .int (x2))] dX10_rename_67 (by decide) rfl ?_
  refine zx_aload_n C dX10_rename_69 2 rfl ?_
  obtain ⟨a38, h39, hm⟩ := osm_e hm
  refine zx_get (j := 2) C tC_10 k26 i27 ⟨by decide, Or.inl W_2_215⟩ dX10_rename_70 (.ref a38) (rf_s h39) ?_
  refine zx_iload_n C dX10_rename_73 1 rfl ?_
  refine zx_iload_n C dX10_rename_74 3 rfl ?_
  obtain ⟨k40, i41, hm⟩ := ckO_e hm
  obtain ⟨v42, ρ43, h44, hm⟩ := cll_e hm
  refine zx_callV (σ := σ) C [.int (y32), .int (x1)] tC_8 k40 i41 Y_X8_nodeAt W_5_32 W_4_125 W_4_126 (c_X8_nodeAt h44) (by decide) (by decide) rfl (Nat.le_of_ble_eq_true rfl) dX10_rename_75 rfl ?_
  refine zx_istore C [(5, .int (v42)), (4, .int (y37)), (3, .int (y32)), (0, .ref (x0)), (1, .int (x1)), (2, .int (x2))] dX10_rename_78 (by decide) rfl ?_
  refine zx_iload_n C dX10_rename_80 5 rfl ?_
  refine zx_if_ge C 88 dX10_rename_81 (by decide) (fun c45 => ?_) (fun c45 => ?_)
  · replace hm := ip_e hm c45
    refine zx_aload_n C dX10_rename_88 3 rfl ?_
    obtain ⟨k46, i47, hm⟩ := ckO_e hm
    obtain ⟨a48, h49, hm⟩ := osm_e hm
    refine zx_get (j := 2) C tC_10 k46 i47 ⟨by decide, Or.inl W_2_215⟩ dX10_rename_89 (.ref a48) (rf_s h49) ?_
    refine zx_iload C dX10_rename_92 1 rfl ?_
    refine zx_iload_n C dX10_rename_94 5 rfl ?_
    obtain ⟨k50, i51, hm⟩ := ckO_e hm
    obtain ⟨v52, ρ53, h54, hm⟩ := cll_e hm
    refine zx_callV (σ := ρ43) C [.int (y37), .int (x2)] tC_8 k50 i51 Y_X8_nodeAt W_5_32 W_4_125 W_4_126 (c_X8_nodeAt h54) (by decide) (by decide) rfl (Nat.le_of_ble_eq_true rfl) dX10_rename_95 rfl ?_
    exact zx_lv [3, 4, 5, 2, 1, 0] [(0, .ref (x0)), (1, .int (x1)), (2, .int (x2)), (3, .int (y32)), (4, .int (y37)), (5, .int (v42))] rfl (j_X10_rename_98 C htab hin    hm)
  · replace hm := in_e hm c45
    refine zx_iconst (v := (-1)) C dX10_rename_84 (by decide) ?_
    refine zx_goto C 98 dX10_rename_85 (by decide) ?_
    exact zx_lv [3, 4, 5, 2, 1, 0] [(0, .ref (x0)), (1, .int (x1)), (2, .int (x2)), (3, .int (y32)), (4, .int (y37)), (5, .int (v42))] rfl (j_X10_rename_98 C htab hin    hm)
set_option maxRecDepth 100000 in
set_option maxHeartbeats 1000000 in
theorem j_X10_rename_50 {p : Program} {l : Launch} {e : Env} {s : State} {m : MethodId} {args : Array Value} {below : List Frame} {meth : Method} {c : Code} {D : va_G} {aC : Nat → ClassId} {b0 fu : Nat} {σ0 τ : tM} {v : (Int32) ⊕ Unit}  (C : tCx p l s m args meth c yX10_rename.cls cX10_rename 8 (some .int) D aC b0 σ0) (htab : ∀ x ∈ c.exceptionTable.toList, False) (hin : meth.name = yX10_rename.name)  {x2 : Int32} {σ : tM} (hm : J_X10_rename_50 b0 fu  x2 σ = some (v, τ)) : tX p l e s m args below meth c 8 12 219 D aC b0 σ0 (rxI "java/lang/IllegalStateException" v) τ 50 [(2, .int (x2))] [] σ := by
  unfold J_X10_rename_50 at hm
  refine zx_iload_n C dX10_rename_50 0 rfl ?_
  obtain ⟨rfl, rfl⟩ := ret_e hm
  exact zx_iret C rfl rfl rfl dX10_rename_51
set_option maxRecDepth 100000 in
set_option maxHeartbeats 1000000 in
theorem c_X10_rename {l : Launch} {D : va_G} {aC : Nat → ClassId} {b0 fu : Nat} {a0 : Nat} {σ τ : tM} {v : (Int32) ⊕ Unit} (hm : m_X10_rename b0 fu a0 σ = some (v, τ)) : tMt l D aC b0 yX10_rename (Cond.code yX10_rename cX10_rename 8 (some .int)) 12 219 [.ref (a0)] σ (rxI "java/lang/IllegalStateException" v) τ := by
  unfold m_X10_rename at hm
  obtain ⟨hg, hm⟩ := grw_e hm
  refine tMt_of (n := 0) rfl (Nat.le_of_ble_eq_true rfl) hg ?_
  intro p e s m below meth c C htab hin
  refine zx_lv [0] [(0, .ref (a0))] rfl ?_
  refine zx_aload_n C dX10_rename_0 0 rfl ?_
  obtain ⟨k1, i2, hm⟩ := ckO_e hm
  obtain ⟨a3, h4, hm⟩ := osm_e hm
  refine zx_get (j := 3) C tC_10 k1 i2 ⟨by decide, Or.inl W_2_216⟩ dX10_rename_1 (.ref a3) (rf_s h4) ?_
  obtain ⟨k5, i6, hm⟩ := ckO_e hm
  rcases clx_e hm with ⟨v7, ρ8, h9, hm⟩ | ⟨ρ8, h9, hm⟩
  · refine zx_callV (σ := σ) C [] tC_1 k5 i6 Y_X1_postAhead W_3_108 W_3_109 W_3_110 (c_X1_postAhead h9) (by decide) (by decide) rfl (Nat.le_of_ble_eq_true rfl) dX10_rename_4 rfl ?_
    refine zx_aload_n C dX10_rename_7 0 rfl ?_
    refine zx_aload_n C dX10_rename_8 0 rfl ?_
    obtain ⟨k10, i11, hm⟩ := ckO_e hm
    obtain ⟨a12, h13, hm⟩ := osm_e hm
    refine zx_get (j := 7) C tC_10 k10 i11 ⟨by decide, Or.inl W_2_220⟩ dX10_rename_9 (.ref a12) (rf_s h13) ?_
    obtain ⟨v14, ρ15, h16, hm⟩ := cll_e hm
    refine zx_callV (σ := ρ8) C [.ref (a12)] tC_10 k10 i11 Y_X10_entryOfLast W_5_28 W_5_30 Wp_32 (c_X10_entryOfLast h16) (by decide) (by decide) rfl (Nat.le_of_ble_eq_true rfl) dX10_rename_12 rfl ?_
    refine zx_istore_n C [(1, .int (v14)), (0, .ref (a0))] dX10_rename_15 rfl (by decide) rfl ?_
    refine zx_iload_n C dX10_rename_16 0 rfl ?_
    refine zx_if_ge C 22 dX10_rename_17 (by decide) (fun c17 => ?_) (fun c17 => ?_)
    · replace hm := ip_e hm c17
      refine zx_aload_n C dX10_rename_22 1 rfl ?_
      refine zx_aload_n C dX10_rename_23 1 rfl ?_
      obtain ⟨k18, i19, hm⟩ := ckO_e hm
      obtain ⟨a20, h21, hm⟩ := osm_e hm
      refine zx_get (j := 8) C tC_10 k18 i19 ⟨by decide, Or.inl W_2_221⟩ dX10_rename_24 (.ref a20) (rf_s h21) ?_
      obtain ⟨v22, ρ23, h24, hm⟩ := cll_e hm
      refine zx_callV (σ := ρ15) C [.ref (a20)] tC_10 k18 i19 Y_X10_entryOfLast W_5_28 W_5_30 Wp_32 (c_X10_entryOfLast h24) (by decide) (by decide) rfl (Nat.le_of_ble_eq_true rfl) dX10_rename_27 rfl ?_
      refine zx_istore_n C [(2, .int (v22)), (1, .int (v14)), (0, .ref (a0))] dX10_rename_30 rfl (by decide) rfl ?_
      refine zx_iload_n C dX10_rename_31 0 rfl ?_
      refine zx_if_ge C 52 dX10_rename_32 (by decide) (fun c25 => ?_) (fun c25 => ?_)
      · replace hm := ip_e hm c25
        exact zx_lv [2, 1, 0] [(0, .ref (a0)), (1, .int (v14)), (2, .int (v22))] rfl (j_X10_rename_52 C htab hin    hm)
      · replace hm := in_e hm c25
        refine zx_iload_n C dX10_rename_35 0 rfl ?_
        refine zx_iconst (v := (-1)) C dX10_rename_36 (by decide) ?_
        refine zx_icmp_ne C 50 dX10_rename_37 (by decide) (fun c96 => ?_) (fun c96 => ?_)
        · replace hm := in_e hm c96
          exact zx_lv [0] [(2, .int (v22))] rfl (j_X10_rename_50 C htab hin    hm)
        · replace hm := ip_e hm c96
          refine zx_aload_n C dX10_rename_40 2 rfl ?_
          obtain ⟨k97, i98, hm⟩ := ckO_e hm
          obtain ⟨a99, h100, hm⟩ := osm_e hm
          refine zx_get (j := 8) C tC_10 k97 i98 ⟨by decide, Or.inl W_2_221⟩ dX10_rename_41 (.ref a99) (rf_s h100) ?_
          obtain ⟨k101, i102, hm⟩ := ckO_e hm
          refine zx_get (j := 4) C tC_3 k101 i102 ⟨by decide, Or.inr ⟨_, W_2_69⟩⟩ dX10_rename_44 (.int (tI (ρ23) (a99) 4)) rfl ?_
          refine zx_if_ge C 52 dX10_rename_47 (by decide) (fun c103 => ?_) (fun c103 => ?_)
          · replace hm := ip_e hm c103
            exact zx_lv [2, 1, 0] [(0, .ref (a0)), (1, .int (v14)), (2, .int (v22))] rfl (j_X10_rename_52 C htab hin    hm)
          · replace hm := in_e hm c103
            exact zx_lv [0] [(2, .int (v22))] rfl (j_X10_rename_50 C htab hin    hm)
    · replace hm := in_e hm c17
      refine zx_iload_n C dX10_rename_20 0 rfl ?_
      obtain ⟨rfl, rfl⟩ := ret_e hm
      exact zx_iret C rfl rfl rfl dX10_rename_21
  · cases hm
    exact zx_outV (σ := σ) C htab [] tC_1 k5 i6 Y_X1_postAhead W_3_108 W_3_109 W_3_110 (c_X1_postAhead h9) rfl (by decide) (by decide) rfl (Nat.le_of_ble_eq_true rfl) dX10_rename_4 rfl
abbrev cX10_close : ByteArray := prog_1_method_22_code
def yX10_close : MethodName := ⟨"SyncTree", "close", "(I)I"⟩
theorem Y_X10_close : tY yX10_close cX10_close 3 (some .int) 1 := ⟨W_5_137, W_1_1, ⟨by decide +kernel, by decide +kernel⟩, by decide +kernel⟩
theorem dX10_close_0 : decode cX10_close 0 = .ok (.aload_n 0, 1) := by decide +kernel
theorem dX10_close_1 : decode cX10_close 1 = .ok (.getfield 37, 3) := by decide +kernel
theorem dX10_close_4 : decode cX10_close 4 = .ok (.invokevirtual 127, 3) := by decide +kernel
theorem dX10_close_7 : decode cX10_close 7 = .ok (.aload_n 0, 1) := by decide +kernel
theorem dX10_close_8 : decode cX10_close 8 = .ok (.iload_n 1, 1) := by decide +kernel
theorem dX10_close_9 : decode cX10_close 9 = .ok (.invokevirtual 224, 3) := by decide +kernel
theorem dX10_close_12 : decode cX10_close 12 = .ok (.istore_n 2, 1) := by decide +kernel
theorem dX10_close_13 : decode cX10_close 13 = .ok (.iload_n 2, 1) := by decide +kernel
theorem dX10_close_14 : decode cX10_close 14 = .ok (.ifCond .ge 6, 3) := by decide +kernel
theorem dX10_close_17 : decode cX10_close 17 = .ok (.bipush (-9), 2) := by decide +kernel
theorem dX10_close_19 : decode cX10_close 19 = .ok (.ireturn, 1) := by decide +kernel
theorem dX10_close_20 : decode cX10_close 20 = .ok (.aload_n 0, 1) := by decide +kernel
theorem dX10_close_21 : decode cX10_close 21 = .ok (.getfield 76, 3) := by decide +kernel
theorem dX10_close_24 : decode cX10_close 24 = .ok (.iload_n 1, 1) := by decide +kernel
theorem dX10_close_25 : decode cX10_close 25 = .ok (.iconst (-1), 1) := by decide +kernel
theorem dX10_close_26 : decode cX10_close 26 = .ok (.iastore, 1) := by decide +kernel
theorem dX10_close_27 : decode cX10_close 27 = .ok (.aload_n 0, 1) := by decide +kernel
theorem dX10_close_28 : decode cX10_close 28 = .ok (.getfield 28, 3) := by decide +kernel
theorem dX10_close_31 : decode cX10_close 31 = .ok (.iload_n 2, 1) := by decide +kernel
theorem dX10_close_32 : decode cX10_close 32 = .ok (.invokevirtual 172, 3) := by decide +kernel
theorem dX10_close_35 : decode cX10_close 35 = .ok (.ifCond .ne 19, 3) := by decide +kernel
theorem dX10_close_38 : decode cX10_close 38 = .ok (.aload_n 0, 1) := by decide +kernel
theorem dX10_close_39 : decode cX10_close 39 = .ok (.iload_n 2, 1) := by decide +kernel
theorem dX10_close_40 : decode cX10_close 40 = .ok (.invokevirtual 218, 3) := by decide +kernel
theorem dX10_close_43 : decode cX10_close 43 = .ok (.ifCond .ne 11, 3) := by decide +kernel
theorem dX10_close_46 : decode cX10_close 46 = .ok (.aload_n 0, 1) := by decide +kernel
theorem dX10_close_47 : decode cX10_close 47 = .ok (.getfield 28, 3) := by decide +kernel
theorem dX10_close_50 : decode cX10_close 50 = .ok (.iload_n 2, 1) := by decide +kernel
theorem dX10_close_51 : decode cX10_close 51 = .ok (.invokevirtual 196, 3) := by decide +kernel
theorem dX10_close_54 : decode cX10_close 54 = .ok (.iconst 0, 1) := by decide +kernel
theorem dX10_close_55 : decode cX10_close 55 = .ok (.ireturn, 1) := by decide +kernel
set_option maxRecDepth 100000 in
set_option maxHeartbeats 1000000 in
theorem j_X10_close_54 {p : Program} {l : Launch} {e : Env} {s : State} {m : MethodId} {args : Array Value} {below : List Frame} {meth : Method} {c : Code} {D : va_G} {aC : Nat → ClassId} {b0 fu : Nat} {σ0 τ : tM} {v : (Int32) ⊕ Unit}  (C : tCx p l s m args meth c yX10_close.cls cX10_close 3 (some .int) D aC b0 σ0) (htab : ∀ x ∈ c.exceptionTable.toList, False) (hin : meth.name = yX10_close.name)   {σ : tM} (hm : J_X10_close_54 b0 fu   σ = some (v, τ)) : tX p l e s m args below meth c 3 12 219 D aC b0 σ0 (rxI "java/lang/IllegalStateException" v) τ 54 [] [] σ := by
  unfold J_X10_close_54 at hm
  refine zx_iconst (v := 0) C dX10_close_54 (by decide) ?_
  obtain ⟨rfl, rfl⟩ := ret_e hm
  exact zx_iret C rfl rfl rfl dX10_close_55
set_option maxRecDepth 100000 in
set_option maxHeartbeats 1000000 in
theorem c_X10_close {l : Launch} {D : va_G} {aC : Nat → ClassId} {b0 fu : Nat} {a0 : Nat} {p0 : Int32} {σ τ : tM} {v : (Int32) ⊕ Unit} (hm : m_X10_close b0 fu a0 p0 σ = some (v, τ)) : tMt l D aC b0 yX10_close (Cond.code yX10_close cX10_close 3 (some .int)) 12 219 [.ref (a0), .int (p0)] σ (rxI "java/lang/IllegalStateException" v) τ := by
  unfold m_X10_close at hm
  obtain ⟨hg, hm⟩ := grw_e hm
  refine tMt_of (n := 0) rfl (Nat.le_of_ble_eq_true rfl) hg ?_
  intro p e s m below meth c C htab hin
  refine zx_lv [0, 1] [(0, .ref (a0)), (1, .int (p0))] rfl ?_
  refine zx_aload_n C dX10_close_0 0 rfl ?_
  obtain ⟨k1, i2, hm⟩ := ckO_e hm
  obtain ⟨a3, h4, hm⟩ := osm_e hm
  refine zx_get (j := 3) C tC_10 k1 i2 ⟨by decide, Or.inl W_2_216⟩ dX10_close_1 (.ref a3) (rf_s h4) ?_
  obtain ⟨k5, i6, hm⟩ := ckO_e hm
  rcases clx_e hm with ⟨v7, ρ8, h9, hm⟩ | ⟨ρ8, h9, hm⟩
  · refine zx_callV (σ := σ) C [] tC_1 k5 i6 Y_X1_postAhead W_3_108 W_3_109 W_3_110 (c_X1_postAhead h9) (by decide) (by decide) rfl (Nat.le_of_ble_eq_true rfl) dX10_close_4 rfl ?_
    refine zx_aload_n C dX10_close_7 0 rfl ?_
    refine zx_iload_n C dX10_close_8 1 rfl ?_
    obtain ⟨k10, i11, hm⟩ := ckO_e hm
    obtain ⟨v12, ρ13, h14, hm⟩ := cll_e hm
    refine zx_callV (σ := ρ8) C [.int (p0)] tC_10 k10 i11 Y_X10_fileOf W_5_138 W_5_140 Wp_41 (c_X10_fileOf h14) (by decide) (by decide) rfl (Nat.le_of_ble_eq_true rfl) dX10_close_9 rfl ?_
    refine zx_istore_n C [(2, .int (v12)), (0, .ref (a0)), (1, .int (p0))] dX10_close_12 rfl (by decide) rfl ?_
    refine zx_iload_n C dX10_close_13 0 rfl ?_
    refine zx_if_ge C 20 dX10_close_14 (by decide) (fun c15 => ?_) (fun c15 => ?_)
    · replace hm := ip_e hm c15
      refine zx_aload_n C dX10_close_20 1 rfl ?_
      obtain ⟨k16, i17, hm⟩ := ckO_e hm
      obtain ⟨a18, h19, hm⟩ := osm_e hm
      refine zx_get (j := 9) C tC_10 k16 i17 ⟨by decide, Or.inl W_2_222⟩ dX10_close_21 (.ref a18) (rf_s h19) ?_
      refine zx_iload_n C dX10_close_24 2 rfl ?_
      refine zx_iconst (v := (-1)) C dX10_close_25 (by decide) ?_
      obtain ⟨n22, k20, i21, hm⟩ := ckR_e hm
      obtain ⟨h23, hm⟩ := ckI_e hm
      refine zx_iast C k20 i21 h23 dX10_close_26 ?_
      refine zx_aload_n C dX10_close_27 1 rfl ?_
      obtain ⟨a24, h25, hm⟩ := osm_e hm
      refine zx_get (j := 2) C tC_10 k16 i17 ⟨by decide, Or.inl W_2_215⟩ dX10_close_28 (.ref a24) (rf_s h25) ?_
      refine zx_iload_n C dX10_close_31 0 rfl ?_
      obtain ⟨k26, i27, hm⟩ := ckO_e hm
      obtain ⟨v28, ρ29, h30, hm⟩ := cll_e hm
      refine zx_callV (σ := sI (ρ13) (a18) ((p0).toNatClampNeg) ((-1))) C [.int (v12)] tC_8 k26 i27 Y_X8_names W_5_15 W_4_191 W_4_192 (c_X8_names h30) (by decide) (by decide) rfl (Nat.le_of_ble_eq_true rfl) dX10_close_32 rfl ?_
      refine zx_if_ne C 54 dX10_close_35 (by decide) (fun c31 => ?_) (fun c31 => ?_)
      · replace hm := in_e hm c31
        exact zx_lv [] [] rfl (j_X10_close_54 C htab hin    hm)
      · replace hm := ip_e hm c31
        refine zx_aload_n C dX10_close_38 1 rfl ?_
        refine zx_iload_n C dX10_close_39 0 rfl ?_
        obtain ⟨k32, i33, hm⟩ := ckO_e hm
        obtain ⟨v34, ρ35, h36, hm⟩ := cll_e hm
        refine zx_callV (σ := ρ29) C [.int (v12)] tC_10 k32 i33 Y_X10_isHeld W_5_84 W_5_86 Wp_38 (c_X10_isHeld h36) (by decide) (by decide) rfl (Nat.le_of_ble_eq_true rfl) dX10_close_40 rfl ?_
        refine zx_if_ne C 54 dX10_close_43 (by decide) (fun c37 => ?_) (fun c37 => ?_)
        · replace hm := in_e hm c37
          exact zx_lv [] [] rfl (j_X10_close_54 C htab hin    hm)
        · replace hm := ip_e hm c37
          refine zx_aload_n C dX10_close_46 1 rfl ?_
          obtain ⟨k38, i39, hm⟩ := ckO_e hm
          obtain ⟨a40, h41, hm⟩ := osm_e hm
          refine zx_get (j := 2) C tC_10 k38 i39 ⟨by decide, Or.inl W_2_215⟩ dX10_close_47 (.ref a40) (rf_s h41) ?_
          refine zx_iload_n C dX10_close_50 0 rfl ?_
          obtain ⟨k42, i43, hm⟩ := ckO_e hm
          obtain ⟨v44, ρ45, h46, hm⟩ := cll_e hm
          refine zx_callV (σ := ρ35) C [.int (v12)] tC_8 k42 i43 Y_X8_discard W_5_62 W_5_63 W_5_64 (c_X8_discard h46) (by decide) (by decide) rfl (Nat.le_of_ble_eq_true rfl) dX10_close_51 rfl ?_
          exact zx_lv [] [] rfl (j_X10_close_54 C htab hin    hm)
    · replace hm := in_e hm c15
      refine zx_bipush (v := (-9)) C dX10_close_17 (by decide) ?_
      obtain ⟨rfl, rfl⟩ := ret_e hm
      exact zx_iret C rfl rfl rfl dX10_close_19
  · cases hm
    exact zx_outV (σ := σ) C htab [] tC_1 k5 i6 Y_X1_postAhead W_3_108 W_3_109 W_3_110 (c_X1_postAhead h9) rfl (by decide) (by decide) rfl (Nat.le_of_ble_eq_true rfl) dX10_close_4 rfl
abbrev cX10_write : ByteArray := prog_1_method_23_code
def yX10_write : MethodName := ⟨"SyncTree", "write", "(III)I"⟩
theorem Y_X10_write : tY yX10_write cX10_write 6 (some .int) 3 := ⟨W_5_148, W_1_1, ⟨by decide +kernel, by decide +kernel⟩, by decide +kernel⟩
theorem dX10_write_0 : decode cX10_write 0 = .ok (.aload_n 0, 1) := by decide +kernel
theorem dX10_write_1 : decode cX10_write 1 = .ok (.getfield 37, 3) := by decide +kernel
theorem dX10_write_4 : decode cX10_write 4 = .ok (.invokevirtual 127, 3) := by decide +kernel
theorem dX10_write_7 : decode cX10_write 7 = .ok (.aload_n 0, 1) := by decide +kernel
theorem dX10_write_8 : decode cX10_write 8 = .ok (.iload_n 1, 1) := by decide +kernel
theorem dX10_write_9 : decode cX10_write 9 = .ok (.invokevirtual 224, 3) := by decide +kernel
theorem dX10_write_12 : decode cX10_write 12 = .ok (.istore 4, 2) := by decide +kernel
theorem dX10_write_14 : decode cX10_write 14 = .ok (.iload_n 3, 1) := by decide +kernel
theorem dX10_write_15 : decode cX10_write 15 = .ok (.aload_n 0, 1) := by decide +kernel
theorem dX10_write_16 : decode cX10_write 16 = .ok (.getfield 62, 3) := by decide +kernel
theorem dX10_write_19 : decode cX10_write 19 = .ok (.getfield 115, 3) := by decide +kernel
theorem dX10_write_22 : decode cX10_write 22 = .ok (.if_icmp .le 8, 3) := by decide +kernel
theorem dX10_write_25 : decode cX10_write 25 = .ok (.bipush (-9), 2) := by decide +kernel
theorem dX10_write_27 : decode cX10_write 27 = .ok (.goto 11, 3) := by decide +kernel
theorem dX10_write_30 : decode cX10_write 30 = .ok (.aload_n 0, 1) := by decide +kernel
theorem dX10_write_31 : decode cX10_write 31 = .ok (.iload 4, 2) := by decide +kernel
theorem dX10_write_33 : decode cX10_write 33 = .ok (.iload_n 2, 1) := by decide +kernel
theorem dX10_write_34 : decode cX10_write 34 = .ok (.iload_n 3, 1) := by decide +kernel
theorem dX10_write_35 : decode cX10_write 35 = .ok (.invokevirtual 227, 3) := by decide +kernel
theorem dX10_write_38 : decode cX10_write 38 = .ok (.istore 5, 2) := by decide +kernel
theorem dX10_write_40 : decode cX10_write 40 = .ok (.iload 5, 2) := by decide +kernel
theorem dX10_write_42 : decode cX10_write 42 = .ok (.ifCond .le 18, 3) := by decide +kernel
theorem dX10_write_45 : decode cX10_write 45 = .ok (.aload_n 0, 1) := by decide +kernel
theorem dX10_write_46 : decode cX10_write 46 = .ok (.getfield 28, 3) := by decide +kernel
theorem dX10_write_49 : decode cX10_write 49 = .ok (.iload 4, 2) := by decide +kernel
theorem dX10_write_51 : decode cX10_write 51 = .ok (.iload_n 2, 1) := by decide +kernel
theorem dX10_write_52 : decode cX10_write 52 = .ok (.iload_n 3, 1) := by decide +kernel
theorem dX10_write_53 : decode cX10_write 53 = .ok (.aload_n 0, 1) := by decide +kernel
theorem dX10_write_54 : decode cX10_write 54 = .ok (.getfield 62, 3) := by decide +kernel
theorem dX10_write_57 : decode cX10_write 57 = .ok (.invokevirtual 230, 3) := by decide +kernel
theorem dX10_write_60 : decode cX10_write 60 = .ok (.aload_n 0, 1) := by decide +kernel
theorem dX10_write_61 : decode cX10_write 61 = .ok (.getfield 62, 3) := by decide +kernel
theorem dX10_write_64 : decode cX10_write 64 = .ok (.invokevirtual 98, 3) := by decide +kernel
theorem dX10_write_67 : decode cX10_write 67 = .ok (.iload 5, 2) := by decide +kernel
theorem dX10_write_69 : decode cX10_write 69 = .ok (.ireturn, 1) := by decide +kernel
set_option maxRecDepth 100000 in
set_option maxHeartbeats 1000000 in
theorem j_X10_write_60 {p : Program} {l : Launch} {e : Env} {s : State} {m : MethodId} {args : Array Value} {below : List Frame} {meth : Method} {c : Code} {D : va_G} {aC : Nat → ClassId} {b0 fu : Nat} {σ0 τ : tM} {v : (Int32) ⊕ Unit}  (C : tCx p l s m args meth c yX10_write.cls cX10_write 6 (some .int) D aC b0 σ0) (htab : ∀ x ∈ c.exceptionTable.toList, False) (hin : meth.name = yX10_write.name)  {x0 : Nat} {x5 : Int32} {σ : tM} (hm : J_X10_write_60 b0 fu  x0 x5 σ = some (v, τ)) : tX p l e s m args below meth c 6 12 219 D aC b0 σ0 (rxI "java/lang/IllegalStateException" v) τ 60 [(0, .ref (x0)), (5, .int (x5))] [] σ := by
  unfold J_X10_write_60 at hm
  refine zx_aload_n C dX10_write_60 0 rfl ?_
  obtain ⟨k26, i27, hm⟩ := ckO_e hm
  obtain ⟨a28, h29, hm⟩ := osm_e hm
  refine zx_get (j := 6) C tC_10 k26 i27 ⟨by decide, Or.inl W_2_219⟩ dX10_write_61 (.ref a28) (rf_s h29) ?_
  obtain ⟨k30, i31, hm⟩ := ckO_e hm
  obtain ⟨v32, ρ33, h34, hm⟩ := cll_e hm
  refine zx_callV (σ := σ) C [] tC_6 k30 i31 Y_X6_useUp W_2_202 W_2_203 W_2_204 (c_X6_useUp h34) (by decide) (by decide) rfl (Nat.le_of_ble_eq_true rfl) dX10_write_64 rfl ?_
  refine zx_iload C dX10_write_67 1 rfl ?_
  obtain ⟨rfl, rfl⟩ := ret_e hm
  exact zx_iret C rfl rfl rfl dX10_write_69
set_option maxRecDepth 100000 in
set_option maxHeartbeats 1000000 in
theorem j_X10_write_38 {p : Program} {l : Launch} {e : Env} {s : State} {m : MethodId} {args : Array Value} {below : List Frame} {meth : Method} {c : Code} {D : va_G} {aC : Nat → ClassId} {b0 fu : Nat} {σ0 τ : tM} {v : (Int32) ⊕ Unit}  (C : tCx p l s m args meth c yX10_write.cls cX10_write 6 (some .int) D aC b0 σ0) (htab : ∀ x ∈ c.exceptionTable.toList, False) (hin : meth.name = yX10_write.name)  {x0 : Nat} {x2 : Int32} {x3 : Int32} {x4 : Int32} {s0 : Int32} {σ : tM} (hm : J_X10_write_38 b0 fu  x0 x2 x3 x4 s0 σ = some (v, τ)) : tX p l e s m args below meth c 6 12 219 D aC b0 σ0 (rxI "java/lang/IllegalStateException" v) τ 38 [(0, .ref (x0)), (2, .int (x2)), (3, .int (x3)), (4, .int (x4))] [.int (s0)] σ := by
  unfold J_X10_write_38 at hm
  refine zx_istore C [(5, .int (s0)), (0, .ref (x0)), (2, .int (x2)), (3, .int (x3)), (4, .int (x4))] dX10_write_38 (by decide) rfl ?_
  refine zx_iload C dX10_write_40 0 rfl ?_
  refine zx_if_le C 60 dX10_write_42 (by decide) (fun c25 => ?_) (fun c25 => ?_)
  · replace hm := ip_e hm c25
    exact zx_lv [1, 0] [(0, .ref (x0)), (5, .int (s0))] rfl (j_X10_write_60 C htab hin    hm)
  · replace hm := in_e hm c25
    refine zx_aload_n C dX10_write_45 1 rfl ?_
    obtain ⟨k35, i36, hm⟩ := ckO_e hm
    obtain ⟨a37, h38, hm⟩ := osm_e hm
    refine zx_get (j := 2) C tC_10 k35 i36 ⟨by decide, Or.inl W_2_215⟩ dX10_write_46 (.ref a37) (rf_s h38) ?_
    refine zx_iload C dX10_write_49 4 rfl ?_
    refine zx_iload_n C dX10_write_51 2 rfl ?_
    refine zx_iload_n C dX10_write_52 3 rfl ?_
    refine zx_aload_n C dX10_write_53 1 rfl ?_
    obtain ⟨a39, h40, hm⟩ := osm_e hm
    refine zx_get (j := 6) C tC_10 k35 i36 ⟨by decide, Or.inl W_2_219⟩ dX10_write_54 (.ref a39) (rf_s h40) ?_
    obtain ⟨k41, i42, hm⟩ := ckO_e hm
    obtain ⟨v43, ρ44, h45, hm⟩ := cll_e hm
    refine zx_callV (σ := σ) C [.int (x4), .int (x2), .int (x3), .ref (a39)] tC_8 k41 i42 Y_X8_storeTape W_5_158 W_5_159 W_5_160 (c_X8_storeTape h45) (by decide) (by decide) rfl (Nat.le_of_ble_eq_true rfl) dX10_write_57 rfl ?_
    exact zx_lv [1, 0] [(0, .ref (x0)), (5, .int (s0))] rfl (j_X10_write_60 C htab hin    hm)
set_option maxRecDepth 100000 in
set_option maxHeartbeats 1000000 in
theorem c_X10_write {l : Launch} {D : va_G} {aC : Nat → ClassId} {b0 fu : Nat} {a0 : Nat} {p0 : Int32} {p1 : Int32} {p2 : Int32} {σ τ : tM} {v : (Int32) ⊕ Unit} (hm : m_X10_write b0 fu a0 p0 p1 p2 σ = some (v, τ)) : tMt l D aC b0 yX10_write (Cond.code yX10_write cX10_write 6 (some .int)) 12 219 [.ref (a0), .int (p0), .int (p1), .int (p2)] σ (rxI "java/lang/IllegalStateException" v) τ := by
  unfold m_X10_write at hm
  obtain ⟨hg, hm⟩ := grw_e hm
  refine tMt_of (n := 0) rfl (Nat.le_of_ble_eq_true rfl) hg ?_
  intro p e s m below meth c C htab hin
  refine zx_lv [0, 1, 2, 3] [(0, .ref (a0)), (1, .int (p0)), (2, .int (p1)), (3, .int (p2))] rfl ?_
  refine zx_aload_n C dX10_write_0 0 rfl ?_
  obtain ⟨k1, i2, hm⟩ := ckO_e hm
  obtain ⟨a3, h4, hm⟩ := osm_e hm
  refine zx_get (j := 3) C tC_10 k1 i2 ⟨by decide, Or.inl W_2_216⟩ dX10_write_1 (.ref a3) (rf_s h4) ?_
  obtain ⟨k5, i6, hm⟩ := ckO_e hm
  rcases clx_e hm with ⟨v7, ρ8, h9, hm⟩ | ⟨ρ8, h9, hm⟩
  · refine zx_callV (σ := σ) C [] tC_1 k5 i6 Y_X1_postAhead W_3_108 W_3_109 W_3_110 (c_X1_postAhead h9) (by decide) (by decide) rfl (Nat.le_of_ble_eq_true rfl) dX10_write_4 rfl ?_
    refine zx_aload_n C dX10_write_7 0 rfl ?_
    refine zx_iload_n C dX10_write_8 1 rfl ?_
    obtain ⟨k10, i11, hm⟩ := ckO_e hm
    obtain ⟨v12, ρ13, h14, hm⟩ := cll_e hm
    refine zx_callV (σ := ρ8) C [.int (p0)] tC_10 k10 i11 Y_X10_fileOf W_5_138 W_5_140 Wp_41 (c_X10_fileOf h14) (by decide) (by decide) rfl (Nat.le_of_ble_eq_true rfl) dX10_write_9 rfl ?_
    refine zx_istore C [(4, .int (v12)), (0, .ref (a0)), (1, .int (p0)), (2, .int (p1)), (3, .int (p2))] dX10_write_12 (by decide) rfl ?_
    refine zx_iload_n C dX10_write_14 4 rfl ?_
    refine zx_aload_n C dX10_write_15 1 rfl ?_
    obtain ⟨k15, i16, hm⟩ := ckO_e hm
    obtain ⟨a17, h18, hm⟩ := osm_e hm
    refine zx_get (j := 6) C tC_10 k15 i16 ⟨by decide, Or.inl W_2_219⟩ dX10_write_16 (.ref a17) (rf_s h18) ?_
    obtain ⟨k19, i20, hm⟩ := ckO_e hm
    refine zx_get (j := 1) C tC_6 k19 i20 ⟨by decide, Or.inr ⟨_, W_2_44⟩⟩ dX10_write_19 (.int (tI (ρ13) (a17) 1)) rfl ?_
    refine zx_icmp_le C 30 dX10_write_22 (by decide) (fun c21 => ?_) (fun c21 => ?_)
    · replace hm := ip_e hm c21
      refine zx_aload_n C dX10_write_30 1 rfl ?_
      refine zx_iload C dX10_write_31 0 rfl ?_
      refine zx_iload_n C dX10_write_33 3 rfl ?_
      refine zx_iload_n C dX10_write_34 4 rfl ?_
      obtain ⟨v22, ρ23, h24, hm⟩ := cll_e hm
      refine zx_callV (σ := ρ13) C [.int (v12), .int (p1), .int (p2)] tC_10 k15 i16 Y_X10_makeReady W_5_149 W_5_151 Wp_42 (c_X10_makeReady h24) (by decide) (by decide) rfl (Nat.le_of_ble_eq_true rfl) dX10_write_35 rfl ?_
      exact zx_lv [1, 3, 4, 0] [(0, .ref (a0)), (2, .int (p1)), (3, .int (p2)), (4, .int (v12))] rfl (j_X10_write_38 C htab hin    hm)
    · replace hm := in_e hm c21
      refine zx_bipush (v := (-9)) C dX10_write_25 (by decide) ?_
      refine zx_goto C 38 dX10_write_27 (by decide) ?_
      exact zx_lv [1, 3, 4, 0] [(0, .ref (a0)), (2, .int (p1)), (3, .int (p2)), (4, .int (v12))] rfl (j_X10_write_38 C htab hin    hm)
  · cases hm
    exact zx_outV (σ := σ) C htab [] tC_1 k5 i6 Y_X1_postAhead W_3_108 W_3_109 W_3_110 (c_X1_postAhead h9) rfl (by decide) (by decide) rfl (Nat.le_of_ble_eq_true rfl) dX10_write_4 rfl
abbrev cX10_fill : ByteArray := prog_1_method_24_code
def yX10_fill : MethodName := ⟨"SyncTree", "fill", "(IIII)I"⟩
theorem Y_X10_fill : tY yX10_fill cX10_fill 7 (some .int) 4 := ⟨W_5_169, W_1_1, ⟨by decide +kernel, by decide +kernel⟩, by decide +kernel⟩
theorem dX10_fill_0 : decode cX10_fill 0 = .ok (.aload_n 0, 1) := by decide +kernel
theorem dX10_fill_1 : decode cX10_fill 1 = .ok (.getfield 37, 3) := by decide +kernel
theorem dX10_fill_4 : decode cX10_fill 4 = .ok (.invokevirtual 127, 3) := by decide +kernel
theorem dX10_fill_7 : decode cX10_fill 7 = .ok (.aload_n 0, 1) := by decide +kernel
theorem dX10_fill_8 : decode cX10_fill 8 = .ok (.iload_n 1, 1) := by decide +kernel
theorem dX10_fill_9 : decode cX10_fill 9 = .ok (.invokevirtual 224, 3) := by decide +kernel
theorem dX10_fill_12 : decode cX10_fill 12 = .ok (.istore 5, 2) := by decide +kernel
theorem dX10_fill_14 : decode cX10_fill 14 = .ok (.iload_n 3, 1) := by decide +kernel
theorem dX10_fill_15 : decode cX10_fill 15 = .ok (.sipush 16384, 3) := by decide +kernel
theorem dX10_fill_18 : decode cX10_fill 18 = .ok (.if_icmp .gt 16, 3) := by decide +kernel
theorem dX10_fill_21 : decode cX10_fill 21 = .ok (.iload 4, 2) := by decide +kernel
theorem dX10_fill_23 : decode cX10_fill 23 = .ok (.ifCond .lt 11, 3) := by decide +kernel
theorem dX10_fill_26 : decode cX10_fill 26 = .ok (.iload 4, 2) := by decide +kernel
theorem dX10_fill_28 : decode cX10_fill 28 = .ok (.sipush 255, 3) := by decide +kernel
theorem dX10_fill_31 : decode cX10_fill 31 = .ok (.if_icmp .le 6, 3) := by decide +kernel
theorem dX10_fill_34 : decode cX10_fill 34 = .ok (.bipush (-9), 2) := by decide +kernel
theorem dX10_fill_36 : decode cX10_fill 36 = .ok (.ireturn, 1) := by decide +kernel
theorem dX10_fill_37 : decode cX10_fill 37 = .ok (.aload_n 0, 1) := by decide +kernel
theorem dX10_fill_38 : decode cX10_fill 38 = .ok (.iload 5, 2) := by decide +kernel
theorem dX10_fill_40 : decode cX10_fill 40 = .ok (.iload_n 2, 1) := by decide +kernel
theorem dX10_fill_41 : decode cX10_fill 41 = .ok (.iload_n 3, 1) := by decide +kernel
theorem dX10_fill_42 : decode cX10_fill 42 = .ok (.invokevirtual 227, 3) := by decide +kernel
theorem dX10_fill_45 : decode cX10_fill 45 = .ok (.istore 6, 2) := by decide +kernel
theorem dX10_fill_47 : decode cX10_fill 47 = .ok (.iload 6, 2) := by decide +kernel
theorem dX10_fill_49 : decode cX10_fill 49 = .ok (.ifCond .le 16, 3) := by decide +kernel
theorem dX10_fill_52 : decode cX10_fill 52 = .ok (.aload_n 0, 1) := by decide +kernel
theorem dX10_fill_53 : decode cX10_fill 53 = .ok (.getfield 28, 3) := by decide +kernel
theorem dX10_fill_56 : decode cX10_fill 56 = .ok (.iload 5, 2) := by decide +kernel
theorem dX10_fill_58 : decode cX10_fill 58 = .ok (.iload_n 2, 1) := by decide +kernel
theorem dX10_fill_59 : decode cX10_fill 59 = .ok (.iload_n 3, 1) := by decide +kernel
theorem dX10_fill_60 : decode cX10_fill 60 = .ok (.iload 4, 2) := by decide +kernel
theorem dX10_fill_62 : decode cX10_fill 62 = .ok (.invokevirtual 234, 3) := by decide +kernel
theorem dX10_fill_65 : decode cX10_fill 65 = .ok (.iload 6, 2) := by decide +kernel
theorem dX10_fill_67 : decode cX10_fill 67 = .ok (.ireturn, 1) := by decide +kernel
set_option maxRecDepth 100000 in
set_option maxHeartbeats 1000000 in
theorem j_X10_fill_34 {p : Program} {l : Launch} {e : Env} {s : State} {m : MethodId} {args : Array Value} {below : List Frame} {meth : Method} {c : Code} {D : va_G} {aC : Nat → ClassId} {b0 fu : Nat} {σ0 τ : tM} {v : (Int32) ⊕ Unit}  (C : tCx p l s m args meth c yX10_fill.cls cX10_fill 7 (some .int) D aC b0 σ0) (htab : ∀ x ∈ c.exceptionTable.toList, False) (hin : meth.name = yX10_fill.name)   {σ : tM} (hm : J_X10_fill_34 b0 fu   σ = some (v, τ)) : tX p l e s m args below meth c 7 12 219 D aC b0 σ0 (rxI "java/lang/IllegalStateException" v) τ 34 [] [] σ := by
  unfold J_X10_fill_34 at hm
  refine zx_bipush (v := (-9)) C dX10_fill_34 (by decide) ?_
  obtain ⟨rfl, rfl⟩ := ret_e hm
  exact zx_iret C rfl rfl rfl dX10_fill_36
set_option maxRecDepth 100000 in
set_option maxHeartbeats 1000000 in
theorem j_X10_fill_65 {p : Program} {l : Launch} {e : Env} {s : State} {m : MethodId} {args : Array Value} {below : List Frame} {meth : Method} {c : Code} {D : va_G} {aC : Nat → ClassId} {b0 fu : Nat} {σ0 τ : tM} {v : (Int32) ⊕ Unit}  (C : tCx p l s m args meth c yX10_fill.cls cX10_fill 7 (some .int) D aC b0 σ0) (htab : ∀ x ∈ c.exceptionTable.toList, False) (hin : meth.name = yX10_fill.name)  {x6 : Int32} {σ : tM} (hm : J_X10_fill_65 b0 fu  x6 σ = some (v, τ)) : tX p l e s m args below meth c 7 12 219 D aC b0 σ0 (rxI "java/lang/IllegalStateException" v) τ 65 [(6, .int (x6))] [] σ := by
  unfold J_X10_fill_65 at hm
  refine zx_iload C dX10_fill_65 0 rfl ?_
  obtain ⟨rfl, rfl⟩ := ret_e hm
  exact zx_iret C rfl rfl rfl dX10_fill_67
set_option maxRecDepth 100000 in
set_option maxHeartbeats 1000000 in
theorem c_X10_fill {l : Launch} {D : va_G} {aC : Nat → ClassId} {b0 fu : Nat} {a0 : Nat} {p0 : Int32} {p1 : Int32} {p2 : Int32} {p3 : Int32} {σ τ : tM} {v : (Int32) ⊕ Unit} (hm : m_X10_fill b0 fu a0 p0 p1 p2 p3 σ = some (v, τ)) : tMt l D aC b0 yX10_fill (Cond.code yX10_fill cX10_fill 7 (some .int)) 12 219 [.ref (a0), .int (p0), .int (p1), .int (p2), .int (p3)] σ (rxI "java/lang/IllegalStateException" v) τ := by
  unfold m_X10_fill at hm
  obtain ⟨hg, hm⟩ := grw_e hm
  refine tMt_of (n := 0) rfl (Nat.le_of_ble_eq_true rfl) hg ?_
  intro p e s m below meth c C htab hin
  refine zx_lv [0, 1, 2, 3, 4] [(0, .ref (a0)), (1, .int (p0)), (2, .int (p1)), (3, .int (p2)), (4, .int (p3))] rfl ?_
  refine zx_aload_n C dX10_fill_0 0 rfl ?_
  obtain ⟨k1, i2, hm⟩ := ckO_e hm
  obtain ⟨a3, h4, hm⟩ := osm_e hm
  refine zx_get (j := 3) C tC_10 k1 i2 ⟨by decide, Or.inl W_2_216⟩ dX10_fill_1 (.ref a3) (rf_s h4) ?_
  obtain ⟨k5, i6, hm⟩ := ckO_e hm
  rcases clx_e hm with ⟨v7, ρ8, h9, hm⟩ | ⟨ρ8, h9, hm⟩
  · refine zx_callV (σ := σ) C [] tC_1 k5 i6 Y_X1_postAhead W_3_108 W_3_109 W_3_110 (c_X1_postAhead h9) (by decide) (by decide) rfl (Nat.le_of_ble_eq_true rfl) dX10_fill_4 rfl ?_
    refine zx_aload_n C dX10_fill_7 0 rfl ?_
    refine zx_iload_n C dX10_fill_8 1 rfl ?_
    obtain ⟨k10, i11, hm⟩ := ckO_e hm
    obtain ⟨v12, ρ13, h14, hm⟩ := cll_e hm
    refine zx_callV (σ := ρ8) C [.int (p0)] tC_10 k10 i11 Y_X10_fileOf W_5_138 W_5_140 Wp_41 (c_X10_fileOf h14) (by decide) (by decide) rfl (Nat.le_of_ble_eq_true rfl) dX10_fill_9 rfl ?_
    refine zx_istore C [(5, .int (v12)), (0, .ref (a0)), (1, .int (p0)), (2, .int (p1)), (3, .int (p2)), (4, .int (p3))] dX10_fill_12 (by decide) rfl ?_
    refine zx_iload_n C dX10_fill_14 4 rfl ?_
    refine zx_sipush (v := 16384) C dX10_fill_15 (by decide) ?_
    refine zx_icmp_gt C 34 dX10_fill_18 (by decide) (fun c15 => ?_) (fun c15 => ?_)
    · replace hm := ip_e hm c15
      exact zx_lv [] [] rfl (j_X10_fill_34 C htab hin    hm)
    · replace hm := in_e hm c15
      refine zx_iload C dX10_fill_21 5 rfl ?_
      refine zx_if_lt C 34 dX10_fill_23 (by decide) (fun c16 => ?_) (fun c16 => ?_)
      · replace hm := ip_e hm c16
        exact zx_lv [] [] rfl (j_X10_fill_34 C htab hin    hm)
      · replace hm := in_e hm c16
        refine zx_iload C dX10_fill_26 5 rfl ?_
        refine zx_sipush (v := 255) C dX10_fill_28 (by decide) ?_
        refine zx_icmp_le C 37 dX10_fill_31 (by decide) (fun c17 => ?_) (fun c17 => ?_)
        · replace hm := ip_e hm c17
          refine zx_aload_n C dX10_fill_37 1 rfl ?_
          refine zx_iload C dX10_fill_38 0 rfl ?_
          refine zx_iload_n C dX10_fill_40 3 rfl ?_
          refine zx_iload_n C dX10_fill_41 4 rfl ?_
          obtain ⟨k18, i19, hm⟩ := ckO_e hm
          obtain ⟨v20, ρ21, h22, hm⟩ := cll_e hm
          refine zx_callV (σ := ρ13) C [.int (v12), .int (p1), .int (p2)] tC_10 k18 i19 Y_X10_makeReady W_5_149 W_5_151 Wp_42 (c_X10_makeReady h22) (by decide) (by decide) rfl (Nat.le_of_ble_eq_true rfl) dX10_fill_42 rfl ?_
          refine zx_istore C [(6, .int (v20)), (5, .int (v12)), (0, .ref (a0)), (1, .int (p0)), (2, .int (p1)), (3, .int (p2)), (4, .int (p3))] dX10_fill_45 (by decide) rfl ?_
          refine zx_iload C dX10_fill_47 0 rfl ?_
          refine zx_if_le C 65 dX10_fill_49 (by decide) (fun c23 => ?_) (fun c23 => ?_)
          · replace hm := ip_e hm c23
            exact zx_lv [0] [(6, .int (v20))] rfl (j_X10_fill_65 C htab hin    hm)
          · replace hm := in_e hm c23
            refine zx_aload_n C dX10_fill_52 2 rfl ?_
            obtain ⟨k24, i25, hm⟩ := ckO_e hm
            obtain ⟨a26, h27, hm⟩ := osm_e hm
            refine zx_get (j := 2) C tC_10 k24 i25 ⟨by decide, Or.inl W_2_215⟩ dX10_fill_53 (.ref a26) (rf_s h27) ?_
            refine zx_iload C dX10_fill_56 1 rfl ?_
            refine zx_iload_n C dX10_fill_58 4 rfl ?_
            refine zx_iload_n C dX10_fill_59 5 rfl ?_
            refine zx_iload C dX10_fill_60 6 rfl ?_
            obtain ⟨k28, i29, hm⟩ := ckO_e hm
            obtain ⟨v30, ρ31, h32, hm⟩ := cll_e hm
            refine zx_callV (σ := ρ21) C [.int (v12), .int (p1), .int (p2), .int (p3)] tC_8 k28 i29 Y_X8_storeSame W_5_170 W_5_171 W_5_172 (c_X8_storeSame h32) (by decide) (by decide) rfl (Nat.le_of_ble_eq_true rfl) dX10_fill_62 rfl ?_
            exact zx_lv [0] [(6, .int (v20))] rfl (j_X10_fill_65 C htab hin    hm)
        · replace hm := in_e hm c17
          exact zx_lv [] [] rfl (j_X10_fill_34 C htab hin    hm)
  · cases hm
    exact zx_outV (σ := σ) C htab [] tC_1 k5 i6 Y_X1_postAhead W_3_108 W_3_109 W_3_110 (c_X1_postAhead h9) rfl (by decide) (by decide) rfl (Nat.le_of_ble_eq_true rfl) dX10_fill_4 rfl
abbrev cX10_truncate : ByteArray := prog_1_method_26_code
def yX10_truncate : MethodName := ⟨"SyncTree", "truncate", "(II)I"⟩
theorem Y_X10_truncate : tY yX10_truncate cX10_truncate 4 (some .int) 2 := ⟨W_5_180, W_1_1, ⟨by decide +kernel, by decide +kernel⟩, by decide +kernel⟩
theorem dX10_truncate_0 : decode cX10_truncate 0 = .ok (.aload_n 0, 1) := by decide +kernel
theorem dX10_truncate_1 : decode cX10_truncate 1 = .ok (.getfield 37, 3) := by decide +kernel
theorem dX10_truncate_4 : decode cX10_truncate 4 = .ok (.invokevirtual 127, 3) := by decide +kernel
theorem dX10_truncate_7 : decode cX10_truncate 7 = .ok (.aload_n 0, 1) := by decide +kernel
theorem dX10_truncate_8 : decode cX10_truncate 8 = .ok (.iload_n 1, 1) := by decide +kernel
theorem dX10_truncate_9 : decode cX10_truncate 9 = .ok (.invokevirtual 224, 3) := by decide +kernel
theorem dX10_truncate_12 : decode cX10_truncate 12 = .ok (.istore_n 3, 1) := by decide +kernel
theorem dX10_truncate_13 : decode cX10_truncate 13 = .ok (.iload_n 3, 1) := by decide +kernel
theorem dX10_truncate_14 : decode cX10_truncate 14 = .ok (.ifCond .lt 7, 3) := by decide +kernel
theorem dX10_truncate_17 : decode cX10_truncate 17 = .ok (.iload_n 2, 1) := by decide +kernel
theorem dX10_truncate_18 : decode cX10_truncate 18 = .ok (.ifCond .ge 6, 3) := by decide +kernel
theorem dX10_truncate_21 : decode cX10_truncate 21 = .ok (.bipush (-9), 2) := by decide +kernel
theorem dX10_truncate_23 : decode cX10_truncate 23 = .ok (.ireturn, 1) := by decide +kernel
theorem dX10_truncate_24 : decode cX10_truncate 24 = .ok (.iload_n 2, 1) := by decide +kernel
theorem dX10_truncate_25 : decode cX10_truncate 25 = .ok (.ldc 254, 2) := by decide +kernel
theorem dX10_truncate_27 : decode cX10_truncate 27 = .ok (.if_icmp .le 6, 3) := by decide +kernel
theorem dX10_truncate_30 : decode cX10_truncate 30 = .ok (.bipush (-7), 2) := by decide +kernel
theorem dX10_truncate_32 : decode cX10_truncate 32 = .ok (.ireturn, 1) := by decide +kernel
theorem dX10_truncate_33 : decode cX10_truncate 33 = .ok (.aload_n 0, 1) := by decide +kernel
theorem dX10_truncate_34 : decode cX10_truncate 34 = .ok (.getfield 28, 3) := by decide +kernel
theorem dX10_truncate_37 : decode cX10_truncate 37 = .ok (.iload_n 3, 1) := by decide +kernel
theorem dX10_truncate_38 : decode cX10_truncate 38 = .ok (.iload_n 2, 1) := by decide +kernel
theorem dX10_truncate_39 : decode cX10_truncate 39 = .ok (.invokevirtual 248, 3) := by decide +kernel
theorem dX10_truncate_42 : decode cX10_truncate 42 = .ok (.iconst 0, 1) := by decide +kernel
theorem dX10_truncate_43 : decode cX10_truncate 43 = .ok (.ireturn, 1) := by decide +kernel
set_option maxRecDepth 100000 in
set_option maxHeartbeats 1000000 in
theorem j_X10_truncate_21 {p : Program} {l : Launch} {e : Env} {s : State} {m : MethodId} {args : Array Value} {below : List Frame} {meth : Method} {c : Code} {D : va_G} {aC : Nat → ClassId} {b0 fu : Nat} {σ0 τ : tM} {v : (Int32) ⊕ Unit}  (C : tCx p l s m args meth c yX10_truncate.cls cX10_truncate 4 (some .int) D aC b0 σ0) (htab : ∀ x ∈ c.exceptionTable.toList, False) (hin : meth.name = yX10_truncate.name)   {σ : tM} (hm : J_X10_truncate_21 b0 fu   σ = some (v, τ)) : tX p l e s m args below meth c 4 12 219 D aC b0 σ0 (rxI "java/lang/IllegalStateException" v) τ 21 [] [] σ := by
  unfold J_X10_truncate_21 at hm
  refine zx_bipush (v := (-9)) C dX10_truncate_21 (by decide) ?_
  obtain ⟨rfl, rfl⟩ := ret_e hm
  exact zx_iret C rfl rfl rfl dX10_truncate_23
set_option maxRecDepth 100000 in
set_option maxHeartbeats 1000000 in
theorem c_X10_truncate {l : Launch} {D : va_G} {aC : Nat → ClassId} {b0 fu : Nat} {a0 : Nat} {p0 : Int32} {p1 : Int32} {σ τ : tM} {v : (Int32) ⊕ Unit} (hm : m_X10_truncate b0 fu a0 p0 p1 σ = some (v, τ)) : tMt l D aC b0 yX10_truncate (Cond.code yX10_truncate cX10_truncate 4 (some .int)) 12 219 [.ref (a0), .int (p0), .int (p1)] σ (rxI "java/lang/IllegalStateException" v) τ := by
  unfold m_X10_truncate at hm
  obtain ⟨hg, hm⟩ := grw_e hm
  refine tMt_of (n := 0) rfl (Nat.le_of_ble_eq_true rfl) hg ?_
  intro p e s m below meth c C htab hin
  refine zx_lv [0, 1, 2] [(0, .ref (a0)), (1, .int (p0)), (2, .int (p1))] rfl ?_
  refine zx_aload_n C dX10_truncate_0 0 rfl ?_
  obtain ⟨k1, i2, hm⟩ := ckO_e hm
  obtain ⟨a3, h4, hm⟩ := osm_e hm
  refine zx_get (j := 3) C tC_10 k1 i2 ⟨by decide, Or.inl W_2_216⟩ dX10_truncate_1 (.ref a3) (rf_s h4) ?_
  obtain ⟨k5, i6, hm⟩ := ckO_e hm
  rcases clx_e hm with ⟨v7, ρ8, h9, hm⟩ | ⟨ρ8, h9, hm⟩
  · refine zx_callV (σ := σ) C [] tC_1 k5 i6 Y_X1_postAhead W_3_108 W_3_109 W_3_110 (c_X1_postAhead h9) (by decide) (by decide) rfl (Nat.le_of_ble_eq_true rfl) dX10_truncate_4 rfl ?_
    refine zx_aload_n C dX10_truncate_7 0 rfl ?_
    refine zx_iload_n C dX10_truncate_8 1 rfl ?_
    obtain ⟨k10, i11, hm⟩ := ckO_e hm
    obtain ⟨v12, ρ13, h14, hm⟩ := cll_e hm
    refine zx_callV (σ := ρ8) C [.int (p0)] tC_10 k10 i11 Y_X10_fileOf W_5_138 W_5_140 Wp_41 (c_X10_fileOf h14) (by decide) (by decide) rfl (Nat.le_of_ble_eq_true rfl) dX10_truncate_9 rfl ?_
    refine zx_istore_n C [(3, .int (v12)), (0, .ref (a0)), (1, .int (p0)), (2, .int (p1))] dX10_truncate_12 rfl (by decide) rfl ?_
    refine zx_iload_n C dX10_truncate_13 0 rfl ?_
    refine zx_if_lt C 21 dX10_truncate_14 (by decide) (fun c15 => ?_) (fun c15 => ?_)
    · replace hm := ip_e hm c15
      exact zx_lv [] [] rfl (j_X10_truncate_21 C htab hin    hm)
    · replace hm := in_e hm c15
      refine zx_iload_n C dX10_truncate_17 3 rfl ?_
      refine zx_if_ge C 24 dX10_truncate_18 (by decide) (fun c16 => ?_) (fun c16 => ?_)
      · replace hm := ip_e hm c16
        refine zx_iload_n C dX10_truncate_24 3 rfl ?_
        refine zx_ldc (v := 272384) C W_5_181 dX10_truncate_25 ?_
        refine zx_icmp_le C 33 dX10_truncate_27 (by decide) (fun c17 => ?_) (fun c17 => ?_)
        · replace hm := ip_e hm c17
          refine zx_aload_n C dX10_truncate_33 1 rfl ?_
          obtain ⟨k18, i19, hm⟩ := ckO_e hm
          obtain ⟨a20, h21, hm⟩ := osm_e hm
          refine zx_get (j := 2) C tC_10 k18 i19 ⟨by decide, Or.inl W_2_215⟩ dX10_truncate_34 (.ref a20) (rf_s h21) ?_
          refine zx_iload_n C dX10_truncate_37 0 rfl ?_
          refine zx_iload_n C dX10_truncate_38 3 rfl ?_
          obtain ⟨k22, i23, hm⟩ := ckO_e hm
          obtain ⟨v24, ρ25, h26, hm⟩ := cll_e hm
          refine zx_callV (σ := ρ13) C [.int (v12), .int (p1)] tC_8 k22 i23 Y_X8_resize W_5_156 W_5_67 W_5_68 (c_X8_resize h26) (by decide) (by decide) rfl (Nat.le_of_ble_eq_true rfl) dX10_truncate_39 rfl ?_
          refine zx_iconst (v := 0) C dX10_truncate_42 (by decide) ?_
          obtain ⟨rfl, rfl⟩ := ret_e hm
          exact zx_iret C rfl rfl rfl dX10_truncate_43
        · replace hm := in_e hm c17
          refine zx_bipush (v := (-7)) C dX10_truncate_30 (by decide) ?_
          obtain ⟨rfl, rfl⟩ := ret_e hm
          exact zx_iret C rfl rfl rfl dX10_truncate_32
      · replace hm := in_e hm c16
        exact zx_lv [] [] rfl (j_X10_truncate_21 C htab hin    hm)
  · cases hm
    exact zx_outV (σ := σ) C htab [] tC_1 k5 i6 Y_X1_postAhead W_3_108 W_3_109 W_3_110 (c_X1_postAhead h9) rfl (by decide) (by decide) rfl (Nat.le_of_ble_eq_true rfl) dX10_truncate_4 rfl
abbrev cX10_recover : ByteArray := prog_1_method_45_code
def yX10_recover : MethodName := ⟨"SyncTree", "recover", "()I"⟩
theorem Y_X10_recover : tY yX10_recover cX10_recover 2 (some .int) 0 := ⟨W_6_116, W_1_1, ⟨by decide +kernel, by decide +kernel⟩, by decide +kernel⟩
theorem dX10_recover_0 : decode cX10_recover 0 = .ok (.aload_n 0, 1) := by decide +kernel
theorem dX10_recover_1 : decode cX10_recover 1 = .ok (.getfield 12, 3) := by decide +kernel
theorem dX10_recover_4 : decode cX10_recover 4 = .ok (.getfield 352, 3) := by decide +kernel
theorem dX10_recover_7 : decode cX10_recover 7 = .ok (.ifCond .eq 6, 3) := by decide +kernel
theorem dX10_recover_10 : decode cX10_recover 10 = .ok (.bipush (-9), 2) := by decide +kernel
theorem dX10_recover_12 : decode cX10_recover 12 = .ok (.ireturn, 1) := by decide +kernel
theorem dX10_recover_13 : decode cX10_recover 13 = .ok (.aload_n 0, 1) := by decide +kernel
theorem dX10_recover_14 : decode cX10_recover 14 = .ok (.getfield 37, 3) := by decide +kernel
theorem dX10_recover_17 : decode cX10_recover 17 = .ok (.invokevirtual 365, 3) := by decide +kernel
theorem dX10_recover_20 : decode cX10_recover 20 = .ok (.istore_n 1, 1) := by decide +kernel
theorem dX10_recover_21 : decode cX10_recover 21 = .ok (.aload_n 0, 1) := by decide +kernel
theorem dX10_recover_22 : decode cX10_recover 22 = .ok (.getfield 46, 3) := by decide +kernel
theorem dX10_recover_25 : decode cX10_recover 25 = .ok (.invokevirtual 368, 3) := by decide +kernel
theorem dX10_recover_28 : decode cX10_recover 28 = .ok (.aload_n 0, 1) := by decide +kernel
theorem dX10_recover_29 : decode cX10_recover 29 = .ok (.getfield 76, 3) := by decide +kernel
theorem dX10_recover_32 : decode cX10_recover 32 = .ok (.iconst (-1), 1) := by decide +kernel
theorem dX10_recover_33 : decode cX10_recover 33 = .ok (.invokestatic 102, 3) := by decide +kernel
theorem dX10_recover_36 : decode cX10_recover 36 = .ok (.aload_n 0, 1) := by decide +kernel
theorem dX10_recover_37 : decode cX10_recover 37 = .ok (.getfield 28, 3) := by decide +kernel
theorem dX10_recover_40 : decode cX10_recover 40 = .ok (.invokevirtual 371, 3) := by decide +kernel
theorem dX10_recover_43 : decode cX10_recover 43 = .ok (.iload_n 1, 1) := by decide +kernel
theorem dX10_recover_44 : decode cX10_recover 44 = .ok (.ireturn, 1) := by decide +kernel
set_option maxRecDepth 100000 in
set_option maxHeartbeats 1000000 in
theorem c_X10_recover {l : Launch} {D : va_G} {aC : Nat → ClassId} {b0 fu : Nat} {a0 : Nat} {σ τ : tM} {v : (Int32) ⊕ Unit} (hm : m_X10_recover b0 fu a0 σ = some (v, τ)) : tMt l D aC b0 yX10_recover (Cond.code yX10_recover cX10_recover 2 (some .int)) 9 168 [.ref (a0)] σ (rxI "java/lang/IllegalStateException" v) τ := by
  unfold m_X10_recover at hm
  obtain ⟨hg, hm⟩ := grw_e hm
  refine tMt_of (n := 0) rfl (Nat.le_of_ble_eq_true rfl) hg ?_
  intro p e s m below meth c C htab hin
  refine zx_lv [0] [(0, .ref (a0))] rfl ?_
  refine zx_aload_n C dX10_recover_0 0 rfl ?_
  obtain ⟨k1, i2, hm⟩ := ckO_e hm
  obtain ⟨a3, h4, hm⟩ := osm_e hm
  refine zx_get (j := 0) C tC_10 k1 i2 ⟨by decide, Or.inl W_2_213⟩ dX10_recover_1 (.ref a3) (rf_s h4) ?_
  obtain ⟨k5, i6, hm⟩ := ckO_e hm
  refine zx_get (j := 14) C tC_0 k5 i6 ⟨by decide, Or.inr ⟨_, W_1_53⟩⟩ dX10_recover_4 (.int (tI (σ) (a3) 14)) rfl ?_
  refine zx_if_eq C 13 dX10_recover_7 (by decide) (fun c7 => ?_) (fun c7 => ?_)
  · replace hm := ip_e hm c7
    refine zx_aload_n C dX10_recover_13 0 rfl ?_
    obtain ⟨a8, h9, hm⟩ := osm_e hm
    refine zx_get (j := 3) C tC_10 k1 i2 ⟨by decide, Or.inl W_2_216⟩ dX10_recover_14 (.ref a8) (rf_s h9) ?_
    obtain ⟨k10, i11, hm⟩ := ckO_e hm
    rcases clx_e hm with ⟨v12, ρ13, h14, hm⟩ | ⟨ρ13, h14, hm⟩
    · refine zx_callV (σ := σ) C [] tC_1 k10 i11 Y_X1_replay W_6_117 W_6_118 W_6_119 (c_X1_replay h14) (by decide) (by decide) rfl (Nat.le_of_ble_eq_true rfl) dX10_recover_17 rfl ?_
      refine zx_istore_n C [(1, .int (v12)), (0, .ref (a0))] dX10_recover_20 rfl (by decide) rfl ?_
      refine zx_aload_n C dX10_recover_21 1 rfl ?_
      obtain ⟨k15, i16, hm⟩ := ckO_e hm
      obtain ⟨a17, h18, hm⟩ := osm_e hm
      refine zx_get (j := 4) C tC_10 k15 i16 ⟨by decide, Or.inl W_2_217⟩ dX10_recover_22 (.ref a17) (rf_s h18) ?_
      obtain ⟨k19, i20, hm⟩ := ckO_e hm
      obtain ⟨v21, ρ22, h23, hm⟩ := cll_e hm
      refine zx_callV (σ := ρ13) C [] tC_2 k19 i20 Y_X2_loadAll W_6_146 W_6_147 W_6_148 (c_X2_loadAll h23) (by decide) (by decide) rfl (Nat.le_of_ble_eq_true rfl) dX10_recover_25 rfl ?_
      refine zx_aload_n C dX10_recover_28 1 rfl ?_
      obtain ⟨k24, i25, hm⟩ := ckO_e hm
      obtain ⟨a26, h27, hm⟩ := osm_e hm
      refine zx_get (j := 9) C tC_10 k24 i25 ⟨by decide, Or.inl W_2_222⟩ dX10_recover_29 (.ref a26) (rf_s h27) ?_
      refine zx_iconst (v := (-1)) C dX10_recover_32 (by decide) ?_
      obtain ⟨v28, ρ29, h30, hm⟩ := cll_e hm
      refine zx_callS (σ := ρ22) C [.ref (a26), .int ((-1))] Y_J7_fill_53178 W_2_210 W_2_211 (c_J7_fill_53178 h30) (by decide) (by decide) rfl (Nat.le_of_ble_eq_true rfl) dX10_recover_33 rfl ?_
      refine zx_aload_n C dX10_recover_36 1 rfl ?_
      obtain ⟨k31, i32, hm⟩ := ckO_e hm
      obtain ⟨a33, h34, hm⟩ := osm_e hm
      refine zx_get (j := 2) C tC_10 k31 i32 ⟨by decide, Or.inl W_2_215⟩ dX10_recover_37 (.ref a33) (rf_s h34) ?_
      obtain ⟨k35, i36, hm⟩ := ckO_e hm
      obtain ⟨v37, ρ38, h39, hm⟩ := cll_e hm
      refine zx_callV (σ := ρ29) C [] tC_8 k35 i36 Y_X8_discardNameless W_6_185 W_6_186 W_6_187 (c_X8_discardNameless h39) (by decide) (by decide) rfl (Nat.le_of_ble_eq_true rfl) dX10_recover_40 rfl ?_
      refine zx_iload_n C dX10_recover_43 0 rfl ?_
      obtain ⟨rfl, rfl⟩ := ret_e hm
      exact zx_iret C rfl rfl rfl dX10_recover_44
    · cases hm
      exact zx_outV (σ := σ) C htab [] tC_1 k10 i11 Y_X1_replay W_6_117 W_6_118 W_6_119 (c_X1_replay h14) rfl (by decide) (by decide) rfl (Nat.le_of_ble_eq_true rfl) dX10_recover_17 rfl
  · replace hm := in_e hm c7
    refine zx_bipush (v := (-9)) C dX10_recover_10 (by decide) ?_
    obtain ⟨rfl, rfl⟩ := ret_e hm
    exact zx_iret C rfl rfl rfl dX10_recover_12
