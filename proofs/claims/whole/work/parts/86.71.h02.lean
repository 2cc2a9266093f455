abbrev cX12_rmdir : ByteArray := prog_13_method_80_code
def yX12_rmdir : MethodName := ⟨"SyncTreeModel", "rmdir", "()I"⟩
theorem Y_X12_rmdir : tYH yX12_rmdir cX12_rmdir 4 (some .int) [(5, 20, 101, 425), (21, 32, 101, 425), (33, 53, 101, 425), (54, 73, 101, 425), (74, 85, 101, 425), (86, 100, 101, 425)] 0 := ⟨W_8_200, W_1_14, ⟨by decide +kernel, by decide +kernel⟩, by decide +kernel⟩
theorem dX12_rmdir_0 : decode cX12_rmdir 0 = .ok (.aload_n 0, 1) := by decide +kernel
theorem dX12_rmdir_1 : decode cX12_rmdir 1 = .ok (.iconst 0, 1) := by decide +kernel
theorem dX12_rmdir_2 : decode cX12_rmdir 2 = .ok (.putfield 3, 3) := by decide +kernel
theorem dX12_rmdir_5 : decode cX12_rmdir 5 = .ok (.aload_n 0, 1) := by decide +kernel
theorem dX12_rmdir_6 : decode cX12_rmdir 6 = .ok (.invokevirtual 419, 3) := by decide +kernel
theorem dX12_rmdir_9 : decode cX12_rmdir 9 = .ok (.aload_n 0, 1) := by decide +kernel
theorem dX12_rmdir_10 : decode cX12_rmdir 10 = .ok (.iconst 0, 1) := by decide +kernel
theorem dX12_rmdir_11 : decode cX12_rmdir 11 = .ok (.invokevirtual 409, 3) := by decide +kernel
theorem dX12_rmdir_14 : decode cX12_rmdir 14 = .ok (.istore_n 1, 1) := by decide +kernel
theorem dX12_rmdir_15 : decode cX12_rmdir 15 = .ok (.iload_n 1, 1) := by decide +kernel
theorem dX12_rmdir_16 : decode cX12_rmdir 16 = .ok (.ifCond .ge 5, 3) := by decide +kernel
theorem dX12_rmdir_19 : decode cX12_rmdir 19 = .ok (.iload_n 1, 1) := by decide +kernel
theorem dX12_rmdir_20 : decode cX12_rmdir 20 = .ok (.ireturn, 1) := by decide +kernel
theorem dX12_rmdir_21 : decode cX12_rmdir 21 = .ok (.aload_n 0, 1) := by decide +kernel
theorem dX12_rmdir_22 : decode cX12_rmdir 22 = .ok (.getfield 355, 3) := by decide +kernel
theorem dX12_rmdir_25 : decode cX12_rmdir 25 = .ok (.bipush 28, 2) := by decide +kernel
theorem dX12_rmdir_27 : decode cX12_rmdir 27 = .ok (.if_icmp .le 6, 3) := by decide +kernel
theorem dX12_rmdir_30 : decode cX12_rmdir 30 = .ok (.bipush (-7), 2) := by decide +kernel
theorem dX12_rmdir_32 : decode cX12_rmdir 32 = .ok (.ireturn, 1) := by decide +kernel
theorem dX12_rmdir_33 : decode cX12_rmdir 33 = .ok (.aload_n 0, 1) := by decide +kernel
theorem dX12_rmdir_34 : decode cX12_rmdir 34 = .ok (.iload_n 1, 1) := by decide +kernel
theorem dX12_rmdir_35 : decode cX12_rmdir 35 = .ok (.aload_n 0, 1) := by decide +kernel
theorem dX12_rmdir_36 : decode cX12_rmdir 36 = .ok (.getfield 358, 3) := by decide +kernel
theorem dX12_rmdir_39 : decode cX12_rmdir 39 = .ok (.iconst 0, 1) := by decide +kernel
theorem dX12_rmdir_40 : decode cX12_rmdir 40 = .ok (.aload_n 0, 1) := by decide +kernel
theorem dX12_rmdir_41 : decode cX12_rmdir 41 = .ok (.getfield 355, 3) := by decide +kernel
theorem dX12_rmdir_44 : decode cX12_rmdir 44 = .ok (.invokevirtual 339, 3) := by decide +kernel
theorem dX12_rmdir_47 : decode cX12_rmdir 47 = .ok (.istore_n 2, 1) := by decide +kernel
theorem dX12_rmdir_48 : decode cX12_rmdir 48 = .ok (.iload_n 2, 1) := by decide +kernel
theorem dX12_rmdir_49 : decode cX12_rmdir 49 = .ok (.ifCond .ge 5, 3) := by decide +kernel
theorem dX12_rmdir_52 : decode cX12_rmdir 52 = .ok (.iconst (-1), 1) := by decide +kernel
theorem dX12_rmdir_53 : decode cX12_rmdir 53 = .ok (.ireturn, 1) := by decide +kernel
theorem dX12_rmdir_54 : decode cX12_rmdir 54 = .ok (.aload_n 0, 1) := by decide +kernel
theorem dX12_rmdir_55 : decode cX12_rmdir 55 = .ok (.iload_n 1, 1) := by decide +kernel
theorem dX12_rmdir_56 : decode cX12_rmdir 56 = .ok (.iload_n 2, 1) := by decide +kernel
theorem dX12_rmdir_57 : decode cX12_rmdir 57 = .ok (.invokevirtual 302, 3) := by decide +kernel
theorem dX12_rmdir_60 : decode cX12_rmdir 60 = .ok (.istore_n 3, 1) := by decide +kernel
theorem dX12_rmdir_61 : decode cX12_rmdir 61 = .ok (.aload_n 0, 1) := by decide +kernel
theorem dX12_rmdir_62 : decode cX12_rmdir 62 = .ok (.iload_n 3, 1) := by decide +kernel
theorem dX12_rmdir_63 : decode cX12_rmdir 63 = .ok (.iconst 0, 1) := by decide +kernel
theorem dX12_rmdir_64 : decode cX12_rmdir 64 = .ok (.invokevirtual 247, 3) := by decide +kernel
theorem dX12_rmdir_67 : decode cX12_rmdir 67 = .ok (.iconst 2, 1) := by decide +kernel
theorem dX12_rmdir_68 : decode cX12_rmdir 68 = .ok (.if_icmp .eq 6, 3) := by decide +kernel
theorem dX12_rmdir_71 : decode cX12_rmdir 71 = .ok (.bipush (-3), 2) := by decide +kernel
theorem dX12_rmdir_73 : decode cX12_rmdir 73 = .ok (.ireturn, 1) := by decide +kernel
theorem dX12_rmdir_74 : decode cX12_rmdir 74 = .ok (.aload_n 0, 1) := by decide +kernel
theorem dX12_rmdir_75 : decode cX12_rmdir 75 = .ok (.iload_n 3, 1) := by decide +kernel
theorem dX12_rmdir_76 : decode cX12_rmdir 76 = .ok (.iconst 1, 1) := by decide +kernel
theorem dX12_rmdir_77 : decode cX12_rmdir 77 = .ok (.invokevirtual 247, 3) := by decide +kernel
theorem dX12_rmdir_80 : decode cX12_rmdir 80 = .ok (.ifCond .le 6, 3) := by decide +kernel
theorem dX12_rmdir_83 : decode cX12_rmdir 83 = .ok (.bipush (-5), 2) := by decide +kernel
theorem dX12_rmdir_85 : decode cX12_rmdir 85 = .ok (.ireturn, 1) := by decide +kernel
theorem dX12_rmdir_86 : decode cX12_rmdir 86 = .ok (.aload_n 0, 1) := by decide +kernel
theorem dX12_rmdir_87 : decode cX12_rmdir 87 = .ok (.iload_n 1, 1) := by decide +kernel
theorem dX12_rmdir_88 : decode cX12_rmdir 88 = .ok (.iload_n 2, 1) := by decide +kernel
theorem dX12_rmdir_89 : decode cX12_rmdir 89 = .ok (.invokevirtual 434, 3) := by decide +kernel
theorem dX12_rmdir_92 : decode cX12_rmdir 92 = .ok (.aload_n 0, 1) := by decide +kernel
theorem dX12_rmdir_93 : decode cX12_rmdir 93 = .ok (.iload_n 3, 1) := by decide +kernel
theorem dX12_rmdir_94 : decode cX12_rmdir 94 = .ok (.iconst 0, 1) := by decide +kernel
theorem dX12_rmdir_95 : decode cX12_rmdir 95 = .ok (.iconst 0, 1) := by decide +kernel
theorem dX12_rmdir_96 : decode cX12_rmdir 96 = .ok (.invokevirtual 266, 3) := by decide +kernel
theorem dX12_rmdir_99 : decode cX12_rmdir 99 = .ok (.iload_n 3, 1) := by decide +kernel
theorem dX12_rmdir_100 : decode cX12_rmdir 100 = .ok (.ireturn, 1) := by decide +kernel
theorem dX12_rmdir_101 : decode cX12_rmdir 101 = .ok (.astore_n 1, 1) := by decide +kernel
theorem dX12_rmdir_102 : decode cX12_rmdir 102 = .ok (.aload_n 0, 1) := by decide +kernel
theorem dX12_rmdir_103 : decode cX12_rmdir 103 = .ok (.invokevirtual 427, 3) := by decide +kernel
theorem dX12_rmdir_106 : decode cX12_rmdir 106 = .ok (.ireturn, 1) := by decide +kernel
set_option maxRecDepth 100000 in
set_option maxHeartbeats 1000000 in
theorem c_X12_rmdir {l : Launch} {D : va_G} {aC : Nat → ClassId} {b0 fu : Nat} {a0 : Nat} {σ τ : tM} {v : Int32} (hm : m_X12_rmdir b0 fu a0 σ = some (v, τ)) : tMt l D aC b0 yX12_rmdir (Cond.codeWith yX12_rmdir cX12_rmdir 4 (some .int) [(5, 20, 101, 425), (21, 32, 101, 425), (33, 53, 101, 425), (54, 73, 101, 425), (74, 85, 101, 425), (86, 100, 101, 425)]) 9 219 [.ref (a0)] σ (.inl (some (.int v))) τ := by
  unfold m_X12_rmdir at hm
  obtain ⟨hg, hm⟩ := grw_e hm
  refine tMt_ofH rfl (Nat.le_of_ble_eq_true rfl) hg ?_
  intro p e s m below meth c C htab hin
  refine zx_lv [0] [(0, .ref (a0))] rfl ?_
  refine zx_aload_n C dX12_rmdir_0 0 rfl ?_
  refine zx_iconst (v := 0) C dX12_rmdir_1 (by decide) ?_
  obtain ⟨k1, i2, hm⟩ := ckO_e hm
  refine zx_put (j := 0) (ρ := sI (σ) (a0) 0 (0)) C tC_11 k1 i2 ⟨by decide, Or.inl W_6_220⟩ rfl rfl rfl (sI_ok (fun _ => rfl)) dX12_rmdir_2 ?_
  refine zx_aload_n C dX12_rmdir_5 0 rfl ?_
  rcases cly_e hm with ⟨v3, ρ4, h5, hm⟩ | ⟨ρ49, h5, hm⟩
  · refine zx_callV (σ := sI (σ) (a0) 0 (0)) C [] tC_11 k1 i2 Y_X12_upAhead W_7_175 W_7_177 Wp_56 (c_X12_upAhead h5) (by decide) (by decide) rfl (Nat.le_of_ble_eq_true rfl) dX12_rmdir_6 rfl ?_
    refine zx_aload_n C dX12_rmdir_9 0 rfl ?_
    refine zx_iconst (v := 0) C dX12_rmdir_10 (by decide) ?_
    obtain ⟨k6, i7, hm⟩ := ckO_e hm
    obtain ⟨v8, ρ9, h10, hm⟩ := cll_e hm
    refine zx_callV (σ := ρ4) C [.int (0)] tC_11 k6 i7 Y_X12_walkAhead W_8_24 W_8_26 Wp_76 (c_X12_walkAhead h10) (by decide) (by decide) rfl (Nat.le_of_ble_eq_true rfl) dX12_rmdir_11 rfl ?_
    refine zx_istore_n C [(1, .int (v8)), (0, .ref (a0))] dX12_rmdir_14 rfl (by decide) rfl ?_
    refine zx_iload_n C dX12_rmdir_15 0 rfl ?_
    refine zx_if_ge C 21 dX12_rmdir_16 (by decide) (fun c11 => ?_) (fun c11 => ?_)
    · replace hm := ip_e hm c11
      refine zx_aload_n C dX12_rmdir_21 1 rfl ?_
      obtain ⟨k12, i13, hm⟩ := ckO_e hm
      refine zx_get (j := 53) C tC_11 k12 i13 ⟨by decide, Or.inl W_7_32⟩ dX12_rmdir_22 (.int (tI (ρ9) (a0) 53)) rfl ?_
      refine zx_bipush (v := 28) C dX12_rmdir_25 (by decide) ?_
      refine zx_icmp_le C 33 dX12_rmdir_27 (by decide) (fun c14 => ?_) (fun c14 => ?_)
      · replace hm := ip_e hm c14
        refine zx_aload_n C dX12_rmdir_33 1 rfl ?_
        refine zx_iload_n C dX12_rmdir_34 0 rfl ?_
        refine zx_aload_n C dX12_rmdir_35 1 rfl ?_
        obtain ⟨a15, h16, hm⟩ := osm_e hm
        refine zx_get (j := 52) C tC_11 k12 i13 ⟨by decide, Or.inl W_7_31⟩ dX12_rmdir_36 (.ref a15) (rf_s h16) ?_
        refine zx_iconst (v := 0) C dX12_rmdir_39 (by decide) ?_
        refine zx_aload_n C dX12_rmdir_40 1 rfl ?_
        refine zx_get (j := 53) C tC_11 k12 i13 ⟨by decide, Or.inl W_7_32⟩ dX12_rmdir_41 (.int (tI (ρ9) (a0) 53)) rfl ?_
        obtain ⟨v17, ρ18, h19, hm⟩ := cll_e hm
        refine zx_callV (σ := ρ9) C [.int (v8), .ref (a15), .int (0), .int (tI (ρ9) (a0) 53)] tC_11 k12 i13 Y_X12_find W_8_44 W_8_46 Wp_81 (c_X12_find h19) (by decide) (by decide) rfl (Nat.le_of_ble_eq_true rfl) dX12_rmdir_44 rfl ?_
        refine zx_istore_n C [(2, .int (v17)), (1, .int (v8)), (0, .ref (a0))] dX12_rmdir_47 rfl (by decide) rfl ?_
        refine zx_iload_n C dX12_rmdir_48 0 rfl ?_
        refine zx_if_ge C 54 dX12_rmdir_49 (by decide) (fun c20 => ?_) (fun c20 => ?_)
        · replace hm := ip_e hm c20
          refine zx_aload_n C dX12_rmdir_54 2 rfl ?_
          refine zx_iload_n C dX12_rmdir_55 1 rfl ?_
          refine zx_iload_n C dX12_rmdir_56 0 rfl ?_
          obtain ⟨k21, i22, hm⟩ := ckO_e hm
          obtain ⟨v23, ρ24, h25, hm⟩ := cll_e hm
          refine zx_callV (σ := ρ18) C [.int (v8), .int (v17)] tC_11 k21 i22 Y_X12_entryNode W_8_52 W_8_54 Wp_83 (c_X12_entryNode h25) (by decide) (by decide) rfl (Nat.le_of_ble_eq_true rfl) dX12_rmdir_57 rfl ?_
          refine zx_istore_n C [(3, .int (v23)), (2, .int (v17)), (1, .int (v8)), (0, .ref (a0))] dX12_rmdir_60 rfl (by decide) rfl ?_
          refine zx_aload_n C dX12_rmdir_61 3 rfl ?_
          refine zx_iload_n C dX12_rmdir_62 0 rfl ?_
          refine zx_iconst (v := 0) C dX12_rmdir_63 (by decide) ?_
          obtain ⟨k26, i27, hm⟩ := ckO_e hm
          obtain ⟨v28, ρ29, h30, hm⟩ := cll_e hm
          refine zx_callV (σ := ρ24) C [.int (v23), .int (0)] tC_11 k26 i27 Y_X12_node W_8_40 W_8_42 Wp_80 (c_X12_node h30) (by decide) (by decide) rfl (Nat.le_of_ble_eq_true rfl) dX12_rmdir_64 rfl ?_
          refine zx_iconst (v := 2) C dX12_rmdir_67 (by decide) ?_
          refine zx_icmp_eq C 74 dX12_rmdir_68 (by decide) (fun c31 => ?_) (fun c31 => ?_)
          · replace hm := ip_e hm c31
            refine zx_aload_n C dX12_rmdir_74 3 rfl ?_
            refine zx_iload_n C dX12_rmdir_75 0 rfl ?_
            refine zx_iconst (v := 1) C dX12_rmdir_76 (by decide) ?_
            obtain ⟨k32, i33, hm⟩ := ckO_e hm
            obtain ⟨v34, ρ35, h36, hm⟩ := cll_e hm
            refine zx_callV (σ := ρ29) C [.int (v23), .int (1)] tC_11 k32 i33 Y_X12_node W_8_40 W_8_42 Wp_80 (c_X12_node h36) (by decide) (by decide) rfl (Nat.le_of_ble_eq_true rfl) dX12_rmdir_77 rfl ?_
            refine zx_if_le C 86 dX12_rmdir_80 (by decide) (fun c37 => ?_) (fun c37 => ?_)
            · replace hm := ip_e hm c37
              refine zx_aload_n C dX12_rmdir_86 3 rfl ?_
              refine zx_iload_n C dX12_rmdir_87 2 rfl ?_
              refine zx_iload_n C dX12_rmdir_88 1 rfl ?_
              obtain ⟨k38, i39, hm⟩ := ckO_e hm
              obtain ⟨v40, ρ41, h42, hm⟩ := cll_e hm
              refine zx_callV (σ := ρ35) C [.int (v8), .int (v17)] tC_11 k38 i39 Y_X12_removeEntry W_8_159 W_8_161 Wp_105 (c_X12_removeEntry h42) (by decide) (by decide) rfl (Nat.le_of_ble_eq_true rfl) dX12_rmdir_89 rfl ?_
              refine zx_aload_n C dX12_rmdir_92 3 rfl ?_
              refine zx_iload_n C dX12_rmdir_93 0 rfl ?_
              refine zx_iconst (v := 0) C dX12_rmdir_94 (by decide) ?_
              refine zx_iconst (v := 0) C dX12_rmdir_95 (by decide) ?_
              obtain ⟨k43, i44, hm⟩ := ckO_e hm
              obtain ⟨v45, ρ46, h47, hm⟩ := cll_e hm
              refine zx_callV (σ := ρ41) C [.int (v23), .int (0), .int (0)] tC_11 k43 i44 Y_X12_putNode W_8_99 W_8_101 Wp_94 (c_X12_putNode h47) (by decide) (by decide) rfl (Nat.le_of_ble_eq_true rfl) dX12_rmdir_96 rfl ?_
              refine zx_iload_n C dX12_rmdir_99 0 rfl ?_
              obtain ⟨rfl, rfl⟩ := ret_e hm
              exact zx_iret C rfl rfl rfl dX12_rmdir_100
            · replace hm := in_e hm c37
              refine zx_bipush (v := (-5)) C dX12_rmdir_83 (by decide) ?_
              obtain ⟨rfl, rfl⟩ := ret_e hm
              exact zx_iret C rfl rfl rfl dX12_rmdir_85
          · replace hm := in_e hm c31
            refine zx_bipush (v := (-3)) C dX12_rmdir_71 (by decide) ?_
            obtain ⟨rfl, rfl⟩ := ret_e hm
            exact zx_iret C rfl rfl rfl dX12_rmdir_73
        · replace hm := in_e hm c20
          refine zx_iconst (v := (-1)) C dX12_rmdir_52 (by decide) ?_
          obtain ⟨rfl, rfl⟩ := ret_e hm
          exact zx_iret C rfl rfl rfl dX12_rmdir_53
      · replace hm := in_e hm c14
        refine zx_bipush (v := (-7)) C dX12_rmdir_30 (by decide) ?_
        obtain ⟨rfl, rfl⟩ := ret_e hm
        exact zx_iret C rfl rfl rfl dX12_rmdir_32
    · replace hm := in_e hm c11
      refine zx_iload_n C dX12_rmdir_19 0 rfl ?_
      obtain ⟨rfl, rfl⟩ := ret_e hm
      exact zx_iret C rfl rfl rfl dX12_rmdir_20
  · refine zx_catchV (σ := sI (σ) (a0) 0 (0)) (x9 := { startPc := 5, endPc := 20, handlerPc := 101, catchType := 425 }) C (tableOf []) (tableOf [(21, 32, 101, 425), (33, 53, 101, 425), (54, 73, 101, 425), (74, 85, 101, 425), (86, 100, 101, 425)]) htab (by decide) (by decide) (by decide) (E := "SyncTreeModel$Off") W_7_174 W_9_132 [] tC_11 k1 i2 Y_X12_upAhead W_7_175 W_7_177 Wp_56 (c_X12_upAhead h5) (by decide) (by decide) rfl (Nat.le_of_ble_eq_true rfl) dX12_rmdir_6 rfl (fun q48 => ?_)
    refine zx_astore_n C [(1, .ref (q48)), (0, .ref (a0))] dX12_rmdir_101 rfl (by decide) rfl ?_
    refine zx_aload_n C dX12_rmdir_102 1 rfl ?_
    obtain ⟨k50, i51, hm⟩ := ckO_e hm
    obtain ⟨v52, ρ53, h54, hm⟩ := cll_e hm
    refine zx_callV (σ := ρ49) C [] tC_11 k50 i51 Y_X12_off W_8_135 W_8_137 Wp_103 (c_X12_off h54) (by decide) (by decide) rfl (Nat.le_of_ble_eq_true rfl) dX12_rmdir_103 rfl ?_
    obtain ⟨rfl, rfl⟩ := ret_e hm
    exact zx_iret C rfl rfl rfl dX12_rmdir_106
abbrev cX12_rename : ByteArray := prog_13_method_83_code
def yX12_rename : MethodName := ⟨"SyncTreeModel", "rename", "()I"⟩
theorem Y_X12_rename : tYH yX12_rename cX12_rename 8 (some .int) [(5, 20, 245, 425), (21, 32, 245, 425), (33, 53, 245, 425), (54, 75, 245, 425), (76, 87, 245, 425), (88, 131, 245, 425), (132, 150, 245, 425), (151, 213, 245, 425), (214, 244, 245, 425)] 0 := ⟨W_8_204, W_1_14, ⟨by decide +kernel, by decide +kernel⟩, by decide +kernel⟩
theorem dX12_rename_0 : decode cX12_rename 0 = .ok (.aload_n 0, 1) := by decide +kernel
theorem dX12_rename_1 : decode cX12_rename 1 = .ok (.iconst 0, 1) := by decide +kernel
theorem dX12_rename_2 : decode cX12_rename 2 = .ok (.putfield 3, 3) := by decide +kernel
theorem dX12_rename_5 : decode cX12_rename 5 = .ok (.aload_n 0, 1) := by decide +kernel
theorem dX12_rename_6 : decode cX12_rename 6 = .ok (.invokevirtual 419, 3) := by decide +kernel
theorem dX12_rename_9 : decode cX12_rename 9 = .ok (.aload_n 0, 1) := by decide +kernel
theorem dX12_rename_10 : decode cX12_rename 10 = .ok (.iconst 0, 1) := by decide +kernel
theorem dX12_rename_11 : decode cX12_rename 11 = .ok (.invokevirtual 409, 3) := by decide +kernel
theorem dX12_rename_14 : decode cX12_rename 14 = .ok (.istore_n 1, 1) := by decide +kernel
theorem dX12_rename_15 : decode cX12_rename 15 = .ok (.iload_n 1, 1) := by decide +kernel
theorem dX12_rename_16 : decode cX12_rename 16 = .ok (.ifCond .ge 5, 3) := by decide +kernel
theorem dX12_rename_19 : decode cX12_rename 19 = .ok (.iload_n 1, 1) := by decide +kernel
theorem dX12_rename_20 : decode cX12_rename 20 = .ok (.ireturn, 1) := by decide +kernel
theorem dX12_rename_21 : decode cX12_rename 21 = .ok (.aload_n 0, 1) := by decide +kernel
theorem dX12_rename_22 : decode cX12_rename 22 = .ok (.getfield 355, 3) := by decide +kernel
theorem dX12_rename_25 : decode cX12_rename 25 = .ok (.bipush 28, 2) := by decide +kernel
theorem dX12_rename_27 : decode cX12_rename 27 = .ok (.if_icmp .le 6, 3) := by decide +kernel
theorem dX12_rename_30 : decode cX12_rename 30 = .ok (.bipush (-7), 2) := by decide +kernel
theorem dX12_rename_32 : decode cX12_rename 32 = .ok (.ireturn, 1) := by decide +kernel
theorem dX12_rename_33 : decode cX12_rename 33 = .ok (.aload_n 0, 1) := by decide +kernel
theorem dX12_rename_34 : decode cX12_rename 34 = .ok (.iload_n 1, 1) := by decide +kernel
theorem dX12_rename_35 : decode cX12_rename 35 = .ok (.aload_n 0, 1) := by decide +kernel
theorem dX12_rename_36 : decode cX12_rename 36 = .ok (.getfield 358, 3) := by decide +kernel
theorem dX12_rename_39 : decode cX12_rename 39 = .ok (.iconst 0, 1) := by decide +kernel
theorem dX12_rename_40 : decode cX12_rename 40 = .ok (.aload_n 0, 1) := by decide +kernel
theorem dX12_rename_41 : decode cX12_rename 41 = .ok (.getfield 355, 3) := by decide +kernel
theorem dX12_rename_44 : decode cX12_rename 44 = .ok (.invokevirtual 339, 3) := by decide +kernel
theorem dX12_rename_47 : decode cX12_rename 47 = .ok (.istore_n 2, 1) := by decide +kernel
theorem dX12_rename_48 : decode cX12_rename 48 = .ok (.iload_n 2, 1) := by decide +kernel
theorem dX12_rename_49 : decode cX12_rename 49 = .ok (.ifCond .ge 5, 3) := by decide +kernel
theorem dX12_rename_52 : decode cX12_rename 52 = .ok (.iconst (-1), 1) := by decide +kernel
theorem dX12_rename_53 : decode cX12_rename 53 = .ok (.ireturn, 1) := by decide +kernel
theorem dX12_rename_54 : decode cX12_rename 54 = .ok (.aload_n 0, 1) := by decide +kernel
theorem dX12_rename_55 : decode cX12_rename 55 = .ok (.iload_n 1, 1) := by decide +kernel
theorem dX12_rename_56 : decode cX12_rename 56 = .ok (.iload_n 2, 1) := by decide +kernel
theorem dX12_rename_57 : decode cX12_rename 57 = .ok (.invokevirtual 302, 3) := by decide +kernel
theorem dX12_rename_60 : decode cX12_rename 60 = .ok (.istore_n 3, 1) := by decide +kernel
theorem dX12_rename_61 : decode cX12_rename 61 = .ok (.aload_n 0, 1) := by decide +kernel
theorem dX12_rename_62 : decode cX12_rename 62 = .ok (.iconst 1, 1) := by decide +kernel
theorem dX12_rename_63 : decode cX12_rename 63 = .ok (.invokevirtual 409, 3) := by decide +kernel
theorem dX12_rename_66 : decode cX12_rename 66 = .ok (.istore 4, 2) := by decide +kernel
theorem dX12_rename_68 : decode cX12_rename 68 = .ok (.iload 4, 2) := by decide +kernel
theorem dX12_rename_70 : decode cX12_rename 70 = .ok (.ifCond .ge 6, 3) := by decide +kernel
theorem dX12_rename_73 : decode cX12_rename 73 = .ok (.iload 4, 2) := by decide +kernel
theorem dX12_rename_75 : decode cX12_rename 75 = .ok (.ireturn, 1) := by decide +kernel
theorem dX12_rename_76 : decode cX12_rename 76 = .ok (.aload_n 0, 1) := by decide +kernel
theorem dX12_rename_77 : decode cX12_rename 77 = .ok (.getfield 355, 3) := by decide +kernel
theorem dX12_rename_80 : decode cX12_rename 80 = .ok (.bipush 28, 2) := by decide +kernel
theorem dX12_rename_82 : decode cX12_rename 82 = .ok (.if_icmp .le 6, 3) := by decide +kernel
theorem dX12_rename_85 : decode cX12_rename 85 = .ok (.bipush (-7), 2) := by decide +kernel
theorem dX12_rename_87 : decode cX12_rename 87 = .ok (.ireturn, 1) := by decide +kernel
theorem dX12_rename_88 : decode cX12_rename 88 = .ok (.aload_n 0, 1) := by decide +kernel
theorem dX12_rename_89 : decode cX12_rename 89 = .ok (.iload 4, 2) := by decide +kernel
theorem dX12_rename_91 : decode cX12_rename 91 = .ok (.aload_n 0, 1) := by decide +kernel
theorem dX12_rename_92 : decode cX12_rename 92 = .ok (.getfield 358, 3) := by decide +kernel
theorem dX12_rename_95 : decode cX12_rename 95 = .ok (.iconst 0, 1) := by decide +kernel
theorem dX12_rename_96 : decode cX12_rename 96 = .ok (.aload_n 0, 1) := by decide +kernel
theorem dX12_rename_97 : decode cX12_rename 97 = .ok (.getfield 355, 3) := by decide +kernel
theorem dX12_rename_100 : decode cX12_rename 100 = .ok (.invokevirtual 339, 3) := by decide +kernel
theorem dX12_rename_103 : decode cX12_rename 103 = .ok (.istore 5, 2) := by decide +kernel
theorem dX12_rename_105 : decode cX12_rename 105 = .ok (.iload 5, 2) := by decide +kernel
theorem dX12_rename_107 : decode cX12_rename 107 = .ok (.ifCond .ge 7, 3) := by decide +kernel
theorem dX12_rename_110 : decode cX12_rename 110 = .ok (.iconst (-1), 1) := by decide +kernel
theorem dX12_rename_111 : decode cX12_rename 111 = .ok (.goto 11, 3) := by decide +kernel
theorem dX12_rename_114 : decode cX12_rename 114 = .ok (.aload_n 0, 1) := by decide +kernel
theorem dX12_rename_115 : decode cX12_rename 115 = .ok (.iload 4, 2) := by decide +kernel
theorem dX12_rename_117 : decode cX12_rename 117 = .ok (.iload 5, 2) := by decide +kernel
theorem dX12_rename_119 : decode cX12_rename 119 = .ok (.invokevirtual 302, 3) := by decide +kernel
theorem dX12_rename_122 : decode cX12_rename 122 = .ok (.istore 6, 2) := by decide +kernel
theorem dX12_rename_124 : decode cX12_rename 124 = .ok (.iload 6, 2) := by decide +kernel
theorem dX12_rename_126 : decode cX12_rename 126 = .ok (.iload_n 3, 1) := by decide +kernel
theorem dX12_rename_127 : decode cX12_rename 127 = .ok (.if_icmp .ne 5, 3) := by decide +kernel
theorem dX12_rename_130 : decode cX12_rename 130 = .ok (.iload_n 3, 1) := by decide +kernel
theorem dX12_rename_131 : decode cX12_rename 131 = .ok (.ireturn, 1) := by decide +kernel
theorem dX12_rename_132 : decode cX12_rename 132 = .ok (.aload_n 0, 1) := by decide +kernel
theorem dX12_rename_133 : decode cX12_rename 133 = .ok (.iload_n 3, 1) := by decide +kernel
theorem dX12_rename_134 : decode cX12_rename 134 = .ok (.iload 4, 2) := by decide +kernel
theorem dX12_rename_136 : decode cX12_rename 136 = .ok (.iload 6, 2) := by decide +kernel
theorem dX12_rename_138 : decode cX12_rename 138 = .ok (.invokevirtual 443, 3) := by decide +kernel
theorem dX12_rename_141 : decode cX12_rename 141 = .ok (.istore 7, 2) := by decide +kernel
theorem dX12_rename_143 : decode cX12_rename 143 = .ok (.iload 7, 2) := by decide +kernel
theorem dX12_rename_145 : decode cX12_rename 145 = .ok (.ifCond .ge 6, 3) := by decide +kernel
theorem dX12_rename_148 : decode cX12_rename 148 = .ok (.iload 7, 2) := by decide +kernel
theorem dX12_rename_150 : decode cX12_rename 150 = .ok (.ireturn, 1) := by decide +kernel
theorem dX12_rename_151 : decode cX12_rename 151 = .ok (.iload 6, 2) := by decide +kernel
theorem dX12_rename_153 : decode cX12_rename 153 = .ok (.ifCond .lt 15, 3) := by decide +kernel
theorem dX12_rename_156 : decode cX12_rename 156 = .ok (.aload_n 0, 1) := by decide +kernel
theorem dX12_rename_157 : decode cX12_rename 157 = .ok (.iload 4, 2) := by decide +kernel
theorem dX12_rename_159 : decode cX12_rename 159 = .ok (.iload 5, 2) := by decide +kernel
theorem dX12_rename_161 : decode cX12_rename 161 = .ok (.iload_n 3, 1) := by decide +kernel
theorem dX12_rename_162 : decode cX12_rename 162 = .ok (.invokevirtual 317, 3) := by decide +kernel
theorem dX12_rename_165 : decode cX12_rename 165 = .ok (.goto 18, 3) := by decide +kernel
theorem dX12_rename_168 : decode cX12_rename 168 = .ok (.aload_n 0, 1) := by decide +kernel
theorem dX12_rename_169 : decode cX12_rename 169 = .ok (.iload 4, 2) := by decide +kernel
theorem dX12_rename_171 : decode cX12_rename 171 = .ok (.aload_n 0, 1) := by decide +kernel
theorem dX12_rename_172 : decode cX12_rename 172 = .ok (.getfield 358, 3) := by decide +kernel
theorem dX12_rename_175 : decode cX12_rename 175 = .ok (.aload_n 0, 1) := by decide +kernel
theorem dX12_rename_176 : decode cX12_rename 176 = .ok (.getfield 355, 3) := by decide +kernel
theorem dX12_rename_179 : decode cX12_rename 179 = .ok (.iload_n 3, 1) := by decide +kernel
theorem dX12_rename_180 : decode cX12_rename 180 = .ok (.invokevirtual 415, 3) := by decide +kernel
theorem dX12_rename_183 : decode cX12_rename 183 = .ok (.aload_n 0, 1) := by decide +kernel
theorem dX12_rename_184 : decode cX12_rename 184 = .ok (.iload_n 3, 1) := by decide +kernel
theorem dX12_rename_185 : decode cX12_rename 185 = .ok (.iconst 0, 1) := by decide +kernel
theorem dX12_rename_186 : decode cX12_rename 186 = .ok (.invokevirtual 247, 3) := by decide +kernel
theorem dX12_rename_189 : decode cX12_rename 189 = .ok (.iconst 2, 1) := by decide +kernel
theorem dX12_rename_190 : decode cX12_rename 190 = .ok (.if_icmp .ne 11, 3) := by decide +kernel
theorem dX12_rename_193 : decode cX12_rename 193 = .ok (.aload_n 0, 1) := by decide +kernel
theorem dX12_rename_194 : decode cX12_rename 194 = .ok (.iload_n 3, 1) := by decide +kernel
theorem dX12_rename_195 : decode cX12_rename 195 = .ok (.iconst 3, 1) := by decide +kernel
theorem dX12_rename_196 : decode cX12_rename 196 = .ok (.iload 4, 2) := by decide +kernel
theorem dX12_rename_198 : decode cX12_rename 198 = .ok (.invokevirtual 266, 3) := by decide +kernel
theorem dX12_rename_201 : decode cX12_rename 201 = .ok (.aload_n 0, 1) := by decide +kernel
theorem dX12_rename_202 : decode cX12_rename 202 = .ok (.iload_n 1, 1) := by decide +kernel
theorem dX12_rename_203 : decode cX12_rename 203 = .ok (.iload_n 2, 1) := by decide +kernel
theorem dX12_rename_204 : decode cX12_rename 204 = .ok (.invokevirtual 434, 3) := by decide +kernel
theorem dX12_rename_207 : decode cX12_rename 207 = .ok (.iload 6, 2) := by decide +kernel
theorem dX12_rename_209 : decode cX12_rename 209 = .ok (.ifCond .ge 5, 3) := by decide +kernel
theorem dX12_rename_212 : decode cX12_rename 212 = .ok (.iload_n 3, 1) := by decide +kernel
theorem dX12_rename_213 : decode cX12_rename 213 = .ok (.ireturn, 1) := by decide +kernel
theorem dX12_rename_214 : decode cX12_rename 214 = .ok (.aload_n 0, 1) := by decide +kernel
theorem dX12_rename_215 : decode cX12_rename 215 = .ok (.iload 6, 2) := by decide +kernel
theorem dX12_rename_217 : decode cX12_rename 217 = .ok (.iconst 0, 1) := by decide +kernel
theorem dX12_rename_218 : decode cX12_rename 218 = .ok (.invokevirtual 247, 3) := by decide +kernel
theorem dX12_rename_221 : decode cX12_rename 221 = .ok (.iconst 2, 1) := by decide +kernel
theorem dX12_rename_222 : decode cX12_rename 222 = .ok (.if_icmp .ne 14, 3) := by decide +kernel
theorem dX12_rename_225 : decode cX12_rename 225 = .ok (.aload_n 0, 1) := by decide +kernel
theorem dX12_rename_226 : decode cX12_rename 226 = .ok (.iload 6, 2) := by decide +kernel
theorem dX12_rename_228 : decode cX12_rename 228 = .ok (.iconst 0, 1) := by decide +kernel
theorem dX12_rename_229 : decode cX12_rename 229 = .ok (.iconst 0, 1) := by decide +kernel
theorem dX12_rename_230 : decode cX12_rename 230 = .ok (.invokevirtual 266, 3) := by decide +kernel
theorem dX12_rename_233 : decode cX12_rename 233 = .ok (.goto 10, 3) := by decide +kernel
theorem dX12_rename_236 : decode cX12_rename 236 = .ok (.aload_n 0, 1) := by decide +kernel
theorem dX12_rename_237 : decode cX12_rename 237 = .ok (.iload 6, 2) := by decide +kernel
theorem dX12_rename_239 : decode cX12_rename 239 = .ok (.invokevirtual 437, 3) := by decide +kernel
theorem dX12_rename_242 : decode cX12_rename 242 = .ok (.pop, 1) := by decide +kernel
theorem dX12_rename_243 : decode cX12_rename 243 = .ok (.iload_n 3, 1) := by decide +kernel
theorem dX12_rename_244 : decode cX12_rename 244 = .ok (.ireturn, 1) := by decide +kernel
theorem dX12_rename_245 : decode cX12_rename 245 = .ok (.astore_n 1, 1) := by decide +kernel
theorem dX12_rename_246 : decode cX12_rename 246 = .ok (.aload_n 0, 1) := by decide +kernel
theorem dX12_rename_247 : decode cX12_rename 247 = .ok (.invokevirtual 427, 3) := by decide +kernel
theorem dX12_rename_250 : decode cX12_rename 250 = .ok (.ireturn, 1) := by decide +kernel
set_option maxRecDepth 100000 in
set_option maxHeartbeats 1000000 in
theorem j_X12_rename_243 {p : Program} {l : Launch} {e : Env} {s : State} {m : MethodId} {args : Array Value} {below : List Frame} {meth : Method} {c : Code} {D : va_G} {aC : Nat → ClassId} {b0 fu : Nat} {σ0 τ : tM} {v : Int32}  (C : tCx p l s m args meth c yX12_rename.cls cX12_rename 8 (some .int) D aC b0 σ0) (htab : c.exceptionTable.toList = tableOf [(5, 20, 245, 425), (21, 32, 245, 425), (33, 53, 245, 425), (54, 75, 245, 425), (76, 87, 245, 425), (88, 131, 245, 425), (132, 150, 245, 425), (151, 213, 245, 425), (214, 244, 245, 425)]) (hin : meth.name = yX12_rename.name)  {x3 : Int32} {σ : tM} (hm : J_X12_rename_243 b0 fu  x3 σ = some (v, τ)) : tX p l e s m args below meth c 8 9 219 D aC b0 σ0 (.inl (some (.int v))) τ 243 [(3, .int (x3))] [] σ := by
  unfold J_X12_rename_243 at hm
  refine zx_iload_n C dX12_rename_243 0 rfl ?_
  obtain ⟨rfl, rfl⟩ := ret_e hm
  exact zx_iret C rfl rfl rfl dX12_rename_244
set_option maxRecDepth 100000 in
set_option maxHeartbeats 1000000 in
theorem j_X12_rename_201 {p : Program} {l : Launch} {e : Env} {s : State} {m : MethodId} {args : Array Value} {below : List Frame} {meth : Method} {c : Code} {D : va_G} {aC : Nat → ClassId} {b0 fu : Nat} {σ0 τ : tM} {v : Int32}  (C : tCx p l s m args meth c yX12_rename.cls cX12_rename 8 (some .int) D aC b0 σ0) (htab : c.exceptionTable.toList = tableOf [(5, 20, 245, 425), (21, 32, 245, 425), (33, 53, 245, 425), (54, 75, 245, 425), (76, 87, 245, 425), (88, 131, 245, 425), (132, 150, 245, 425), (151, 213, 245, 425), (214, 244, 245, 425)]) (hin : meth.name = yX12_rename.name)  {x0 : Nat} {x1 : Int32} {x2 : Int32} {x3 : Int32} {x6 : Int32} {σ : tM} (hm : J_X12_rename_201 b0 fu  x0 x1 x2 x3 x6 σ = some (v, τ)) : tX p l e s m args below meth c 8 9 219 D aC b0 σ0 (.inl (some (.int v))) τ 201 [(0, .ref (x0)), (1, .int (x1)), (2, .int (x2)), (3, .int (x3)), (6, .int (x6))] [] σ := by
  unfold J_X12_rename_201 at hm
  refine zx_aload_n C dX12_rename_201 0 rfl ?_
  refine zx_iload_n C dX12_rename_202 1 rfl ?_
  refine zx_iload_n C dX12_rename_203 2 rfl ?_
  obtain ⟨k67, i68, hm⟩ := ckO_e hm
  obtain ⟨v69, ρ70, h71, hm⟩ := cll_e hm
  refine zx_callV (σ := σ) C [.int (x1), .int (x2)] tC_11 k67 i68 Y_X12_removeEntry W_8_159 W_8_161 Wp_105 (c_X12_removeEntry h71) (by decide) (by decide) rfl (Nat.le_of_ble_eq_true rfl) dX12_rename_204 rfl ?_
  refine zx_iload C dX12_rename_207 4 rfl ?_
  refine zx_if_ge C 214 dX12_rename_209 (by decide) (fun c72 => ?_) (fun c72 => ?_)
  · replace hm := ip_e hm c72
    refine zx_aload_n C dX12_rename_214 0 rfl ?_
    refine zx_iload C dX12_rename_215 4 rfl ?_
    refine zx_iconst (v := 0) C dX12_rename_217 (by decide) ?_
    obtain ⟨k73, i74, hm⟩ := ckO_e hm
    obtain ⟨v75, ρ76, h77, hm⟩ := cll_e hm
    refine zx_callV (σ := ρ70) C [.int (x6), .int (0)] tC_11 k73 i74 Y_X12_node W_8_40 W_8_42 Wp_80 (c_X12_node h77) (by decide) (by decide) rfl (Nat.le_of_ble_eq_true rfl) dX12_rename_218 rfl ?_
    refine zx_iconst (v := 2) C dX12_rename_221 (by decide) ?_
    refine zx_icmp_ne C 236 dX12_rename_222 (by decide) (fun c78 => ?_) (fun c78 => ?_)
    · replace hm := in_e hm c78
      refine zx_aload_n C dX12_rename_236 0 rfl ?_
      refine zx_iload C dX12_rename_237 4 rfl ?_
      obtain ⟨k79, i80, hm⟩ := ckO_e hm
      obtain ⟨v81, ρ82, h83, hm⟩ := cll_e hm
      refine zx_callV (σ := ρ76) C [.int (x6)] tC_11 k79 i80 Y_X12_lose W_8_179 W_8_181 Wp_110 (c_X12_lose h83) (by decide) (by decide) rfl (Nat.le_of_ble_eq_true rfl) dX12_rename_239 rfl ?_
      refine zx_pop C dX12_rename_242 rfl ?_
      exact zx_lv [3] [(3, .int (x3))] rfl (j_X12_rename_243 C htab hin    hm)
    · replace hm := ip_e hm c78
      refine zx_aload_n C dX12_rename_225 0 rfl ?_
      refine zx_iload C dX12_rename_226 4 rfl ?_
      refine zx_iconst (v := 0) C dX12_rename_228 (by decide) ?_
      refine zx_iconst (v := 0) C dX12_rename_229 (by decide) ?_
      obtain ⟨k84, i85, hm⟩ := ckO_e hm
      obtain ⟨v86, ρ87, h88, hm⟩ := cll_e hm
      refine zx_callV (σ := ρ76) C [.int (x6), .int (0), .int (0)] tC_11 k84 i85 Y_X12_putNode W_8_99 W_8_101 Wp_94 (c_X12_putNode h88) (by decide) (by decide) rfl (Nat.le_of_ble_eq_true rfl) dX12_rename_230 rfl ?_
      refine zx_goto C 243 dX12_rename_233 (by decide) ?_
      exact zx_lv [3] [(3, .int (x3))] rfl (j_X12_rename_243 C htab hin    hm)
  · replace hm := in_e hm c72
    refine zx_iload_n C dX12_rename_212 3 rfl ?_
    obtain ⟨rfl, rfl⟩ := ret_e hm
    exact zx_iret C rfl rfl rfl dX12_rename_213
set_option maxRecDepth 100000 in
set_option maxHeartbeats 1000000 in
theorem j_X12_rename_183 {p : Program} {l : Launch} {e : Env} {s : State} {m : MethodId} {args : Array Value} {below : List Frame} {meth : Method} {c : Code} {D : va_G} {aC : Nat → ClassId} {b0 fu : Nat} {σ0 τ : tM} {v : Int32}  (C : tCx p l s m args meth c yX12_rename.cls cX12_rename 8 (some .int) D aC b0 σ0) (htab : c.exceptionTable.toList = tableOf [(5, 20, 245, 425), (21, 32, 245, 425), (33, 53, 245, 425), (54, 75, 245, 425), (76, 87, 245, 425), (88, 131, 245, 425), (132, 150, 245, 425), (151, 213, 245, 425), (214, 244, 245, 425)]) (hin : meth.name = yX12_rename.name)  {x0 : Nat} {x1 : Int32} {x2 : Int32} {x3 : Int32} {x4 : Int32} {x6 : Int32} {σ : tM} (hm : J_X12_rename_183 b0 fu  x0 x1 x2 x3 x4 x6 σ = some (v, τ)) : tX p l e s m args below meth c 8 9 219 D aC b0 σ0 (.inl (some (.int v))) τ 183 [(0, .ref (x0)), (1, .int (x1)), (2, .int (x2)), (3, .int (x3)), (4, .int (x4)), (6, .int (x6))] [] σ := by
  unfold J_X12_rename_183 at hm
  refine zx_aload_n C dX12_rename_183 0 rfl ?_
  refine zx_iload_n C dX12_rename_184 3 rfl ?_
  refine zx_iconst (v := 0) C dX12_rename_185 (by decide) ?_
  obtain ⟨k61, i62, hm⟩ := ckO_e hm
  obtain ⟨v63, ρ64, h65, hm⟩ := cll_e hm
  refine zx_callV (σ := σ) C [.int (x3), .int (0)] tC_11 k61 i62 Y_X12_node W_8_40 W_8_42 Wp_80 (c_X12_node h65) (by decide) (by decide) rfl (Nat.le_of_ble_eq_true rfl) dX12_rename_186 rfl ?_
  refine zx_iconst (v := 2) C dX12_rename_189 (by decide) ?_
  refine zx_icmp_ne C 201 dX12_rename_190 (by decide) (fun c66 => ?_) (fun c66 => ?_)
  · replace hm := in_e hm c66
    exact zx_lv [0, 1, 2, 3, 5] [(0, .ref (x0)), (1, .int (x1)), (2, .int (x2)), (3, .int (x3)), (6, .int (x6))] rfl (j_X12_rename_201 C htab hin    hm)
  · replace hm := ip_e hm c66
    refine zx_aload_n C dX12_rename_193 0 rfl ?_
    refine zx_iload_n C dX12_rename_194 3 rfl ?_
    refine zx_iconst (v := 3) C dX12_rename_195 (by decide) ?_
    refine zx_iload C dX12_rename_196 4 rfl ?_
    obtain ⟨k89, i90, hm⟩ := ckO_e hm
    obtain ⟨v91, ρ92, h93, hm⟩ := cll_e hm
    refine zx_callV (σ := ρ64) C [.int (x3), .int (3), .int (x4)] tC_11 k89 i90 Y_X12_putNode W_8_99 W_8_101 Wp_94 (c_X12_putNode h93) (by decide) (by decide) rfl (Nat.le_of_ble_eq_true rfl) dX12_rename_198 rfl ?_
    exact zx_lv [0, 1, 2, 3, 5] [(0, .ref (x0)), (1, .int (x1)), (2, .int (x2)), (3, .int (x3)), (6, .int (x6))] rfl (j_X12_rename_201 C htab hin    hm)
set_option maxRecDepth 100000 in
set_option maxHeartbeats 1000000 in
theorem j_X12_rename_122 {p : Program} {l : Launch} {e : Env} {s : State} {m : MethodId} {args : Array Value} {below : List Frame} {meth : Method} {c : Code} {D : va_G} {aC : Nat → ClassId} {b0 fu : Nat} {σ0 τ : tM} {v : Int32}  (C : tCx p l s m args meth c yX12_rename.cls cX12_rename 8 (some .int) D aC b0 σ0) (htab : c.exceptionTable.toList = tableOf [(5, 20, 245, 425), (21, 32, 245, 425), (33, 53, 245, 425), (54, 75, 245, 425), (76, 87, 245, 425), (88, 131, 245, 425), (132, 150, 245, 425), (151, 213, 245, 425), (214, 244, 245, 425)]) (hin : meth.name = yX12_rename.name)  {x0 : Nat} {x1 : Int32} {x2 : Int32} {x3 : Int32} {x4 : Int32} {x5 : Int32} {s0 : Int32} {σ : tM} (hm : J_X12_rename_122 b0 fu  x0 x1 x2 x3 x4 x5 s0 σ = some (v, τ)) : tX p l e s m args below meth c 8 9 219 D aC b0 σ0 (.inl (some (.int v))) τ 122 [(0, .ref (x0)), (1, .int (x1)), (2, .int (x2)), (3, .int (x3)), (4, .int (x4)), (5, .int (x5))] [.int (s0)] σ := by
  unfold J_X12_rename_122 at hm
  refine zx_istore C [(6, .int (s0)), (0, .ref (x0)), (1, .int (x1)), (2, .int (x2)), (3, .int (x3)), (4, .int (x4)), (5, .int (x5))] dX12_rename_122 (by decide) rfl ?_
  refine zx_iload C dX12_rename_124 0 rfl ?_
  refine zx_iload_n C dX12_rename_126 4 rfl ?_
  refine zx_icmp_ne C 132 dX12_rename_127 (by decide) (fun c46 => ?_) (fun c46 => ?_)
  · replace hm := in_e hm c46
    refine zx_aload_n C dX12_rename_132 1 rfl ?_
    refine zx_iload_n C dX12_rename_133 4 rfl ?_
    refine zx_iload C dX12_rename_134 5 rfl ?_
    refine zx_iload C dX12_rename_136 0 rfl ?_
    obtain ⟨k47, i48, hm⟩ := ckO_e hm
    obtain ⟨v49, ρ50, h51, hm⟩ := cll_e hm
    refine zx_callV (σ := σ) C [.int (x3), .int (x4), .int (s0)] tC_11 k47 i48 Y_X12_mayRename W_8_205 W_8_207 Wp_114 (c_X12_mayRename h51) (by decide) (by decide) rfl (Nat.le_of_ble_eq_true rfl) dX12_rename_138 rfl ?_
    refine zx_istore C [(7, .int (v49)), (6, .int (s0)), (0, .ref (x0)), (1, .int (x1)), (2, .int (x2)), (3, .int (x3)), (4, .int (x4)), (5, .int (x5))] dX12_rename_141 (by decide) rfl ?_
    refine zx_iload C dX12_rename_143 0 rfl ?_
    refine zx_if_ge C 151 dX12_rename_145 (by decide) (fun c52 => ?_) (fun c52 => ?_)
    · replace hm := ip_e hm c52
      refine zx_iload C dX12_rename_151 1 rfl ?_
      refine zx_if_lt C 168 dX12_rename_153 (by decide) (fun c53 => ?_) (fun c53 => ?_)
      · replace hm := ip_e hm c53
        refine zx_aload_n C dX12_rename_168 2 rfl ?_
        refine zx_iload C dX12_rename_169 6 rfl ?_
        refine zx_aload_n C dX12_rename_171 2 rfl ?_
        obtain ⟨k54, i55, hm⟩ := ckO_e hm
        obtain ⟨a56, h57, hm⟩ := osm_e hm
        refine zx_get (j := 52) C tC_11 k54 i55 ⟨by decide, Or.inl W_7_31⟩ dX12_rename_172 (.ref a56) (rf_s h57) ?_
        refine zx_aload_n C dX12_rename_175 2 rfl ?_
        refine zx_get (j := 53) C tC_11 k54 i55 ⟨by decide, Or.inl W_7_32⟩ dX12_rename_176 (.int (tI (ρ50) (x0) 53)) rfl ?_
        refine zx_iload_n C dX12_rename_179 5 rfl ?_
        obtain ⟨v58, ρ59, h60, hm⟩ := cll_e hm
        refine zx_callV (σ := ρ50) C [.int (x4), .ref (a56), .int (tI (ρ50) (x0) 53), .int (x3)] tC_11 k54 i55 Y_X12_addEntry W_8_111 W_8_113 Wp_97 (c_X12_addEntry h60) (by decide) (by decide) rfl (Nat.le_of_ble_eq_true rfl) dX12_rename_180 rfl ?_
        exact zx_lv [2, 3, 4, 5, 6, 1] [(0, .ref (x0)), (1, .int (x1)), (2, .int (x2)), (3, .int (x3)), (4, .int (x4)), (6, .int (s0))] rfl (j_X12_rename_183 C htab hin    hm)
      · replace hm := in_e hm c53
        refine zx_aload_n C dX12_rename_156 2 rfl ?_
        refine zx_iload C dX12_rename_157 6 rfl ?_
        refine zx_iload C dX12_rename_159 7 rfl ?_
        refine zx_iload_n C dX12_rename_161 5 rfl ?_
        obtain ⟨k94, i95, hm⟩ := ckO_e hm
        obtain ⟨v96, ρ97, h98, hm⟩ := cll_e hm
        refine zx_callV (σ := ρ50) C [.int (x4), .int (x5), .int (x3)] tC_11 k94 i95 Y_X12_putEntry W_8_131 W_8_133 Wp_102 (c_X12_putEntry h98) (by decide) (by decide) rfl (Nat.le_of_ble_eq_true rfl) dX12_rename_162 rfl ?_
        refine zx_goto C 183 dX12_rename_165 (by decide) ?_
        exact zx_lv [2, 3, 4, 5, 6, 1] [(0, .ref (x0)), (1, .int (x1)), (2, .int (x2)), (3, .int (x3)), (4, .int (x4)), (6, .int (s0))] rfl (j_X12_rename_183 C htab hin    hm)
    · replace hm := in_e hm c52
      refine zx_iload C dX12_rename_148 0 rfl ?_
      obtain ⟨rfl, rfl⟩ := ret_e hm
      exact zx_iret C rfl rfl rfl dX12_rename_150
  · replace hm := ip_e hm c46
    refine zx_iload_n C dX12_rename_130 4 rfl ?_
    obtain ⟨rfl, rfl⟩ := ret_e hm
    exact zx_iret C rfl rfl rfl dX12_rename_131
set_option maxRecDepth 100000 in
set_option maxHeartbeats 1000000 in
theorem j_X12_rename_105 {p : Program} {l : Launch} {e : Env} {s : State} {m : MethodId} {args : Array Value} {below : List Frame} {meth : Method} {c : Code} {D : va_G} {aC : Nat → ClassId} {b0 fu : Nat} {σ0 τ : tM} {v : Int32}  (C : tCx p l s m args meth c yX12_rename.cls cX12_rename 8 (some .int) D aC b0 σ0) (htab : c.exceptionTable.toList = tableOf [(5, 20, 245, 425), (21, 32, 245, 425), (33, 53, 245, 425), (54, 75, 245, 425), (76, 87, 245, 425), (88, 131, 245, 425), (132, 150, 245, 425), (151, 213, 245, 425), (214, 244, 245, 425)]) (hin : meth.name = yX12_rename.name)  {x0 : Nat} {x1 : Int32} {x2 : Int32} {x3 : Int32} {x4 : Int32} {x5 : Int32} {σ : tM} (hm : J_X12_rename_105 b0 fu  x0 x1 x2 x3 x4 x5 σ = some (v, τ)) : tX p l e s m args below meth c 8 9 219 D aC b0 σ0 (.inl (some (.int v))) τ 105 [(0, .ref (x0)), (1, .int (x1)), (2, .int (x2)), (3, .int (x3)), (4, .int (x4)), (5, .int (x5))] [] σ := by
  unfold J_X12_rename_105 at hm
  refine zx_iload C dX12_rename_105 5 rfl ?_
  refine zx_if_ge C 114 dX12_rename_107 (by decide) (fun c40 => ?_) (fun c40 => ?_)
  · replace hm := ip_e hm c40
    refine zx_aload_n C dX12_rename_114 0 rfl ?_
    refine zx_iload C dX12_rename_115 4 rfl ?_
    refine zx_iload C dX12_rename_117 5 rfl ?_
    obtain ⟨k41, i42, hm⟩ := ckO_e hm
    obtain ⟨v43, ρ44, h45, hm⟩ := cll_e hm
    refine zx_callV (σ := σ) C [.int (x4), .int (x5)] tC_11 k41 i42 Y_X12_entryNode W_8_52 W_8_54 Wp_83 (c_X12_entryNode h45) (by decide) (by decide) rfl (Nat.le_of_ble_eq_true rfl) dX12_rename_119 rfl ?_
    exact zx_lv [0, 1, 2, 3, 4, 5] [(0, .ref (x0)), (1, .int (x1)), (2, .int (x2)), (3, .int (x3)), (4, .int (x4)), (5, .int (x5))] rfl (j_X12_rename_122 C htab hin    hm)
  · replace hm := in_e hm c40
    refine zx_iconst (v := (-1)) C dX12_rename_110 (by decide) ?_
    refine zx_goto C 122 dX12_rename_111 (by decide) ?_
    exact zx_lv [0, 1, 2, 3, 4, 5] [(0, .ref (x0)), (1, .int (x1)), (2, .int (x2)), (3, .int (x3)), (4, .int (x4)), (5, .int (x5))] rfl (j_X12_rename_122 C htab hin    hm)
set_option maxRecDepth 100000 in
set_option maxHeartbeats 1000000 in
theorem j_X12_rename_48 {p : Program} {l : Launch} {e : Env} {s : State} {m : MethodId} {args : Array Value} {below : List Frame} {meth : Method} {c : Code} {D : va_G} {aC : Nat → ClassId} {b0 fu : Nat} {σ0 τ : tM} {v : Int32}  (C : tCx p l s m args meth c yX12_rename.cls cX12_rename 8 (some .int) D aC b0 σ0) (htab : c.exceptionTable.toList = tableOf [(5, 20, 245, 425), (21, 32, 245, 425), (33, 53, 245, 425), (54, 75, 245, 425), (76, 87, 245, 425), (88, 131, 245, 425), (132, 150, 245, 425), (151, 213, 245, 425), (214, 244, 245, 425)]) (hin : meth.name = yX12_rename.name)  {x0 : Nat} {x1 : Int32} {x2 : Int32} {σ : tM} (hm : J_X12_rename_48 b0 fu  x0 x1 x2 σ = some (v, τ)) : tX p l e s m args below meth c 8 9 219 D aC b0 σ0 (.inl (some (.int v))) τ 48 [(0, .ref (x0)), (1, .int (x1)), (2, .int (x2))] [] σ := by
  unfold J_X12_rename_48 at hm
  refine zx_iload_n C dX12_rename_48 2 rfl ?_
  refine zx_if_ge C 54 dX12_rename_49 (by decide) (fun c20 => ?_) (fun c20 => ?_)
  · replace hm := ip_e hm c20
    refine zx_aload_n C dX12_rename_54 0 rfl ?_
    refine zx_iload_n C dX12_rename_55 1 rfl ?_
    refine zx_iload_n C dX12_rename_56 2 rfl ?_
    obtain ⟨k21, i22, hm⟩ := ckO_e hm
    obtain ⟨v23, ρ24, h25, hm⟩ := cll_e hm
    refine zx_callV (σ := σ) C [.int (x1), .int (x2)] tC_11 k21 i22 Y_X12_entryNode W_8_52 W_8_54 Wp_83 (c_X12_entryNode h25) (by decide) (by decide) rfl (Nat.le_of_ble_eq_true rfl) dX12_rename_57 rfl ?_
    refine zx_istore_n C [(3, .int (v23)), (0, .ref (x0)), (1, .int (x1)), (2, .int (x2))] dX12_rename_60 rfl (by decide) rfl ?_
    refine zx_aload_n C dX12_rename_61 1 rfl ?_
    refine zx_iconst (v := 1) C dX12_rename_62 (by decide) ?_
    obtain ⟨k26, i27, hm⟩ := ckO_e hm
    obtain ⟨v28, ρ29, h30, hm⟩ := cll_e hm
    refine zx_callV (σ := ρ24) C [.int (1)] tC_11 k26 i27 Y_X12_walkAhead W_8_24 W_8_26 Wp_76 (c_X12_walkAhead h30) (by decide) (by decide) rfl (Nat.le_of_ble_eq_true rfl) dX12_rename_63 rfl ?_
    refine zx_istore C [(4, .int (v28)), (3, .int (v23)), (0, .ref (x0)), (1, .int (x1)), (2, .int (x2))] dX12_rename_66 (by decide) rfl ?_
    refine zx_iload C dX12_rename_68 0 rfl ?_
    refine zx_if_ge C 76 dX12_rename_70 (by decide) (fun c31 => ?_) (fun c31 => ?_)
    · replace hm := ip_e hm c31
      refine zx_aload_n C dX12_rename_76 2 rfl ?_
      obtain ⟨k32, i33, hm⟩ := ckO_e hm
      refine zx_get (j := 53) C tC_11 k32 i33 ⟨by decide, Or.inl W_7_32⟩ dX12_rename_77 (.int (tI (ρ29) (x0) 53)) rfl ?_
      refine zx_bipush (v := 28) C dX12_rename_80 (by decide) ?_
      refine zx_icmp_le C 88 dX12_rename_82 (by decide) (fun c34 => ?_) (fun c34 => ?_)
      · replace hm := ip_e hm c34
        refine zx_aload_n C dX12_rename_88 2 rfl ?_
        refine zx_iload C dX12_rename_89 0 rfl ?_
        refine zx_aload_n C dX12_rename_91 2 rfl ?_
        obtain ⟨a35, h36, hm⟩ := osm_e hm
        refine zx_get (j := 52) C tC_11 k32 i33 ⟨by decide, Or.inl W_7_31⟩ dX12_rename_92 (.ref a35) (rf_s h36) ?_
        refine zx_iconst (v := 0) C dX12_rename_95 (by decide) ?_
        refine zx_aload_n C dX12_rename_96 2 rfl ?_
        refine zx_get (j := 53) C tC_11 k32 i33 ⟨by decide, Or.inl W_7_32⟩ dX12_rename_97 (.int (tI (ρ29) (x0) 53)) rfl ?_
        obtain ⟨v37, ρ38, h39, hm⟩ := cll_e hm
        refine zx_callV (σ := ρ29) C [.int (v28), .ref (a35), .int (0), .int (tI (ρ29) (x0) 53)] tC_11 k32 i33 Y_X12_find W_8_44 W_8_46 Wp_81 (c_X12_find h39) (by decide) (by decide) rfl (Nat.le_of_ble_eq_true rfl) dX12_rename_100 rfl ?_
        refine zx_istore C [(5, .int (v37)), (4, .int (v28)), (3, .int (v23)), (0, .ref (x0)), (1, .int (x1)), (2, .int (x2))] dX12_rename_103 (by decide) rfl ?_
        exact zx_lv [3, 4, 5, 2, 1, 0] [(0, .ref (x0)), (1, .int (x1)), (2, .int (x2)), (3, .int (v23)), (4, .int (v28)), (5, .int (v37))] rfl (j_X12_rename_105 C htab hin    hm)
      · replace hm := in_e hm c34
        refine zx_bipush (v := (-7)) C dX12_rename_85 (by decide) ?_
        obtain ⟨rfl, rfl⟩ := ret_e hm
        exact zx_iret C rfl rfl rfl dX12_rename_87
    · replace hm := in_e hm c31
      refine zx_iload C dX12_rename_73 0 rfl ?_
      obtain ⟨rfl, rfl⟩ := ret_e hm
      exact zx_iret C rfl rfl rfl dX12_rename_75
  · replace hm := in_e hm c20
    refine zx_iconst (v := (-1)) C dX12_rename_52 (by decide) ?_
    obtain ⟨rfl, rfl⟩ := ret_e hm
    exact zx_iret C rfl rfl rfl dX12_rename_53
set_option maxRecDepth 100000 in
set_option maxHeartbeats 1000000 in
theorem c_X12_rename {l : Launch} {D : va_G} {aC : Nat → ClassId} {b0 fu : Nat} {a0 : Nat} {σ τ : tM} {v : Int32} (hm : m_X12_rename b0 fu a0 σ = some (v, τ)) : tMt l D aC b0 yX12_rename (Cond.codeWith yX12_rename cX12_rename 8 (some .int) [(5, 20, 245, 425), (21, 32, 245, 425), (33, 53, 245, 425), (54, 75, 245, 425), (76, 87, 245, 425), (88, 131, 245, 425), (132, 150, 245, 425), (151, 213, 245, 425), (214, 244, 245, 425)]) 9 219 [.ref (a0)] σ (.inl (some (.int v))) τ := by
  unfold m_X12_rename at hm
  obtain ⟨hg, hm⟩ := grw_e hm
  refine tMt_ofH rfl (Nat.le_of_ble_eq_true rfl) hg ?_
  intro p e s m below meth c C htab hin
  refine zx_lv [0] [(0, .ref (a0))] rfl ?_
  refine zx_aload_n C dX12_rename_0 0 rfl ?_
  refine zx_iconst (v := 0) C dX12_rename_1 (by decide) ?_
  obtain ⟨k1, i2, hm⟩ := ckO_e hm
  refine zx_put (j := 0) (ρ := sI (σ) (a0) 0 (0)) C tC_11 k1 i2 ⟨by decide, Or.inl W_6_220⟩ rfl rfl rfl (sI_ok (fun _ => rfl)) dX12_rename_2 ?_
  refine zx_aload_n C dX12_rename_5 0 rfl ?_
  rcases cly_e hm with ⟨v3, ρ4, h5, hm⟩ | ⟨ρ100, h5, hm⟩
  · refine zx_callV (σ := sI (σ) (a0) 0 (0)) C [] tC_11 k1 i2 Y_X12_upAhead W_7_175 W_7_177 Wp_56 (c_X12_upAhead h5) (by decide) (by decide) rfl (Nat.le_of_ble_eq_true rfl) dX12_rename_6 rfl ?_
    refine zx_aload_n C dX12_rename_9 0 rfl ?_
    refine zx_iconst (v := 0) C dX12_rename_10 (by decide) ?_
    obtain ⟨k6, i7, hm⟩ := ckO_e hm
    obtain ⟨v8, ρ9, h10, hm⟩ := cll_e hm
    refine zx_callV (σ := ρ4) C [.int (0)] tC_11 k6 i7 Y_X12_walkAhead W_8_24 W_8_26 Wp_76 (c_X12_walkAhead h10) (by decide) (by decide) rfl (Nat.le_of_ble_eq_true rfl) dX12_rename_11 rfl ?_
    refine zx_istore_n C [(1, .int (v8)), (0, .ref (a0))] dX12_rename_14 rfl (by decide) rfl ?_
    refine zx_iload_n C dX12_rename_15 0 rfl ?_
    refine zx_if_ge C 21 dX12_rename_16 (by decide) (fun c11 => ?_) (fun c11 => ?_)
    · replace hm := ip_e hm c11
      refine zx_aload_n C dX12_rename_21 1 rfl ?_
      obtain ⟨k12, i13, hm⟩ := ckO_e hm
      refine zx_get (j := 53) C tC_11 k12 i13 ⟨by decide, Or.inl W_7_32⟩ dX12_rename_22 (.int (tI (ρ9) (a0) 53)) rfl ?_
      refine zx_bipush (v := 28) C dX12_rename_25 (by decide) ?_
      refine zx_icmp_le C 33 dX12_rename_27 (by decide) (fun c14 => ?_) (fun c14 => ?_)
      · replace hm := ip_e hm c14
        refine zx_aload_n C dX12_rename_33 1 rfl ?_
        refine zx_iload_n C dX12_rename_34 0 rfl ?_
        refine zx_aload_n C dX12_rename_35 1 rfl ?_
        obtain ⟨a15, h16, hm⟩ := osm_e hm
        refine zx_get (j := 52) C tC_11 k12 i13 ⟨by decide, Or.inl W_7_31⟩ dX12_rename_36 (.ref a15) (rf_s h16) ?_
        refine zx_iconst (v := 0) C dX12_rename_39 (by decide) ?_
        refine zx_aload_n C dX12_rename_40 1 rfl ?_
        refine zx_get (j := 53) C tC_11 k12 i13 ⟨by decide, Or.inl W_7_32⟩ dX12_rename_41 (.int (tI (ρ9) (a0) 53)) rfl ?_
        obtain ⟨v17, ρ18, h19, hm⟩ := cll_e hm
        refine zx_callV (σ := ρ9) C [.int (v8), .ref (a15), .int (0), .int (tI (ρ9) (a0) 53)] tC_11 k12 i13 Y_X12_find W_8_44 W_8_46 Wp_81 (c_X12_find h19) (by decide) (by decide) rfl (Nat.le_of_ble_eq_true rfl) dX12_rename_44 rfl ?_
        refine zx_istore_n C [(2, .int (v17)), (1, .int (v8)), (0, .ref (a0))] dX12_rename_47 rfl (by decide) rfl ?_
        exact zx_lv [2, 1, 0] [(0, .ref (a0)), (1, .int (v8)), (2, .int (v17))] rfl (j_X12_rename_48 C htab hin    hm)
      · replace hm := in_e hm c14
        refine zx_bipush (v := (-7)) C dX12_rename_30 (by decide) ?_
        obtain ⟨rfl, rfl⟩ := ret_e hm
        exact zx_iret C rfl rfl rfl dX12_rename_32
    · replace hm := in_e hm c11
      refine zx_iload_n C dX12_rename_19 0 rfl ?_
      obtain ⟨rfl, rfl⟩ := ret_e hm
      exact zx_iret C rfl rfl rfl dX12_rename_20
  · refine zx_catchV (σ := sI (σ) (a0) 0 (0)) (x9 := { startPc := 5, endPc := 20, handlerPc := 245, catchType := 425 }) C (tableOf []) (tableOf [(21, 32, 245, 425), (33, 53, 245, 425), (54, 75, 245, 425), (76, 87, 245, 425), (88, 131, 245, 425), (132, 150, 245, 425), (151, 213, 245, 425), (214, 244, 245, 425)]) htab (by decide) (by decide) (by decide) (E := "SyncTreeModel$Off") W_7_174 W_9_132 [] tC_11 k1 i2 Y_X12_upAhead W_7_175 W_7_177 Wp_56 (c_X12_upAhead h5) (by decide) (by decide) rfl (Nat.le_of_ble_eq_true rfl) dX12_rename_6 rfl (fun q99 => ?_)
    refine zx_astore_n C [(1, .ref (q99)), (0, .ref (a0))] dX12_rename_245 rfl (by decide) rfl ?_
    refine zx_aload_n C dX12_rename_246 1 rfl ?_
    obtain ⟨k101, i102, hm⟩ := ckO_e hm
    obtain ⟨v103, ρ104, h105, hm⟩ := cll_e hm
    refine zx_callV (σ := ρ100) C [] tC_11 k101 i102 Y_X12_off W_8_135 W_8_137 Wp_103 (c_X12_off h105) (by decide) (by decide) rfl (Nat.le_of_ble_eq_true rfl) dX12_rename_247 rfl ?_
    obtain ⟨rfl, rfl⟩ := ret_e hm
    exact zx_iret C rfl rfl rfl dX12_rename_250
abbrev cX12_close : ByteArray := prog_13_method_86_code
def yX12_close : MethodName := ⟨"SyncTreeModel", "close", "(I)I"⟩
theorem Y_X12_close : tYH yX12_close cX12_close 3 (some .int) [(5, 19, 41, 425), (20, 40, 41, 425)] 1 := ⟨W_8_220, W_1_14, ⟨by decide +kernel, by decide +kernel⟩, by decide +kernel⟩
theorem dX12_close_0 : decode cX12_close 0 = .ok (.aload_n 0, 1) := by decide +kernel
theorem dX12_close_1 : decode cX12_close 1 = .ok (.iconst 0, 1) := by decide +kernel
theorem dX12_close_2 : decode cX12_close 2 = .ok (.putfield 3, 3) := by decide +kernel
theorem dX12_close_5 : decode cX12_close 5 = .ok (.aload_n 0, 1) := by decide +kernel
theorem dX12_close_6 : decode cX12_close 6 = .ok (.invokevirtual 419, 3) := by decide +kernel
theorem dX12_close_9 : decode cX12_close 9 = .ok (.aload_n 0, 1) := by decide +kernel
theorem dX12_close_10 : decode cX12_close 10 = .ok (.iload_n 1, 1) := by decide +kernel
theorem dX12_close_11 : decode cX12_close 11 = .ok (.invokevirtual 446, 3) := by decide +kernel
theorem dX12_close_14 : decode cX12_close 14 = .ok (.ifCond .ne 6, 3) := by decide +kernel
theorem dX12_close_17 : decode cX12_close 17 = .ok (.bipush (-9), 2) := by decide +kernel
theorem dX12_close_19 : decode cX12_close 19 = .ok (.ireturn, 1) := by decide +kernel
theorem dX12_close_20 : decode cX12_close 20 = .ok (.aload_n 0, 1) := by decide +kernel
theorem dX12_close_21 : decode cX12_close 21 = .ok (.getfield 286, 3) := by decide +kernel
theorem dX12_close_24 : decode cX12_close 24 = .ok (.iload_n 1, 1) := by decide +kernel
theorem dX12_close_25 : decode cX12_close 25 = .ok (.iaload, 1) := by decide +kernel
theorem dX12_close_26 : decode cX12_close 26 = .ok (.istore_n 2, 1) := by decide +kernel
theorem dX12_close_27 : decode cX12_close 27 = .ok (.aload_n 0, 1) := by decide +kernel
theorem dX12_close_28 : decode cX12_close 28 = .ok (.getfield 286, 3) := by decide +kernel
theorem dX12_close_31 : decode cX12_close 31 = .ok (.iload_n 1, 1) := by decide +kernel
theorem dX12_close_32 : decode cX12_close 32 = .ok (.iconst (-1), 1) := by decide +kernel
theorem dX12_close_33 : decode cX12_close 33 = .ok (.iastore, 1) := by decide +kernel
theorem dX12_close_34 : decode cX12_close 34 = .ok (.aload_n 0, 1) := by decide +kernel
theorem dX12_close_35 : decode cX12_close 35 = .ok (.iload_n 2, 1) := by decide +kernel
theorem dX12_close_36 : decode cX12_close 36 = .ok (.invokevirtual 379, 3) := by decide +kernel
theorem dX12_close_39 : decode cX12_close 39 = .ok (.iconst 0, 1) := by decide +kernel
theorem dX12_close_40 : decode cX12_close 40 = .ok (.ireturn, 1) := by decide +kernel
theorem dX12_close_41 : decode cX12_close 41 = .ok (.astore_n 2, 1) := by decide +kernel
theorem dX12_close_42 : decode cX12_close 42 = .ok (.aload_n 0, 1) := by decide +kernel
theorem dX12_close_43 : decode cX12_close 43 = .ok (.invokevirtual 427, 3) := by decide +kernel
theorem dX12_close_46 : decode cX12_close 46 = .ok (.ireturn, 1) := by decide +kernel
set_option maxRecDepth 100000 in
set_option maxHeartbeats 1000000 in
theorem c_X12_close {l : Launch} {D : va_G} {aC : Nat → ClassId} {b0 fu : Nat} {a0 : Nat} {p0 : Int32} {σ τ : tM} {v : Int32} (hm : m_X12_close b0 fu a0 p0 σ = some (v, τ)) : tMt l D aC b0 yX12_close (Cond.codeWith yX12_close cX12_close 3 (some .int) [(5, 19, 41, 425), (20, 40, 41, 425)]) 9 200 [.ref (a0), .int (p0)] σ (.inl (some (.int v))) τ := by
  unfold m_X12_close at hm
  obtain ⟨hg, hm⟩ := grw_e hm
  refine tMt_ofH rfl (Nat.le_of_ble_eq_true rfl) hg ?_
  intro p e s m below meth c C htab hin
  refine zx_lv [0, 1] [(0, .ref (a0)), (1, .int (p0))] rfl ?_
  refine zx_aload_n C dX12_close_0 0 rfl ?_
  refine zx_iconst (v := 0) C dX12_close_1 (by decide) ?_
  obtain ⟨k1, i2, hm⟩ := ckO_e hm
  refine zx_put (j := 0) (ρ := sI (σ) (a0) 0 (0)) C tC_11 k1 i2 ⟨by decide, Or.inl W_6_220⟩ rfl rfl rfl (sI_ok (fun _ => rfl)) dX12_close_2 ?_
  refine zx_aload_n C dX12_close_5 0 rfl ?_
  rcases cly_e hm with ⟨v3, ρ4, h5, hm⟩ | ⟨ρ31, h5, hm⟩
  · refine zx_callV (σ := sI (σ) (a0) 0 (0)) C [] tC_11 k1 i2 Y_X12_upAhead W_7_175 W_7_177 Wp_56 (c_X12_upAhead h5) (by decide) (by decide) rfl (Nat.le_of_ble_eq_true rfl) dX12_close_6 rfl ?_
    refine zx_aload_n C dX12_close_9 0 rfl ?_
    refine zx_iload_n C dX12_close_10 1 rfl ?_
    obtain ⟨k6, i7, hm⟩ := ckO_e hm
    obtain ⟨v8, ρ9, h10, hm⟩ := cll_e hm
    refine zx_callV (σ := ρ4) C [.int (p0)] tC_11 k6 i7 Y_X12_isHandle W_8_221 W_8_223 Wp_116 (c_X12_isHandle h10) (by decide) (by decide) rfl (Nat.le_of_ble_eq_true rfl) dX12_close_11 rfl ?_
    refine zx_if_ne C 20 dX12_close_14 (by decide) (fun c11 => ?_) (fun c11 => ?_)
    · replace hm := in_e hm c11
      refine zx_aload_n C dX12_close_20 0 rfl ?_
      obtain ⟨k12, i13, hm⟩ := ckO_e hm
      obtain ⟨a14, h15, hm⟩ := osm_e hm
      refine zx_get (j := 58) C tC_11 k12 i13 ⟨by decide, Or.inl W_7_37⟩ dX12_close_21 (.ref a14) (rf_s h15) ?_
      refine zx_iload_n C dX12_close_24 1 rfl ?_
      obtain ⟨n18, k16, i17, hm⟩ := ckR_e hm
      obtain ⟨h19, hm⟩ := ckI_e hm
      refine zx_iald C k16 i17 h19 dX12_close_25 ?_
      refine zx_topi (fun y20 hy20 => ?_)
      replace hm := ltb_e hm hy20
      refine zx_istore_n C [(2, .int (y20)), (0, .ref (a0)), (1, .int (p0))] dX12_close_26 rfl (by decide) rfl ?_
      refine zx_aload_n C dX12_close_27 1 rfl ?_
      obtain ⟨a21, h22, hm⟩ := osm_e hm
      refine zx_get (j := 58) C tC_11 k12 i13 ⟨by decide, Or.inl W_7_37⟩ dX12_close_28 (.ref a21) (rf_s h22) ?_
      refine zx_iload_n C dX12_close_31 2 rfl ?_
      refine zx_iconst (v := (-1)) C dX12_close_32 (by decide) ?_
      obtain ⟨n25, k23, i24, hm⟩ := ckR_e hm
      obtain ⟨h26, hm⟩ := ckI_e hm
      refine zx_iast C k23 i24 h26 dX12_close_33 ?_
      refine zx_aload_n C dX12_close_34 1 rfl ?_
      refine zx_iload_n C dX12_close_35 0 rfl ?_
      obtain ⟨v27, ρ28, h29, hm⟩ := cll_e hm
      refine zx_callV (σ := sI (ρ9) (a21) ((p0).toNatClampNeg) ((-1))) C [.int (y20)] tC_11 k12 i13 Y_X12_maybeFree W_8_183 W_8_185 Wp_111 (c_X12_maybeFree h29) (by decide) (by decide) rfl (Nat.le_of_ble_eq_true rfl) dX12_close_36 rfl ?_
      refine zx_iconst (v := 0) C dX12_close_39 (by decide) ?_
      obtain ⟨rfl, rfl⟩ := ret_e hm
      exact zx_iret C rfl rfl rfl dX12_close_40
    · replace hm := ip_e hm c11
      refine zx_bipush (v := (-9)) C dX12_close_17 (by decide) ?_
      obtain ⟨rfl, rfl⟩ := ret_e hm
      exact zx_iret C rfl rfl rfl dX12_close_19
  · refine zx_catchV (σ := sI (σ) (a0) 0 (0)) (x9 := { startPc := 5, endPc := 19, handlerPc := 41, catchType := 425 }) C (tableOf []) (tableOf [(20, 40, 41, 425)]) htab (by decide) (by decide) (by decide) (E := "SyncTreeModel$Off") W_7_174 W_9_132 [] tC_11 k1 i2 Y_X12_upAhead W_7_175 W_7_177 Wp_56 (c_X12_upAhead h5) (by decide) (by decide) rfl (Nat.le_of_ble_eq_true rfl) dX12_close_6 rfl (fun q30 => ?_)
    refine zx_astore_n C [(2, .ref (q30)), (0, .ref (a0)), (1, .int (p0))] dX12_close_41 rfl (by decide) rfl ?_
    refine zx_aload_n C dX12_close_42 1 rfl ?_
    obtain ⟨k32, i33, hm⟩ := ckO_e hm
    obtain ⟨v34, ρ35, h36, hm⟩ := cll_e hm
    refine zx_callV (σ := ρ31) C [] tC_11 k32 i33 Y_X12_off W_8_135 W_8_137 Wp_103 (c_X12_off h36) (by decide) (by decide) rfl (Nat.le_of_ble_eq_true rfl) dX12_close_43 rfl ?_
    obtain ⟨rfl, rfl⟩ := ret_e hm
    exact zx_iret C rfl rfl rfl dX12_close_46
abbrev cX12_write : ByteArray := prog_13_method_88_code
def yX12_write : MethodName := ⟨"SyncTreeModel", "write", "(III)I"⟩
theorem Y_X12_write : tYH yX12_write cX12_write 6 (some .int) [(5, 67, 68, 425)] 3 := ⟨W_8_228, W_1_14, ⟨by decide +kernel, by decide +kernel⟩, by decide +kernel⟩
theorem dX12_write_0 : decode cX12_write 0 = .ok (.aload_n 0, 1) := by decide +kernel
theorem dX12_write_1 : decode cX12_write 1 = .ok (.iconst 0, 1) := by decide +kernel
theorem dX12_write_2 : decode cX12_write 2 = .ok (.putfield 3, 3) := by decide +kernel
theorem dX12_write_5 : decode cX12_write 5 = .ok (.aload_n 0, 1) := by decide +kernel
theorem dX12_write_6 : decode cX12_write 6 = .ok (.invokevirtual 419, 3) := by decide +kernel
theorem dX12_write_9 : decode cX12_write 9 = .ok (.aload_n 0, 1) := by decide +kernel
theorem dX12_write_10 : decode cX12_write 10 = .ok (.iload_n 1, 1) := by decide +kernel
theorem dX12_write_11 : decode cX12_write 11 = .ok (.invokevirtual 446, 3) := by decide +kernel
theorem dX12_write_14 : decode cX12_write 14 = .ok (.ifCond .eq 23, 3) := by decide +kernel
theorem dX12_write_17 : decode cX12_write 17 = .ok (.iload_n 2, 1) := by decide +kernel
theorem dX12_write_18 : decode cX12_write 18 = .ok (.ifCond .lt 19, 3) := by decide +kernel
theorem dX12_write_21 : decode cX12_write 21 = .ok (.iload_n 3, 1) := by decide +kernel
theorem dX12_write_22 : decode cX12_write 22 = .ok (.ifCond .lt 15, 3) := by decide +kernel
theorem dX12_write_25 : decode cX12_write 25 = .ok (.aload_n 0, 1) := by decide +kernel
theorem dX12_write_26 : decode cX12_write 26 = .ok (.getfield 400, 3) := by decide +kernel
theorem dX12_write_29 : decode cX12_write 29 = .ok (.iload_n 3, 1) := by decide +kernel
theorem dX12_write_30 : decode cX12_write 30 = .ok (.if_icmp .lt 7, 3) := by decide +kernel
theorem dX12_write_33 : decode cX12_write 33 = .ok (.iconst 1, 1) := by decide +kernel
theorem dX12_write_34 : decode cX12_write 34 = .ok (.goto 4, 3) := by decide +kernel
theorem dX12_write_37 : decode cX12_write 37 = .ok (.iconst 0, 1) := by decide +kernel
theorem dX12_write_38 : decode cX12_write 38 = .ok (.istore 4, 2) := by decide +kernel
theorem dX12_write_40 : decode cX12_write 40 = .ok (.iload 4, 2) := by decide +kernel
theorem dX12_write_42 : decode cX12_write 42 = .ok (.ifCond .eq 14, 3) := by decide +kernel
theorem dX12_write_45 : decode cX12_write 45 = .ok (.aload_n 0, 1) := by decide +kernel
theorem dX12_write_46 : decode cX12_write 46 = .ok (.iload_n 1, 1) := by decide +kernel
theorem dX12_write_47 : decode cX12_write 47 = .ok (.iload_n 2, 1) := by decide +kernel
theorem dX12_write_48 : decode cX12_write 48 = .ok (.iload_n 3, 1) := by decide +kernel
theorem dX12_write_49 : decode cX12_write 49 = .ok (.iconst (-1), 1) := by decide +kernel
theorem dX12_write_50 : decode cX12_write 50 = .ok (.invokevirtual 451, 3) := by decide +kernel
theorem dX12_write_53 : decode cX12_write 53 = .ok (.goto 5, 3) := by decide +kernel
theorem dX12_write_56 : decode cX12_write 56 = .ok (.bipush (-9), 2) := by decide +kernel
theorem dX12_write_58 : decode cX12_write 58 = .ok (.istore 5, 2) := by decide +kernel
theorem dX12_write_60 : decode cX12_write 60 = .ok (.aload_n 0, 1) := by decide +kernel
theorem dX12_write_61 : decode cX12_write 61 = .ok (.iconst 0, 1) := by decide +kernel
theorem dX12_write_62 : decode cX12_write 62 = .ok (.putfield 400, 3) := by decide +kernel
theorem dX12_write_65 : decode cX12_write 65 = .ok (.iload 5, 2) := by decide +kernel
theorem dX12_write_67 : decode cX12_write 67 = .ok (.ireturn, 1) := by decide +kernel
theorem dX12_write_68 : decode cX12_write 68 = .ok (.astore 4, 2) := by decide +kernel
theorem dX12_write_70 : decode cX12_write 70 = .ok (.aload_n 0, 1) := by decide +kernel
theorem dX12_write_71 : decode cX12_write 71 = .ok (.invokevirtual 427, 3) := by decide +kernel
theorem dX12_write_74 : decode cX12_write 74 = .ok (.ireturn, 1) := by decide +kernel
set_option maxRecDepth 100000 in
set_option maxHeartbeats 1000000 in
theorem j_X12_write_58 {p : Program} {l : Launch} {e : Env} {s : State} {m : MethodId} {args : Array Value} {below : List Frame} {meth : Method} {c : Code} {D : va_G} {aC : Nat → ClassId} {b0 fu : Nat} {σ0 τ : tM} {v : Int32}  (C : tCx p l s m args meth c yX12_write.cls cX12_write 6 (some .int) D aC b0 σ0) (htab : c.exceptionTable.toList = tableOf [(5, 67, 68, 425)]) (hin : meth.name = yX12_write.name)  {x0 : Nat} {s0 : Int32} {σ : tM} (hm : J_X12_write_58 b0 fu  x0 s0 σ = some (v, τ)) : tX p l e s m args below meth c 6 9 200 D aC b0 σ0 (.inl (some (.int v))) τ 58 [(0, .ref (x0))] [.int (s0)] σ := by
  unfold J_X12_write_58 at hm
  refine zx_istore C [(5, .int (s0)), (0, .ref (x0))] dX12_write_58 (by decide) rfl ?_
  refine zx_aload_n C dX12_write_60 1 rfl ?_
  refine zx_iconst (v := 0) C dX12_write_61 (by decide) ?_
  obtain ⟨k13, i14, hm⟩ := ckO_e hm
  refine zx_put (j := 57) (ρ := sI (σ) (x0) 57 (0)) C tC_11 k13 i14 ⟨by decide, Or.inl W_7_36⟩ rfl rfl rfl (sI_ok (fun _ => rfl)) dX12_write_62 ?_
  refine zx_iload C dX12_write_65 0 rfl ?_
  obtain ⟨rfl, rfl⟩ := ret_e hm
  exact zx_iret C rfl rfl rfl dX12_write_67
set_option maxRecDepth 100000 in
set_option maxHeartbeats 1000000 in
theorem j_X12_write_38 {p : Program} {l : Launch} {e : Env} {s : State} {m : MethodId} {args : Array Value} {below : List Frame} {meth : Method} {c : Code} {D : va_G} {aC : Nat → ClassId} {b0 fu : Nat} {σ0 τ : tM} {v : Int32}  (C : tCx p l s m args meth c yX12_write.cls cX12_write 6 (some .int) D aC b0 σ0) (htab : c.exceptionTable.toList = tableOf [(5, 67, 68, 425)]) (hin : meth.name = yX12_write.name)  {x0 : Nat} {x1 : Int32} {x2 : Int32} {x3 : Int32} {s0 : Int32} {σ : tM} (hm : J_X12_write_38 b0 fu  x0 x1 x2 x3 s0 σ = some (v, τ)) : tX p l e s m args below meth c 6 9 200 D aC b0 σ0 (.inl (some (.int v))) τ 38 [(0, .ref (x0)), (1, .int (x1)), (2, .int (x2)), (3, .int (x3))] [.int (s0)] σ := by
  unfold J_X12_write_38 at hm
  refine zx_istore C [(4, .int (s0)), (0, .ref (x0)), (1, .int (x1)), (2, .int (x2)), (3, .int (x3))] dX12_write_38 (by decide) rfl ?_
  refine zx_iload C dX12_write_40 0 rfl ?_
  refine zx_if_eq C 56 dX12_write_42 (by decide) (fun c12 => ?_) (fun c12 => ?_)
  · replace hm := ip_e hm c12
    refine zx_bipush (v := (-9)) C dX12_write_56 (by decide) ?_
    exact zx_lv [1] [(0, .ref (x0))] rfl (j_X12_write_58 C htab hin    hm)
  · replace hm := in_e hm c12
    refine zx_aload_n C dX12_write_45 1 rfl ?_
    refine zx_iload_n C dX12_write_46 2 rfl ?_
    refine zx_iload_n C dX12_write_47 3 rfl ?_
    refine zx_iload_n C dX12_write_48 4 rfl ?_
    refine zx_iconst (v := (-1)) C dX12_write_49 (by decide) ?_
    obtain ⟨k15, i16, hm⟩ := ckO_e hm
    obtain ⟨v17, ρ18, h19, hm⟩ := cll_e hm
    refine zx_callV (σ := σ) C [.int (x1), .int (x2), .int (x3), .int ((-1))] tC_11 k15 i16 Y_X12_bytes W_8_229 W_8_231 Wp_117 (c_X12_bytes h19) (by decide) (by decide) rfl (Nat.le_of_ble_eq_true rfl) dX12_write_50 rfl ?_
    refine zx_goto C 58 dX12_write_53 (by decide) ?_
    exact zx_lv [1] [(0, .ref (x0))] rfl (j_X12_write_58 C htab hin    hm)
set_option maxRecDepth 100000 in
set_option maxHeartbeats 1000000 in
theorem j_X12_write_37 {p : Program} {l : Launch} {e : Env} {s : State} {m : MethodId} {args : Array Value} {below : List Frame} {meth : Method} {c : Code} {D : va_G} {aC : Nat → ClassId} {b0 fu : Nat} {σ0 τ : tM} {v : Int32}  (C : tCx p l s m args meth c yX12_write.cls cX12_write 6 (some .int) D aC b0 σ0) (htab : c.exceptionTable.toList = tableOf [(5, 67, 68, 425)]) (hin : meth.name = yX12_write.name)  {x0 : Nat} {x1 : Int32} {x2 : Int32} {x3 : Int32} {σ : tM} (hm : J_X12_write_37 b0 fu  x0 x1 x2 x3 σ = some (v, τ)) : tX p l e s m args below meth c 6 9 200 D aC b0 σ0 (.inl (some (.int v))) τ 37 [(0, .ref (x0)), (1, .int (x1)), (2, .int (x2)), (3, .int (x3))] [] σ := by
  unfold J_X12_write_37 at hm
  refine zx_iconst (v := 0) C dX12_write_37 (by decide) ?_
  exact zx_lv [0, 1, 2, 3] [(0, .ref (x0)), (1, .int (x1)), (2, .int (x2)), (3, .int (x3))] rfl (j_X12_write_38 C htab hin    hm)
set_option maxRecDepth 100000 in
set_option maxHeartbeats 1000000 in
theorem c_X12_write {l : Launch} {D : va_G} {aC : Nat → ClassId} {b0 fu : Nat} {a0 : Nat} {p0 : Int32} {p1 : Int32} {p2 : Int32} {σ τ : tM} {v : Int32} (hm : m_X12_write b0 fu a0 p0 p1 p2 σ = some (v, τ)) : tMt l D aC b0 yX12_write (Cond.codeWith yX12_write cX12_write 6 (some .int) [(5, 67, 68, 425)]) 9 200 [.ref (a0), .int (p0), .int (p1), .int (p2)] σ (.inl (some (.int v))) τ := by
  unfold m_X12_write at hm
  obtain ⟨hg, hm⟩ := grw_e hm
  refine tMt_ofH rfl (Nat.le_of_ble_eq_true rfl) hg ?_
  intro p e s m below meth c C htab hin
  refine zx_lv [0, 1, 2, 3] [(0, .ref (a0)), (1, .int (p0)), (2, .int (p1)), (3, .int (p2))] rfl ?_
  refine zx_aload_n C dX12_write_0 0 rfl ?_
  refine zx_iconst (v := 0) C dX12_write_1 (by decide) ?_
  obtain ⟨k1, i2, hm⟩ := ckO_e hm
  refine zx_put (j := 0) (ρ := sI (σ) (a0) 0 (0)) C tC_11 k1 i2 ⟨by decide, Or.inl W_6_220⟩ rfl rfl rfl (sI_ok (fun _ => rfl)) dX12_write_2 ?_
  refine zx_aload_n C dX12_write_5 0 rfl ?_
  rcases cly_e hm with ⟨v3, ρ4, h5, hm⟩ | ⟨ρ26, h5, hm⟩
  · refine zx_callV (σ := sI (σ) (a0) 0 (0)) C [] tC_11 k1 i2 Y_X12_upAhead W_7_175 W_7_177 Wp_56 (c_X12_upAhead h5) (by decide) (by decide) rfl (Nat.le_of_ble_eq_true rfl) dX12_write_6 rfl ?_
    refine zx_aload_n C dX12_write_9 0 rfl ?_
    refine zx_iload_n C dX12_write_10 1 rfl ?_
    obtain ⟨k6, i7, hm⟩ := ckO_e hm
    obtain ⟨v8, ρ9, h10, hm⟩ := cll_e hm
    refine zx_callV (σ := ρ4) C [.int (p0)] tC_11 k6 i7 Y_X12_isHandle W_8_221 W_8_223 Wp_116 (c_X12_isHandle h10) (by decide) (by decide) rfl (Nat.le_of_ble_eq_true rfl) dX12_write_11 rfl ?_
    refine zx_if_eq C 37 dX12_write_14 (by decide) (fun c11 => ?_) (fun c11 => ?_)
    · replace hm := ip_e hm c11
      exact zx_lv [0, 1, 2, 3] [(0, .ref (a0)), (1, .int (p0)), (2, .int (p1)), (3, .int (p2))] rfl (j_X12_write_37 C htab hin    hm)
    · replace hm := in_e hm c11
      refine zx_iload_n C dX12_write_17 2 rfl ?_
      refine zx_if_lt C 37 dX12_write_18 (by decide) (fun c20 => ?_) (fun c20 => ?_)
      · replace hm := ip_e hm c20
        exact zx_lv [0, 1, 2, 3] [(0, .ref (a0)), (1, .int (p0)), (2, .int (p1)), (3, .int (p2))] rfl (j_X12_write_37 C htab hin    hm)
      · replace hm := in_e hm c20
        refine zx_iload_n C dX12_write_21 3 rfl ?_
        refine zx_if_lt C 37 dX12_write_22 (by decide) (fun c21 => ?_) (fun c21 => ?_)
        · replace hm := ip_e hm c21
          exact zx_lv [0, 1, 2, 3] [(0, .ref (a0)), (1, .int (p0)), (2, .int (p1)), (3, .int (p2))] rfl (j_X12_write_37 C htab hin    hm)
        · replace hm := in_e hm c21
          refine zx_aload_n C dX12_write_25 0 rfl ?_
          obtain ⟨k22, i23, hm⟩ := ckO_e hm
          refine zx_get (j := 57) C tC_11 k22 i23 ⟨by decide, Or.inl W_7_36⟩ dX12_write_26 (.int (tI (ρ9) (a0) 57)) rfl ?_
          refine zx_iload_n C dX12_write_29 3 rfl ?_
          refine zx_icmp_lt C 37 dX12_write_30 (by decide) (fun c24 => ?_) (fun c24 => ?_)
          · replace hm := ip_e hm c24
            exact zx_lv [0, 1, 2, 3] [(0, .ref (a0)), (1, .int (p0)), (2, .int (p1)), (3, .int (p2))] rfl (j_X12_write_37 C htab hin    hm)
          · replace hm := in_e hm c24
            refine zx_iconst (v := 1) C dX12_write_33 (by decide) ?_
            refine zx_goto C 38 dX12_write_34 (by decide) ?_
            exact zx_lv [0, 1, 2, 3] [(0, .ref (a0)), (1, .int (p0)), (2, .int (p1)), (3, .int (p2))] rfl (j_X12_write_38 C htab hin    hm)
  · refine zx_catchV (σ := sI (σ) (a0) 0 (0)) (x9 := { startPc := 5, endPc := 67, handlerPc := 68, catchType := 425 }) C (tableOf []) (tableOf []) htab (by decide) (by decide) (by decide) (E := "SyncTreeModel$Off") W_7_174 W_9_132 [] tC_11 k1 i2 Y_X12_upAhead W_7_175 W_7_177 Wp_56 (c_X12_upAhead h5) (by decide) (by decide) rfl (Nat.le_of_ble_eq_true rfl) dX12_write_6 rfl (fun q25 => ?_)
    refine zx_astore C [(4, .ref (q25)), (0, .ref (a0)), (1, .int (p0)), (2, .int (p1)), (3, .int (p2))] dX12_write_68 (by decide) rfl ?_
    refine zx_aload_n C dX12_write_70 1 rfl ?_
    obtain ⟨k27, i28, hm⟩ := ckO_e hm
    obtain ⟨v29, ρ30, h31, hm⟩ := cll_e hm
    refine zx_callV (σ := ρ26) C [] tC_11 k27 i28 Y_X12_off W_8_135 W_8_137 Wp_103 (c_X12_off h31) (by decide) (by decide) rfl (Nat.le_of_ble_eq_true rfl) dX12_write_71 rfl ?_
    obtain ⟨rfl, rfl⟩ := ret_e hm
    exact zx_iret C rfl rfl rfl dX12_write_74
abbrev cX12_fill : ByteArray := prog_13_method_89_code
def yX12_fill : MethodName := ⟨"SyncTreeModel", "fill", "(IIII)I"⟩
theorem Y_X12_fill : tYH yX12_fill cX12_fill 6 (some .int) [(5, 71, 72, 425)] 4 := ⟨W_8_237, W_1_14, ⟨by decide +kernel, by decide +kernel⟩, by decide +kernel⟩
theorem dX12_fill_0 : decode cX12_fill 0 = .ok (.aload_n 0, 1) := by decide +kernel
theorem dX12_fill_1 : decode cX12_fill 1 = .ok (.iconst 0, 1) := by decide +kernel
theorem dX12_fill_2 : decode cX12_fill 2 = .ok (.putfield 3, 3) := by decide +kernel
theorem dX12_fill_5 : decode cX12_fill 5 = .ok (.aload_n 0, 1) := by decide +kernel
theorem dX12_fill_6 : decode cX12_fill 6 = .ok (.invokevirtual 419, 3) := by decide +kernel
theorem dX12_fill_9 : decode cX12_fill 9 = .ok (.aload_n 0, 1) := by decide +kernel
theorem dX12_fill_10 : decode cX12_fill 10 = .ok (.iload_n 1, 1) := by decide +kernel
theorem dX12_fill_11 : decode cX12_fill 11 = .ok (.invokevirtual 446, 3) := by decide +kernel
theorem dX12_fill_14 : decode cX12_fill 14 = .ok (.ifCond .eq 35, 3) := by decide +kernel
theorem dX12_fill_17 : decode cX12_fill 17 = .ok (.iload_n 2, 1) := by decide +kernel
theorem dX12_fill_18 : decode cX12_fill 18 = .ok (.ifCond .lt 31, 3) := by decide +kernel
theorem dX12_fill_21 : decode cX12_fill 21 = .ok (.iload_n 3, 1) := by decide +kernel
theorem dX12_fill_22 : decode cX12_fill 22 = .ok (.ifCond .lt 27, 3) := by decide +kernel
theorem dX12_fill_25 : decode cX12_fill 25 = .ok (.iload_n 3, 1) := by decide +kernel
theorem dX12_fill_26 : decode cX12_fill 26 = .ok (.sipush 16384, 3) := by decide +kernel
theorem dX12_fill_29 : decode cX12_fill 29 = .ok (.if_icmp .gt 20, 3) := by decide +kernel
theorem dX12_fill_32 : decode cX12_fill 32 = .ok (.iload 4, 2) := by decide +kernel
theorem dX12_fill_34 : decode cX12_fill 34 = .ok (.ifCond .lt 15, 3) := by decide +kernel
theorem dX12_fill_37 : decode cX12_fill 37 = .ok (.iload 4, 2) := by decide +kernel
theorem dX12_fill_39 : decode cX12_fill 39 = .ok (.sipush 255, 3) := by decide +kernel
theorem dX12_fill_42 : decode cX12_fill 42 = .ok (.if_icmp .gt 7, 3) := by decide +kernel
theorem dX12_fill_45 : decode cX12_fill 45 = .ok (.iconst 1, 1) := by decide +kernel
theorem dX12_fill_46 : decode cX12_fill 46 = .ok (.goto 4, 3) := by decide +kernel
theorem dX12_fill_49 : decode cX12_fill 49 = .ok (.iconst 0, 1) := by decide +kernel
theorem dX12_fill_50 : decode cX12_fill 50 = .ok (.istore 5, 2) := by decide +kernel
theorem dX12_fill_52 : decode cX12_fill 52 = .ok (.iload 5, 2) := by decide +kernel
theorem dX12_fill_54 : decode cX12_fill 54 = .ok (.ifCond .eq 15, 3) := by decide +kernel
theorem dX12_fill_57 : decode cX12_fill 57 = .ok (.aload_n 0, 1) := by decide +kernel
theorem dX12_fill_58 : decode cX12_fill 58 = .ok (.iload_n 1, 1) := by decide +kernel
theorem dX12_fill_59 : decode cX12_fill 59 = .ok (.iload_n 2, 1) := by decide +kernel
theorem dX12_fill_60 : decode cX12_fill 60 = .ok (.iload_n 3, 1) := by decide +kernel
theorem dX12_fill_61 : decode cX12_fill 61 = .ok (.iload 4, 2) := by decide +kernel
theorem dX12_fill_63 : decode cX12_fill 63 = .ok (.invokevirtual 451, 3) := by decide +kernel
theorem dX12_fill_66 : decode cX12_fill 66 = .ok (.goto 5, 3) := by decide +kernel
theorem dX12_fill_69 : decode cX12_fill 69 = .ok (.bipush (-9), 2) := by decide +kernel
theorem dX12_fill_71 : decode cX12_fill 71 = .ok (.ireturn, 1) := by decide +kernel
theorem dX12_fill_72 : decode cX12_fill 72 = .ok (.astore 5, 2) := by decide +kernel
theorem dX12_fill_74 : decode cX12_fill 74 = .ok (.aload_n 0, 1) := by decide +kernel
theorem dX12_fill_75 : decode cX12_fill 75 = .ok (.invokevirtual 427, 3) := by decide +kernel
theorem dX12_fill_78 : decode cX12_fill 78 = .ok (.ireturn, 1) := by decide +kernel
set_option maxRecDepth 100000 in
set_option maxHeartbeats 1000000 in
theorem j_X12_fill_71 {p : Program} {l : Launch} {e : Env} {s : State} {m : MethodId} {args : Array Value} {below : List Frame} {meth : Method} {c : Code} {D : va_G} {aC : Nat → ClassId} {b0 fu : Nat} {σ0 τ : tM} {v : Int32}  (C : tCx p l s m args meth c yX12_fill.cls cX12_fill 6 (some .int) D aC b0 σ0) (htab : c.exceptionTable.toList = tableOf [(5, 71, 72, 425)]) (hin : meth.name = yX12_fill.name)  {s0 : Int32} {σ : tM} (hm : J_X12_fill_71 b0 fu  s0 σ = some (v, τ)) : tX p l e s m args below meth c 6 9 200 D aC b0 σ0 (.inl (some (.int v))) τ 71 [] [.int (s0)] σ := by
  unfold J_X12_fill_71 at hm
  obtain ⟨rfl, rfl⟩ := ret_e hm
  exact zx_iret C rfl rfl rfl dX12_fill_71
set_option maxRecDepth 100000 in
set_option maxHeartbeats 1000000 in
theorem j_X12_fill_50 {p : Program} {l : Launch} {e : Env} {s : State} {m : MethodId} {args : Array Value} {below : List Frame} {meth : Method} {c : Code} {D : va_G} {aC : Nat → ClassId} {b0 fu : Nat} {σ0 τ : tM} {v : Int32}  (C : tCx p l s m args meth c yX12_fill.cls cX12_fill 6 (some .int) D aC b0 σ0) (htab : c.exceptionTable.toList = tableOf [(5, 71, 72, 425)]) (hin : meth.name = yX12_fill.name)  {x0 : Nat} {x1 : Int32} {x2 : Int32} {x3 : Int32} {x4 : Int32} {s0 : Int32} {σ : tM} (hm : J_X12_fill_50 b0 fu  x0 x1 x2 x3 x4 s0 σ = some (v, τ)) : tX p l e s m args below meth c 6 9 200 D aC b0 σ0 (.inl (some (.int v))) τ 50 [(0, .ref (x0)), (1, .int (x1)), (2, .int (x2)), (3, .int (x3)), (4, .int (x4))] [.int (s0)] σ := by
  unfold J_X12_fill_50 at hm
  refine zx_istore C [(5, .int (s0)), (0, .ref (x0)), (1, .int (x1)), (2, .int (x2)), (3, .int (x3)), (4, .int (x4))] dX12_fill_50 (by decide) rfl ?_
  refine zx_iload C dX12_fill_52 0 rfl ?_
  refine zx_if_eq C 69 dX12_fill_54 (by decide) (fun c12 => ?_) (fun c12 => ?_)
  · replace hm := ip_e hm c12
    refine zx_bipush (v := (-9)) C dX12_fill_69 (by decide) ?_
    exact zx_lv [] [] rfl (j_X12_fill_71 C htab hin    hm)
  · replace hm := in_e hm c12
    refine zx_aload_n C dX12_fill_57 1 rfl ?_
    refine zx_iload_n C dX12_fill_58 2 rfl ?_
    refine zx_iload_n C dX12_fill_59 3 rfl ?_
    refine zx_iload_n C dX12_fill_60 4 rfl ?_
    refine zx_iload C dX12_fill_61 5 rfl ?_
    obtain ⟨k13, i14, hm⟩ := ckO_e hm
    obtain ⟨v15, ρ16, h17, hm⟩ := cll_e hm
    refine zx_callV (σ := σ) C [.int (x1), .int (x2), .int (x3), .int (x4)] tC_11 k13 i14 Y_X12_bytes W_8_229 W_8_231 Wp_117 (c_X12_bytes h17) (by decide) (by decide) rfl (Nat.le_of_ble_eq_true rfl) dX12_fill_63 rfl ?_
    refine zx_goto C 71 dX12_fill_66 (by decide) ?_
    exact zx_lv [] [] rfl (j_X12_fill_71 C htab hin    hm)
set_option maxRecDepth 100000 in
set_option maxHeartbeats 1000000 in
theorem j_X12_fill_49 {p : Program} {l : Launch} {e : Env} {s : State} {m : MethodId} {args : Array Value} {below : List Frame} {meth : Method} {c : Code} {D : va_G} {aC : Nat → ClassId} {b0 fu : Nat} {σ0 τ : tM} {v : Int32}  (C : tCx p l s m args meth c yX12_fill.cls cX12_fill 6 (some .int) D aC b0 σ0) (htab : c.exceptionTable.toList = tableOf [(5, 71, 72, 425)]) (hin : meth.name = yX12_fill.name)  {x0 : Nat} {x1 : Int32} {x2 : Int32} {x3 : Int32} {x4 : Int32} {σ : tM} (hm : J_X12_fill_49 b0 fu  x0 x1 x2 x3 x4 σ = some (v, τ)) : tX p l e s m args below meth c 6 9 200 D aC b0 σ0 (.inl (some (.int v))) τ 49 [(0, .ref (x0)), (1, .int (x1)), (2, .int (x2)), (3, .int (x3)), (4, .int (x4))] [] σ := by
  unfold J_X12_fill_49 at hm
  refine zx_iconst (v := 0) C dX12_fill_49 (by decide) ?_
  exact zx_lv [0, 1, 2, 3, 4] [(0, .ref (x0)), (1, .int (x1)), (2, .int (x2)), (3, .int (x3)), (4, .int (x4))] rfl (j_X12_fill_50 C htab hin    hm)
set_option maxRecDepth 100000 in
set_option maxHeartbeats 1000000 in
theorem c_X12_fill {l : Launch} {D : va_G} {aC : Nat → ClassId} {b0 fu : Nat} {a0 : Nat} {p0 : Int32} {p1 : Int32} {p2 : Int32} {p3 : Int32} {σ τ : tM} {v : Int32} (hm : m_X12_fill b0 fu a0 p0 p1 p2 p3 σ = some (v, τ)) : tMt l D aC b0 yX12_fill (Cond.codeWith yX12_fill cX12_fill 6 (some .int) [(5, 71, 72, 425)]) 9 200 [.ref (a0), .int (p0), .int (p1), .int (p2), .int (p3)] σ (.inl (some (.int v))) τ := by
  unfold m_X12_fill at hm
  obtain ⟨hg, hm⟩ := grw_e hm
  refine tMt_ofH rfl (Nat.le_of_ble_eq_true rfl) hg ?_
  intro p e s m below meth c C htab hin
  refine zx_lv [0, 1, 2, 3, 4] [(0, .ref (a0)), (1, .int (p0)), (2, .int (p1)), (3, .int (p2)), (4, .int (p3))] rfl ?_
  refine zx_aload_n C dX12_fill_0 0 rfl ?_
  refine zx_iconst (v := 0) C dX12_fill_1 (by decide) ?_
  obtain ⟨k1, i2, hm⟩ := ckO_e hm
  refine zx_put (j := 0) (ρ := sI (σ) (a0) 0 (0)) C tC_11 k1 i2 ⟨by decide, Or.inl W_6_220⟩ rfl rfl rfl (sI_ok (fun _ => rfl)) dX12_fill_2 ?_
  refine zx_aload_n C dX12_fill_5 0 rfl ?_
  rcases cly_e hm with ⟨v3, ρ4, h5, hm⟩ | ⟨ρ24, h5, hm⟩
  · refine zx_callV (σ := sI (σ) (a0) 0 (0)) C [] tC_11 k1 i2 Y_X12_upAhead W_7_175 W_7_177 Wp_56 (c_X12_upAhead h5) (by decide) (by decide) rfl (Nat.le_of_ble_eq_true rfl) dX12_fill_6 rfl ?_
    refine zx_aload_n C dX12_fill_9 0 rfl ?_
    refine zx_iload_n C dX12_fill_10 1 rfl ?_
    obtain ⟨k6, i7, hm⟩ := ckO_e hm
    obtain ⟨v8, ρ9, h10, hm⟩ := cll_e hm
    refine zx_callV (σ := ρ4) C [.int (p0)] tC_11 k6 i7 Y_X12_isHandle W_8_221 W_8_223 Wp_116 (c_X12_isHandle h10) (by decide) (by decide) rfl (Nat.le_of_ble_eq_true rfl) dX12_fill_11 rfl ?_
    refine zx_if_eq C 49 dX12_fill_14 (by decide) (fun c11 => ?_) (fun c11 => ?_)
    · replace hm := ip_e hm c11
      exact zx_lv [0, 1, 2, 3, 4] [(0, .ref (a0)), (1, .int (p0)), (2, .int (p1)), (3, .int (p2)), (4, .int (p3))] rfl (j_X12_fill_49 C htab hin    hm)
    · replace hm := in_e hm c11
      refine zx_iload_n C dX12_fill_17 2 rfl ?_
      refine zx_if_lt C 49 dX12_fill_18 (by decide) (fun c18 => ?_) (fun c18 => ?_)
      · replace hm := ip_e hm c18
        exact zx_lv [0, 1, 2, 3, 4] [(0, .ref (a0)), (1, .int (p0)), (2, .int (p1)), (3, .int (p2)), (4, .int (p3))] rfl (j_X12_fill_49 C htab hin    hm)
      · replace hm := in_e hm c18
        refine zx_iload_n C dX12_fill_21 3 rfl ?_
        refine zx_if_lt C 49 dX12_fill_22 (by decide) (fun c19 => ?_) (fun c19 => ?_)
        · replace hm := ip_e hm c19
          exact zx_lv [0, 1, 2, 3, 4] [(0, .ref (a0)), (1, .int (p0)), (2, .int (p1)), (3, .int (p2)), (4, .int (p3))] rfl (j_X12_fill_49 C htab hin    hm)
        · replace hm := in_e hm c19
          refine zx_iload_n C dX12_fill_25 3 rfl ?_
          refine zx_sipush (v := 16384) C dX12_fill_26 (by decide) ?_
          refine zx_icmp_gt C 49 dX12_fill_29 (by decide) (fun c20 => ?_) (fun c20 => ?_)
          · replace hm := ip_e hm c20
            exact zx_lv [0, 1, 2, 3, 4] [(0, .ref (a0)), (1, .int (p0)), (2, .int (p1)), (3, .int (p2)), (4, .int (p3))] rfl (j_X12_fill_49 C htab hin    hm)
          · replace hm := in_e hm c20
            refine zx_iload C dX12_fill_32 4 rfl ?_
            refine zx_if_lt C 49 dX12_fill_34 (by decide) (fun c21 => ?_) (fun c21 => ?_)
            · replace hm := ip_e hm c21
              exact zx_lv [0, 1, 2, 3, 4] [(0, .ref (a0)), (1, .int (p0)), (2, .int (p1)), (3, .int (p2)), (4, .int (p3))] rfl (j_X12_fill_49 C htab hin    hm)
            · replace hm := in_e hm c21
              refine zx_iload C dX12_fill_37 4 rfl ?_
              refine zx_sipush (v := 255) C dX12_fill_39 (by decide) ?_
              refine zx_icmp_gt C 49 dX12_fill_42 (by decide) (fun c22 => ?_) (fun c22 => ?_)
              · replace hm := ip_e hm c22
                exact zx_lv [0, 1, 2, 3, 4] [(0, .ref (a0)), (1, .int (p0)), (2, .int (p1)), (3, .int (p2)), (4, .int (p3))] rfl (j_X12_fill_49 C htab hin    hm)
              · replace hm := in_e hm c22
                refine zx_iconst (v := 1) C dX12_fill_45 (by decide) ?_
                refine zx_goto C 50 dX12_fill_46 (by decide) ?_
                exact zx_lv [0, 1, 2, 3, 4] [(0, .ref (a0)), (1, .int (p0)), (2, .int (p1)), (3, .int (p2)), (4, .int (p3))] rfl (j_X12_fill_50 C htab hin    hm)
  · refine zx_catchV (σ := sI (σ) (a0) 0 (0)) (x9 := { startPc := 5, endPc := 71, handlerPc := 72, catchType := 425 }) C (tableOf []) (tableOf []) htab (by decide) (by decide) (by decide) (E := "SyncTreeModel$Off") W_7_174 W_9_132 [] tC_11 k1 i2 Y_X12_upAhead W_7_175 W_7_177 Wp_56 (c_X12_upAhead h5) (by decide) (by decide) rfl (Nat.le_of_ble_eq_true rfl) dX12_fill_6 rfl (fun q23 => ?_)
    refine zx_astore C [(5, .ref (q23)), (0, .ref (a0)), (1, .int (p0)), (2, .int (p1)), (3, .int (p2)), (4, .int (p3))] dX12_fill_72 (by decide) rfl ?_
    refine zx_aload_n C dX12_fill_74 1 rfl ?_
    obtain ⟨k25, i26, hm⟩ := ckO_e hm
    obtain ⟨v27, ρ28, h29, hm⟩ := cll_e hm
    refine zx_callV (σ := ρ24) C [] tC_11 k25 i26 Y_X12_off W_8_135 W_8_137 Wp_103 (c_X12_off h29) (by decide) (by decide) rfl (Nat.le_of_ble_eq_true rfl) dX12_fill_75 rfl ?_
    obtain ⟨rfl, rfl⟩ := ret_e hm
    exact zx_iret C rfl rfl rfl dX12_fill_78
abbrev cX12_truncate : ByteArray := prog_13_method_90_code
def yX12_truncate : MethodName := ⟨"SyncTreeModel", "truncate", "(II)I"⟩
theorem Y_X12_truncate : tYH yX12_truncate cX12_truncate 4 (some .int) [(5, 23, 47, 425), (24, 33, 47, 425), (34, 46, 47, 425)] 2 := ⟨W_9_1, W_1_14, ⟨by decide +kernel, by decide +kernel⟩, by decide +kernel⟩
theorem dX12_truncate_0 : decode cX12_truncate 0 = .ok (.aload_n 0, 1) := by decide +kernel
theorem dX12_truncate_1 : decode cX12_truncate 1 = .ok (.iconst 0, 1) := by decide +kernel
theorem dX12_truncate_2 : decode cX12_truncate 2 = .ok (.putfield 3, 3) := by decide +kernel
theorem dX12_truncate_5 : decode cX12_truncate 5 = .ok (.aload_n 0, 1) := by decide +kernel
theorem dX12_truncate_6 : decode cX12_truncate 6 = .ok (.invokevirtual 419, 3) := by decide +kernel
theorem dX12_truncate_9 : decode cX12_truncate 9 = .ok (.aload_n 0, 1) := by decide +kernel
theorem dX12_truncate_10 : decode cX12_truncate 10 = .ok (.iload_n 1, 1) := by decide +kernel
theorem dX12_truncate_11 : decode cX12_truncate 11 = .ok (.invokevirtual 446, 3) := by decide +kernel
theorem dX12_truncate_14 : decode cX12_truncate 14 = .ok (.ifCond .eq 7, 3) := by decide +kernel
theorem dX12_truncate_17 : decode cX12_truncate 17 = .ok (.iload_n 2, 1) := by decide +kernel
theorem dX12_truncate_18 : decode cX12_truncate 18 = .ok (.ifCond .ge 6, 3) := by decide +kernel
theorem dX12_truncate_21 : decode cX12_truncate 21 = .ok (.bipush (-9), 2) := by decide +kernel
theorem dX12_truncate_23 : decode cX12_truncate 23 = .ok (.ireturn, 1) := by decide +kernel
theorem dX12_truncate_24 : decode cX12_truncate 24 = .ok (.iload_n 2, 1) := by decide +kernel
theorem dX12_truncate_25 : decode cX12_truncate 25 = .ok (.ldc_w 282, 3) := by decide +kernel
theorem dX12_truncate_28 : decode cX12_truncate 28 = .ok (.if_icmp .le 6, 3) := by decide +kernel
theorem dX12_truncate_31 : decode cX12_truncate 31 = .ok (.bipush (-7), 2) := by decide +kernel
theorem dX12_truncate_33 : decode cX12_truncate 33 = .ok (.ireturn, 1) := by decide +kernel
theorem dX12_truncate_34 : decode cX12_truncate 34 = .ok (.aload_n 0, 1) := by decide +kernel
theorem dX12_truncate_35 : decode cX12_truncate 35 = .ok (.aload_n 0, 1) := by decide +kernel
theorem dX12_truncate_36 : decode cX12_truncate 36 = .ok (.getfield 286, 3) := by decide +kernel
theorem dX12_truncate_39 : decode cX12_truncate 39 = .ok (.iload_n 1, 1) := by decide +kernel
theorem dX12_truncate_40 : decode cX12_truncate 40 = .ok (.iaload, 1) := by decide +kernel
theorem dX12_truncate_41 : decode cX12_truncate 41 = .ok (.iload_n 2, 1) := by decide +kernel
theorem dX12_truncate_42 : decode cX12_truncate 42 = .ok (.invokevirtual 292, 3) := by decide +kernel
theorem dX12_truncate_45 : decode cX12_truncate 45 = .ok (.iconst 0, 1) := by decide +kernel
theorem dX12_truncate_46 : decode cX12_truncate 46 = .ok (.ireturn, 1) := by decide +kernel
theorem dX12_truncate_47 : decode cX12_truncate 47 = .ok (.astore_n 3, 1) := by decide +kernel
theorem dX12_truncate_48 : decode cX12_truncate 48 = .ok (.aload_n 0, 1) := by decide +kernel
theorem dX12_truncate_49 : decode cX12_truncate 49 = .ok (.invokevirtual 427, 3) := by decide +kernel
theorem dX12_truncate_52 : decode cX12_truncate 52 = .ok (.ireturn, 1) := by decide +kernel
set_option maxRecDepth 100000 in
set_option maxHeartbeats 1000000 in
theorem j_X12_truncate_21 {p : Program} {l : Launch} {e : Env} {s : State} {m : MethodId} {args : Array Value} {below : List Frame} {meth : Method} {c : Code} {D : va_G} {aC : Nat → ClassId} {b0 fu : Nat} {σ0 τ : tM} {v : Int32}  (C : tCx p l s m args meth c yX12_truncate.cls cX12_truncate 4 (some .int) D aC b0 σ0) (htab : c.exceptionTable.toList = tableOf [(5, 23, 47, 425), (24, 33, 47, 425), (34, 46, 47, 425)]) (hin : meth.name = yX12_truncate.name)   {σ : tM} (hm : J_X12_truncate_21 b0 fu   σ = some (v, τ)) : tX p l e s m args below meth c 4 9 200 D aC b0 σ0 (.inl (some (.int v))) τ 21 [] [] σ := by
  unfold J_X12_truncate_21 at hm
  refine zx_bipush (v := (-9)) C dX12_truncate_21 (by decide) ?_
  obtain ⟨rfl, rfl⟩ := ret_e hm
  exact zx_iret C rfl rfl rfl dX12_truncate_23
set_option maxRecDepth 100000 in
set_option maxHeartbeats 1000000 in
theorem c_X12_truncate {l : Launch} {D : va_G} {aC : Nat → ClassId} {b0 fu : Nat} {a0 : Nat} {p0 : Int32} {p1 : Int32} {σ τ : tM} {v : Int32} (hm : m_X12_truncate b0 fu a0 p0 p1 σ = some (v, τ)) : tMt l D aC b0 yX12_truncate (Cond.codeWith yX12_truncate cX12_truncate 4 (some .int) [(5, 23, 47, 425), (24, 33, 47, 425), (34, 46, 47, 425)]) 9 200 [.ref (a0), .int (p0), .int (p1)] σ (.inl (some (.int v))) τ := by
  unfold m_X12_truncate at hm
  obtain ⟨hg, hm⟩ := grw_e hm
  refine tMt_ofH rfl (Nat.le_of_ble_eq_true rfl) hg ?_
  intro p e s m below meth c C htab hin
  refine zx_lv [0, 1, 2] [(0, .ref (a0)), (1, .int (p0)), (2, .int (p1))] rfl ?_
  refine zx_aload_n C dX12_truncate_0 0 rfl ?_
  refine zx_iconst (v := 0) C dX12_truncate_1 (by decide) ?_
  obtain ⟨k1, i2, hm⟩ := ckO_e hm
  refine zx_put (j := 0) (ρ := sI (σ) (a0) 0 (0)) C tC_11 k1 i2 ⟨by decide, Or.inl W_6_220⟩ rfl rfl rfl (sI_ok (fun _ => rfl)) dX12_truncate_2 ?_
  refine zx_aload_n C dX12_truncate_5 0 rfl ?_
  rcases cly_e hm with ⟨v3, ρ4, h5, hm⟩ | ⟨ρ26, h5, hm⟩
  · refine zx_callV (σ := sI (σ) (a0) 0 (0)) C [] tC_11 k1 i2 Y_X12_upAhead W_7_175 W_7_177 Wp_56 (c_X12_upAhead h5) (by decide) (by decide) rfl (Nat.le_of_ble_eq_true rfl) dX12_truncate_6 rfl ?_
    refine zx_aload_n C dX12_truncate_9 0 rfl ?_
    refine zx_iload_n C dX12_truncate_10 1 rfl ?_
    obtain ⟨k6, i7, hm⟩ := ckO_e hm
    obtain ⟨v8, ρ9, h10, hm⟩ := cll_e hm
    refine zx_callV (σ := ρ4) C [.int (p0)] tC_11 k6 i7 Y_X12_isHandle W_8_221 W_8_223 Wp_116 (c_X12_isHandle h10) (by decide) (by decide) rfl (Nat.le_of_ble_eq_true rfl) dX12_truncate_11 rfl ?_
    refine zx_if_eq C 21 dX12_truncate_14 (by decide) (fun c11 => ?_) (fun c11 => ?_)
    · replace hm := ip_e hm c11
      exact zx_lv [] [] rfl (j_X12_truncate_21 C htab hin    hm)
    · replace hm := in_e hm c11
      refine zx_iload_n C dX12_truncate_17 2 rfl ?_
      refine zx_if_ge C 24 dX12_truncate_18 (by decide) (fun c12 => ?_) (fun c12 => ?_)
      · replace hm := ip_e hm c12
        refine zx_iload_n C dX12_truncate_24 2 rfl ?_
        refine zx_ldcw (v := 272384) C W_8_196 dX12_truncate_25 ?_
        refine zx_icmp_le C 34 dX12_truncate_28 (by decide) (fun c13 => ?_) (fun c13 => ?_)
        · replace hm := ip_e hm c13
          refine zx_aload_n C dX12_truncate_34 0 rfl ?_
          refine zx_aload_n C dX12_truncate_35 0 rfl ?_
          obtain ⟨k14, i15, hm⟩ := ckO_e hm
          obtain ⟨a16, h17, hm⟩ := osm_e hm
          refine zx_get (j := 58) C tC_11 k14 i15 ⟨by decide, Or.inl W_7_37⟩ dX12_truncate_36 (.ref a16) (rf_s h17) ?_
          refine zx_iload_n C dX12_truncate_39 1 rfl ?_
          obtain ⟨n20, k18, i19, hm⟩ := ckR_e hm
          obtain ⟨h21, hm⟩ := ckI_e hm
          refine zx_iald C k18 i19 h21 dX12_truncate_40 ?_
          refine zx_iload_n C dX12_truncate_41 2 rfl ?_
          obtain ⟨v22, ρ23, h24, hm⟩ := cll_e hm
          refine zx_callV (σ := ρ9) C [.int (tI (ρ9) (a16) ((p0).toNatClampNeg)), .int (p1)] tC_11 k14 i15 Y_X12_setSize W_8_191 W_8_193 Wp_113 (c_X12_setSize h24) (by decide) (by decide) rfl (Nat.le_of_ble_eq_true rfl) dX12_truncate_42 rfl ?_
          refine zx_iconst (v := 0) C dX12_truncate_45 (by decide) ?_
          obtain ⟨rfl, rfl⟩ := ret_e hm
          exact zx_iret C rfl rfl rfl dX12_truncate_46
        · replace hm := in_e hm c13
          refine zx_bipush (v := (-7)) C dX12_truncate_31 (by decide) ?_
          obtain ⟨rfl, rfl⟩ := ret_e hm
          exact zx_iret C rfl rfl rfl dX12_truncate_33
      · replace hm := in_e hm c12
        exact zx_lv [] [] rfl (j_X12_truncate_21 C htab hin    hm)
  · refine zx_catchV (σ := sI (σ) (a0) 0 (0)) (x9 := { startPc := 5, endPc := 23, handlerPc := 47, catchType := 425 }) C (tableOf []) (tableOf [(24, 33, 47, 425), (34, 46, 47, 425)]) htab (by decide) (by decide) (by decide) (E := "SyncTreeModel$Off") W_7_174 W_9_132 [] tC_11 k1 i2 Y_X12_upAhead W_7_175 W_7_177 Wp_56 (c_X12_upAhead h5) (by decide) (by decide) rfl (Nat.le_of_ble_eq_true rfl) dX12_truncate_6 rfl (fun q25 => ?_)
    refine zx_astore_n C [(3, .ref (q25)), (0, .ref (a0)), (1, .int (p0)), (2, .int (p1))] dX12_truncate_47 rfl (by decide) rfl ?_
    refine zx_aload_n C dX12_truncate_48 1 rfl ?_
    obtain ⟨k27, i28, hm⟩ := ckO_e hm
    obtain ⟨v29, ρ30, h31, hm⟩ := cll_e hm
    refine zx_callV (σ := ρ26) C [] tC_11 k27 i28 Y_X12_off W_8_135 W_8_137 Wp_103 (c_X12_off h31) (by decide) (by decide) rfl (Nat.le_of_ble_eq_true rfl) dX12_truncate_49 rfl ?_
    obtain ⟨rfl, rfl⟩ := ret_e hm
    exact zx_iret C rfl rfl rfl dX12_truncate_52
