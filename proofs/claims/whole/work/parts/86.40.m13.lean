abbrev cX12_make : ByteArray := prog_13_method_73_code
def yX12_make : MethodName := ⟨"SyncTreeModel", "make", "(I)I"⟩
theorem Y_X12_make : tY yX12_make cX12_make 4 (some .int) 1 := ⟨W_8_23, W_1_14, ⟨by decide +kernel, by decide +kernel⟩, by decide +kernel⟩
theorem dX12_make_0 : decode cX12_make 0 = .ok (.aload_n 0, 1) := by decide +kernel
theorem dX12_make_1 : decode cX12_make 1 = .ok (.iconst 0, 1) := by decide +kernel
theorem dX12_make_2 : decode cX12_make 2 = .ok (.invokevirtual 409, 3) := by decide +kernel
theorem dX12_make_5 : decode cX12_make 5 = .ok (.istore_n 2, 1) := by decide +kernel
theorem dX12_make_6 : decode cX12_make 6 = .ok (.iload_n 2, 1) := by decide +kernel
theorem dX12_make_7 : decode cX12_make 7 = .ok (.ifCond .ge 5, 3) := by decide +kernel
theorem dX12_make_10 : decode cX12_make 10 = .ok (.iload_n 2, 1) := by decide +kernel
theorem dX12_make_11 : decode cX12_make 11 = .ok (.ireturn, 1) := by decide +kernel
theorem dX12_make_12 : decode cX12_make 12 = .ok (.aload_n 0, 1) := by decide +kernel
theorem dX12_make_13 : decode cX12_make 13 = .ok (.iload_n 2, 1) := by decide +kernel
theorem dX12_make_14 : decode cX12_make 14 = .ok (.aload_n 0, 1) := by decide +kernel
theorem dX12_make_15 : decode cX12_make 15 = .ok (.getfield 358, 3) := by decide +kernel
theorem dX12_make_18 : decode cX12_make 18 = .ok (.iconst 0, 1) := by decide +kernel
theorem dX12_make_19 : decode cX12_make 19 = .ok (.aload_n 0, 1) := by decide +kernel
theorem dX12_make_20 : decode cX12_make 20 = .ok (.getfield 355, 3) := by decide +kernel
theorem dX12_make_23 : decode cX12_make 23 = .ok (.invokevirtual 339, 3) := by decide +kernel
theorem dX12_make_26 : decode cX12_make 26 = .ok (.ifCond .lt 6, 3) := by decide +kernel
theorem dX12_make_29 : decode cX12_make 29 = .ok (.bipush (-2), 2) := by decide +kernel
theorem dX12_make_31 : decode cX12_make 31 = .ok (.ireturn, 1) := by decide +kernel
theorem dX12_make_32 : decode cX12_make 32 = .ok (.aload_n 0, 1) := by decide +kernel
theorem dX12_make_33 : decode cX12_make 33 = .ok (.getfield 355, 3) := by decide +kernel
theorem dX12_make_36 : decode cX12_make 36 = .ok (.bipush 28, 2) := by decide +kernel
theorem dX12_make_38 : decode cX12_make 38 = .ok (.if_icmp .le 6, 3) := by decide +kernel
theorem dX12_make_41 : decode cX12_make 41 = .ok (.bipush (-7), 2) := by decide +kernel
theorem dX12_make_43 : decode cX12_make 43 = .ok (.ireturn, 1) := by decide +kernel
theorem dX12_make_44 : decode cX12_make 44 = .ok (.iconst 0, 1) := by decide +kernel
theorem dX12_make_45 : decode cX12_make 45 = .ok (.istore_n 3, 1) := by decide +kernel
theorem dX12_make_46 : decode cX12_make 46 = .ok (.iload_n 3, 1) := by decide +kernel
theorem dX12_make_47 : decode cX12_make 47 = .ok (.bipush 64, 2) := by decide +kernel
theorem dX12_make_49 : decode cX12_make 49 = .ok (.if_icmp .ge 18, 3) := by decide +kernel
theorem dX12_make_52 : decode cX12_make 52 = .ok (.aload_n 0, 1) := by decide +kernel
theorem dX12_make_53 : decode cX12_make 53 = .ok (.iload_n 3, 1) := by decide +kernel
theorem dX12_make_54 : decode cX12_make 54 = .ok (.iconst 0, 1) := by decide +kernel
theorem dX12_make_55 : decode cX12_make 55 = .ok (.invokevirtual 247, 3) := by decide +kernel
theorem dX12_make_58 : decode cX12_make 58 = .ok (.ifCond .eq 9, 3) := by decide +kernel
theorem dX12_make_61 : decode cX12_make 61 = .ok (.iinc 3 1, 3) := by decide +kernel
theorem dX12_make_64 : decode cX12_make 64 = .ok (.goto (-18), 3) := by decide +kernel
theorem dX12_make_67 : decode cX12_make 67 = .ok (.iload_n 3, 1) := by decide +kernel
theorem dX12_make_68 : decode cX12_make 68 = .ok (.bipush 64, 2) := by decide +kernel
theorem dX12_make_70 : decode cX12_make 70 = .ok (.if_icmp .ne 6, 3) := by decide +kernel
theorem dX12_make_73 : decode cX12_make 73 = .ok (.bipush (-10), 2) := by decide +kernel
theorem dX12_make_75 : decode cX12_make 75 = .ok (.ireturn, 1) := by decide +kernel
theorem dX12_make_76 : decode cX12_make 76 = .ok (.aload_n 0, 1) := by decide +kernel
theorem dX12_make_77 : decode cX12_make 77 = .ok (.iload_n 2, 1) := by decide +kernel
theorem dX12_make_78 : decode cX12_make 78 = .ok (.invokevirtual 412, 3) := by decide +kernel
theorem dX12_make_81 : decode cX12_make 81 = .ok (.ifCond .eq 6, 3) := by decide +kernel
theorem dX12_make_84 : decode cX12_make 84 = .ok (.bipush (-6), 2) := by decide +kernel
theorem dX12_make_86 : decode cX12_make 86 = .ok (.ireturn, 1) := by decide +kernel
theorem dX12_make_87 : decode cX12_make 87 = .ok (.aload_n 0, 1) := by decide +kernel
theorem dX12_make_88 : decode cX12_make 88 = .ok (.iload_n 3, 1) := by decide +kernel
theorem dX12_make_89 : decode cX12_make 89 = .ok (.iconst 0, 1) := by decide +kernel
theorem dX12_make_90 : decode cX12_make 90 = .ok (.iload_n 1, 1) := by decide +kernel
theorem dX12_make_91 : decode cX12_make 91 = .ok (.invokevirtual 266, 3) := by decide +kernel
theorem dX12_make_94 : decode cX12_make 94 = .ok (.aload_n 0, 1) := by decide +kernel
theorem dX12_make_95 : decode cX12_make 95 = .ok (.iload_n 3, 1) := by decide +kernel
theorem dX12_make_96 : decode cX12_make 96 = .ok (.iconst 1, 1) := by decide +kernel
theorem dX12_make_97 : decode cX12_make 97 = .ok (.iconst 0, 1) := by decide +kernel
theorem dX12_make_98 : decode cX12_make 98 = .ok (.invokevirtual 266, 3) := by decide +kernel
theorem dX12_make_101 : decode cX12_make 101 = .ok (.aload_n 0, 1) := by decide +kernel
theorem dX12_make_102 : decode cX12_make 102 = .ok (.iload_n 3, 1) := by decide +kernel
theorem dX12_make_103 : decode cX12_make 103 = .ok (.iconst 2, 1) := by decide +kernel
theorem dX12_make_104 : decode cX12_make 104 = .ok (.iload_n 1, 1) := by decide +kernel
theorem dX12_make_105 : decode cX12_make 105 = .ok (.iconst 2, 1) := by decide +kernel
theorem dX12_make_106 : decode cX12_make 106 = .ok (.if_icmp .ne 7, 3) := by decide +kernel
theorem dX12_make_109 : decode cX12_make 109 = .ok (.iconst 0, 1) := by decide +kernel
theorem dX12_make_110 : decode cX12_make 110 = .ok (.goto 4, 3) := by decide +kernel
theorem dX12_make_113 : decode cX12_make 113 = .ok (.iconst 1, 1) := by decide +kernel
theorem dX12_make_114 : decode cX12_make 114 = .ok (.invokevirtual 266, 3) := by decide +kernel
theorem dX12_make_117 : decode cX12_make 117 = .ok (.aload_n 0, 1) := by decide +kernel
theorem dX12_make_118 : decode cX12_make 118 = .ok (.iload_n 3, 1) := by decide +kernel
theorem dX12_make_119 : decode cX12_make 119 = .ok (.iconst 3, 1) := by decide +kernel
theorem dX12_make_120 : decode cX12_make 120 = .ok (.iload_n 1, 1) := by decide +kernel
theorem dX12_make_121 : decode cX12_make 121 = .ok (.iconst 2, 1) := by decide +kernel
theorem dX12_make_122 : decode cX12_make 122 = .ok (.if_icmp .ne 7, 3) := by decide +kernel
theorem dX12_make_125 : decode cX12_make 125 = .ok (.iload_n 2, 1) := by decide +kernel
theorem dX12_make_126 : decode cX12_make 126 = .ok (.goto 4, 3) := by decide +kernel
theorem dX12_make_129 : decode cX12_make 129 = .ok (.iconst 0, 1) := by decide +kernel
theorem dX12_make_130 : decode cX12_make 130 = .ok (.invokevirtual 266, 3) := by decide +kernel
theorem dX12_make_133 : decode cX12_make 133 = .ok (.aload_n 0, 1) := by decide +kernel
theorem dX12_make_134 : decode cX12_make 134 = .ok (.getfield 193, 3) := by decide +kernel
theorem dX12_make_137 : decode cX12_make 137 = .ok (.iload_n 3, 1) := by decide +kernel
theorem dX12_make_138 : decode cX12_make 138 = .ok (.iconst 0, 1) := by decide +kernel
theorem dX12_make_139 : decode cX12_make 139 = .ok (.bastore, 1) := by decide +kernel
theorem dX12_make_140 : decode cX12_make 140 = .ok (.aload_n 0, 1) := by decide +kernel
theorem dX12_make_141 : decode cX12_make 141 = .ok (.iload_n 2, 1) := by decide +kernel
theorem dX12_make_142 : decode cX12_make 142 = .ok (.aload_n 0, 1) := by decide +kernel
theorem dX12_make_143 : decode cX12_make 143 = .ok (.getfield 358, 3) := by decide +kernel
theorem dX12_make_146 : decode cX12_make 146 = .ok (.aload_n 0, 1) := by decide +kernel
theorem dX12_make_147 : decode cX12_make 147 = .ok (.getfield 355, 3) := by decide +kernel
theorem dX12_make_150 : decode cX12_make 150 = .ok (.iload_n 3, 1) := by decide +kernel
theorem dX12_make_151 : decode cX12_make 151 = .ok (.invokevirtual 415, 3) := by decide +kernel
theorem dX12_make_154 : decode cX12_make 154 = .ok (.iload_n 3, 1) := by decide +kernel
theorem dX12_make_155 : decode cX12_make 155 = .ok (.ireturn, 1) := by decide +kernel
set_option maxRecDepth 100000 in
set_option maxHeartbeats 1000000 in
theorem j_X12_make_130 {p : Program} {l : Launch} {e : Env} {s : State} {m : MethodId} {args : Array Value} {below : List Frame} {meth : Method} {c : Code} {D : va_G} {aC : Nat → ClassId} {b0 fu : Nat} {σ0 τ : tM} {v : Int32}  (C : tCx p l s m args meth c yX12_make.cls cX12_make 4 (some .int) D aC b0 σ0) (htab : ∀ x ∈ c.exceptionTable.toList, False) (hin : meth.name = yX12_make.name)  {x0 : Nat} {x2 : Int32} {x3 : Int32} {s0 : Nat} {s1 : Int32} {s2 : Int32} {s3 : Int32} {σ : tM} (hm : J_X12_make_130 b0 fu  x0 x2 x3 s0 s1 s2 s3 σ = some (v, τ)) : tX p l e s m args below meth c 4 9 219 D aC b0 σ0 (.inl (some (.int v))) τ 130 [(0, .ref (x0)), (2, .int (x2)), (3, .int (x3))] [.int (s3), .int (s2), .int (s1), .ref (s0)] σ := by
  unfold J_X12_make_130 at hm
  obtain ⟨k43, i44, hm⟩ := ckO_e hm
  obtain ⟨v45, ρ46, h47, hm⟩ := cll_e hm
  refine zx_callV (σ := σ) C [.int (s1), .int (s2), .int (s3)] tC_11 k43 i44 Y_X12_putNode W_8_99 W_8_101 Wp_94 (c_X12_putNode h47) (by decide) (by decide) rfl (Nat.le_of_ble_eq_true rfl) dX12_make_130 rfl ?_
  refine zx_aload_n C dX12_make_133 0 rfl ?_
  obtain ⟨k48, i49, hm⟩ := ckO_e hm
  obtain ⟨a50, h51, hm⟩ := osm_e hm
  refine zx_get (j := 25) C tC_11 k48 i49 ⟨by decide, Or.inl W_7_4⟩ dX12_make_134 (.ref a50) (rf_s h51) ?_
  refine zx_iload_n C dX12_make_137 2 rfl ?_
  refine zx_iconst (v := 0) C dX12_make_138 (by decide) ?_
  obtain ⟨n54, k52, i53, hm⟩ := ckR_e hm
  obtain ⟨h55, hm⟩ := ckI_e hm
  refine zx_zast C k52 i53 h55 dX12_make_139 ?_
  refine zx_aload_n C dX12_make_140 0 rfl ?_
  refine zx_iload_n C dX12_make_141 1 rfl ?_
  refine zx_aload_n C dX12_make_142 0 rfl ?_
  obtain ⟨a56, h57, hm⟩ := osm_e hm
  refine zx_get (j := 52) C tC_11 k48 i49 ⟨by decide, Or.inl W_7_31⟩ dX12_make_143 (.ref a56) (rf_s h57) ?_
  refine zx_aload_n C dX12_make_146 0 rfl ?_
  refine zx_get (j := 53) C tC_11 k48 i49 ⟨by decide, Or.inl W_7_32⟩ dX12_make_147 (.int (tI (sI (ρ46) (a50) ((x3).toNatClampNeg) (vp_nar .boolean ((0 : Int32)))) (x0) 53)) rfl ?_
  refine zx_iload_n C dX12_make_150 2 rfl ?_
  obtain ⟨v58, ρ59, h60, hm⟩ := cll_e hm
  refine zx_callV (σ := sI (ρ46) (a50) ((x3).toNatClampNeg) (vp_nar .boolean ((0 : Int32)))) C [.int (x2), .ref (a56), .int (tI (sI (ρ46) (a50) ((x3).toNatClampNeg) (vp_nar .boolean ((0 : Int32)))) (x0) 53), .int (x3)] tC_11 k48 i49 Y_X12_addEntry W_8_111 W_8_113 Wp_97 (c_X12_addEntry h60) (by decide) (by decide) rfl (Nat.le_of_ble_eq_true rfl) dX12_make_151 rfl ?_
  refine zx_iload_n C dX12_make_154 2 rfl ?_
  obtain ⟨rfl, rfl⟩ := ret_e hm
  exact zx_iret C rfl rfl rfl dX12_make_155
set_option maxRecDepth 100000 in
set_option maxHeartbeats 1000000 in
theorem j_X12_make_114 {p : Program} {l : Launch} {e : Env} {s : State} {m : MethodId} {args : Array Value} {below : List Frame} {meth : Method} {c : Code} {D : va_G} {aC : Nat → ClassId} {b0 fu : Nat} {σ0 τ : tM} {v : Int32}  (C : tCx p l s m args meth c yX12_make.cls cX12_make 4 (some .int) D aC b0 σ0) (htab : ∀ x ∈ c.exceptionTable.toList, False) (hin : meth.name = yX12_make.name)  {x0 : Nat} {x1 : Int32} {x2 : Int32} {x3 : Int32} {s0 : Nat} {s1 : Int32} {s2 : Int32} {s3 : Int32} {σ : tM} (hm : J_X12_make_114 b0 fu  x0 x1 x2 x3 s0 s1 s2 s3 σ = some (v, τ)) : tX p l e s m args below meth c 4 9 219 D aC b0 σ0 (.inl (some (.int v))) τ 114 [(0, .ref (x0)), (1, .int (x1)), (2, .int (x2)), (3, .int (x3))] [.int (s3), .int (s2), .int (s1), .ref (s0)] σ := by
  unfold J_X12_make_114 at hm
  obtain ⟨k37, i38, hm⟩ := ckO_e hm
  obtain ⟨v39, ρ40, h41, hm⟩ := cll_e hm
  refine zx_callV (σ := σ) C [.int (s1), .int (s2), .int (s3)] tC_11 k37 i38 Y_X12_putNode W_8_99 W_8_101 Wp_94 (c_X12_putNode h41) (by decide) (by decide) rfl (Nat.le_of_ble_eq_true rfl) dX12_make_114 rfl ?_
  refine zx_aload_n C dX12_make_117 0 rfl ?_
  refine zx_iload_n C dX12_make_118 3 rfl ?_
  refine zx_iconst (v := 3) C dX12_make_119 (by decide) ?_
  refine zx_iload_n C dX12_make_120 1 rfl ?_
  refine zx_iconst (v := 2) C dX12_make_121 (by decide) ?_
  refine zx_icmp_ne C 129 dX12_make_122 (by decide) (fun c42 => ?_) (fun c42 => ?_)
  · replace hm := in_e hm c42
    refine zx_iconst (v := 0) C dX12_make_129 (by decide) ?_
    exact zx_lv [0, 2, 3] [(0, .ref (x0)), (2, .int (x2)), (3, .int (x3))] rfl (j_X12_make_130 C htab hin    hm)
  · replace hm := ip_e hm c42
    refine zx_iload_n C dX12_make_125 2 rfl ?_
    refine zx_goto C 130 dX12_make_126 (by decide) ?_
    exact zx_lv [0, 2, 3] [(0, .ref (x0)), (2, .int (x2)), (3, .int (x3))] rfl (j_X12_make_130 C htab hin    hm)
set_option maxRecDepth 100000 in
set_option maxHeartbeats 1000000 in
theorem j_X12_make_67 {p : Program} {l : Launch} {e : Env} {s : State} {m : MethodId} {args : Array Value} {below : List Frame} {meth : Method} {c : Code} {D : va_G} {aC : Nat → ClassId} {b0 fu : Nat} {σ0 τ : tM} {v : Int32}  (C : tCx p l s m args meth c yX12_make.cls cX12_make 4 (some .int) D aC b0 σ0) (htab : ∀ x ∈ c.exceptionTable.toList, False) (hin : meth.name = yX12_make.name)  {x0 : Nat} {x1 : Int32} {x2 : Int32} {x3 : Int32} {σ : tM} (hm : J_X12_make_67 b0 fu  x0 x1 x2 x3 σ = some (v, τ)) : tX p l e s m args below meth c 4 9 219 D aC b0 σ0 (.inl (some (.int v))) τ 67 [(0, .ref (x0)), (1, .int (x1)), (2, .int (x2)), (3, .int (x3))] [] σ := by
  unfold J_X12_make_67 at hm
  refine zx_iload_n C dX12_make_67 3 rfl ?_
  refine zx_bipush (v := 64) C dX12_make_68 (by decide) ?_
  refine zx_icmp_ne C 76 dX12_make_70 (by decide) (fun c19 => ?_) (fun c19 => ?_)
  · replace hm := in_e hm c19
    refine zx_aload_n C dX12_make_76 0 rfl ?_
    refine zx_iload_n C dX12_make_77 2 rfl ?_
    obtain ⟨k20, i21, hm⟩ := ckO_e hm
    obtain ⟨v22, ρ23, h24, hm⟩ := cll_e hm
    refine zx_callV (σ := σ) C [.int (x2)] tC_11 k20 i21 Y_X12_lacks W_8_79 W_8_81 Wp_89 (c_X12_lacks h24) (by decide) (by decide) rfl (Nat.le_of_ble_eq_true rfl) dX12_make_78 rfl ?_
    refine zx_if_eq C 87 dX12_make_81 (by decide) (fun c25 => ?_) (fun c25 => ?_)
    · replace hm := ip_e hm c25
      refine zx_aload_n C dX12_make_87 0 rfl ?_
      refine zx_iload_n C dX12_make_88 3 rfl ?_
      refine zx_iconst (v := 0) C dX12_make_89 (by decide) ?_
      refine zx_iload_n C dX12_make_90 1 rfl ?_
      obtain ⟨k26, i27, hm⟩ := ckO_e hm
      obtain ⟨v28, ρ29, h30, hm⟩ := cll_e hm
      refine zx_callV (σ := ρ23) C [.int (x3), .int (0), .int (x1)] tC_11 k26 i27 Y_X12_putNode W_8_99 W_8_101 Wp_94 (c_X12_putNode h30) (by decide) (by decide) rfl (Nat.le_of_ble_eq_true rfl) dX12_make_91 rfl ?_
      refine zx_aload_n C dX12_make_94 0 rfl ?_
      refine zx_iload_n C dX12_make_95 3 rfl ?_
      refine zx_iconst (v := 1) C dX12_make_96 (by decide) ?_
      refine zx_iconst (v := 0) C dX12_make_97 (by decide) ?_
      obtain ⟨k31, i32, hm⟩ := ckO_e hm
      obtain ⟨v33, ρ34, h35, hm⟩ := cll_e hm
      refine zx_callV (σ := ρ29) C [.int (x3), .int (1), .int (0)] tC_11 k31 i32 Y_X12_putNode W_8_99 W_8_101 Wp_94 (c_X12_putNode h35) (by decide) (by decide) rfl (Nat.le_of_ble_eq_true rfl) dX12_make_98 rfl ?_
      refine zx_aload_n C dX12_make_101 0 rfl ?_
      refine zx_iload_n C dX12_make_102 3 rfl ?_
      refine zx_iconst (v := 2) C dX12_make_103 (by decide) ?_
      refine zx_iload_n C dX12_make_104 1 rfl ?_
      refine zx_iconst (v := 2) C dX12_make_105 (by decide) ?_
      refine zx_icmp_ne C 113 dX12_make_106 (by decide) (fun c36 => ?_) (fun c36 => ?_)
      · replace hm := in_e hm c36
        refine zx_iconst (v := 1) C dX12_make_113 (by decide) ?_
        exact zx_lv [0, 1, 2, 3] [(0, .ref (x0)), (1, .int (x1)), (2, .int (x2)), (3, .int (x3))] rfl (j_X12_make_114 C htab hin    hm)
      · replace hm := ip_e hm c36
        refine zx_iconst (v := 0) C dX12_make_109 (by decide) ?_
        refine zx_goto C 114 dX12_make_110 (by decide) ?_
        exact zx_lv [0, 1, 2, 3] [(0, .ref (x0)), (1, .int (x1)), (2, .int (x2)), (3, .int (x3))] rfl (j_X12_make_114 C htab hin    hm)
    · replace hm := in_e hm c25
      refine zx_bipush (v := (-6)) C dX12_make_84 (by decide) ?_
      obtain ⟨rfl, rfl⟩ := ret_e hm
      exact zx_iret C rfl rfl rfl dX12_make_86
  · replace hm := ip_e hm c19
    refine zx_bipush (v := (-10)) C dX12_make_73 (by decide) ?_
    obtain ⟨rfl, rfl⟩ := ret_e hm
    exact zx_iret C rfl rfl rfl dX12_make_75
set_option maxRecDepth 100000 in
set_option maxHeartbeats 1000000 in
theorem l_X12_make_46 {p : Program} {l : Launch} {e : Env} {s : State} {m : MethodId} {args : Array Value} {below : List Frame} {meth : Method} {c : Code} {D : va_G} {aC : Nat → ClassId} {b0 fu : Nat} {σ0 τ : tM} {v : Int32}  (C : tCx p l s m args meth c yX12_make.cls cX12_make 4 (some .int) D aC b0 σ0) (htab : ∀ x ∈ c.exceptionTable.toList, False) (hin : meth.name = yX12_make.name)  : ∀ (n : Nat) (x0 : Nat) (x1 : Int32) (x2 : Int32) (x3 : Int32) (σ : tM), L_X12_make_46 b0 fu  n x0 x1 x2 x3 σ = some (v, τ) → tX p l e s m args below meth c 4 9 219 D aC b0 σ0 (.inl (some (.int v))) τ 46 [(0, .ref (x0)), (1, .int (x1)), (2, .int (x2)), (3, .int (x3))] [] σ := by
  intro n
  induction n with
  | zero => intro x0 x1 x2 x3 σ hm; unfold L_X12_make_46 at hm; cases hm
  | succ n ih =>
    intro x0 x1 x2 x3 σ hm
    unfold L_X12_make_46 at hm
    obtain ⟨rc46, hrc⟩ : ∃ z, z = L_X12_make_46 b0 fu  n := ⟨_, rfl⟩
    replace hm := ltb_e hm hrc
    rw [← hrc] at ih
    have hrc46 := ih
    clear ih hrc
    refine zx_iload_n C dX12_make_46 3 rfl ?_
    refine zx_bipush (v := 64) C dX12_make_47 (by decide) ?_
    refine zx_icmp_ge C 67 dX12_make_49 (by decide) (fun c18 => ?_) (fun c18 => ?_)
    · replace hm := ip_e hm c18
      exact zx_lv [0, 1, 2, 3] [(0, .ref (x0)), (1, .int (x1)), (2, .int (x2)), (3, .int (x3))] rfl (j_X12_make_67 C htab hin    hm)
    · replace hm := in_e hm c18
      refine zx_aload_n C dX12_make_52 0 rfl ?_
      refine zx_iload_n C dX12_make_53 3 rfl ?_
      refine zx_iconst (v := 0) C dX12_make_54 (by decide) ?_
      obtain ⟨k61, i62, hm⟩ := ckO_e hm
      obtain ⟨v63, ρ64, h65, hm⟩ := cll_e hm
      refine zx_callV (σ := σ) C [.int (x3), .int (0)] tC_11 k61 i62 Y_X12_node W_8_40 W_8_42 Wp_80 (c_X12_node h65) (by decide) (by decide) rfl (Nat.le_of_ble_eq_true rfl) dX12_make_55 rfl ?_
      refine zx_if_eq C 67 dX12_make_58 (by decide) (fun c66 => ?_) (fun c66 => ?_)
      · replace hm := ip_e hm c66
        exact zx_lv [0, 1, 2, 3] [(0, .ref (x0)), (1, .int (x1)), (2, .int (x2)), (3, .int (x3))] rfl (j_X12_make_67 C htab hin    hm)
      · replace hm := in_e hm c66
        obtain ⟨y67, hy67⟩ : ∃ z : Int32, z = (x3) + Int32.ofInt 1 := ⟨_, rfl⟩
        replace hm := ltb_e hm hy67
        refine zx_iinc C [(3, .int (y67)), (0, .ref (x0)), (1, .int (x1)), (2, .int (x2))] dX12_make_61 3 rfl hy67.symm (by decide) rfl ?_
        refine zx_goto C 46 dX12_make_64 (by decide) ?_
        exact zx_lv [1, 2, 3, 0] [(0, .ref (x0)), (1, .int (x1)), (2, .int (x2)), (3, .int (y67))] rfl (hrc46 _ _ _ _ _ hm)
set_option maxRecDepth 100000 in
set_option maxHeartbeats 1000000 in
theorem c_X12_make {l : Launch} {D : va_G} {aC : Nat → ClassId} {b0 fu : Nat} {a0 : Nat} {p0 : Int32} {σ τ : tM} {v : Int32} (hm : m_X12_make b0 fu a0 p0 σ = some (v, τ)) : tMt l D aC b0 yX12_make (Cond.code yX12_make cX12_make 4 (some .int)) 9 219 [.ref (a0), .int (p0)] σ (.inl (some (.int v))) τ := by
  unfold m_X12_make at hm
  obtain ⟨hg, hm⟩ := grw_e hm
  refine tMt_of (n := 0) rfl (Nat.le_of_ble_eq_true rfl) hg ?_
  intro p e s m below meth c C htab hin
  refine zx_lv [0, 1] [(0, .ref (a0)), (1, .int (p0))] rfl ?_
  refine zx_aload_n C dX12_make_0 0 rfl ?_
  refine zx_iconst (v := 0) C dX12_make_1 (by decide) ?_
  obtain ⟨k1, i2, hm⟩ := ckO_e hm
  obtain ⟨v3, ρ4, h5, hm⟩ := cll_e hm
  refine zx_callV (σ := σ) C [.int (0)] tC_11 k1 i2 Y_X12_walkAhead W_8_24 W_8_26 Wp_76 (c_X12_walkAhead h5) (by decide) (by decide) rfl (Nat.le_of_ble_eq_true rfl) dX12_make_2 rfl ?_
  refine zx_istore_n C [(2, .int (v3)), (0, .ref (a0)), (1, .int (p0))] dX12_make_5 rfl (by decide) rfl ?_
  refine zx_iload_n C dX12_make_6 0 rfl ?_
  refine zx_if_ge C 12 dX12_make_7 (by decide) (fun c6 => ?_) (fun c6 => ?_)
  · replace hm := ip_e hm c6
    refine zx_aload_n C dX12_make_12 1 rfl ?_
    refine zx_iload_n C dX12_make_13 0 rfl ?_
    refine zx_aload_n C dX12_make_14 1 rfl ?_
    obtain ⟨k7, i8, hm⟩ := ckO_e hm
    obtain ⟨a9, h10, hm⟩ := osm_e hm
    refine zx_get (j := 52) C tC_11 k7 i8 ⟨by decide, Or.inl W_7_31⟩ dX12_make_15 (.ref a9) (rf_s h10) ?_
    refine zx_iconst (v := 0) C dX12_make_18 (by decide) ?_
    refine zx_aload_n C dX12_make_19 1 rfl ?_
    refine zx_get (j := 53) C tC_11 k7 i8 ⟨by decide, Or.inl W_7_32⟩ dX12_make_20 (.int (tI (ρ4) (a0) 53)) rfl ?_
    obtain ⟨v11, ρ12, h13, hm⟩ := cll_e hm
    refine zx_callV (σ := ρ4) C [.int (v3), .ref (a9), .int (0), .int (tI (ρ4) (a0) 53)] tC_11 k7 i8 Y_X12_find W_8_44 W_8_46 Wp_81 (c_X12_find h13) (by decide) (by decide) rfl (Nat.le_of_ble_eq_true rfl) dX12_make_23 rfl ?_
    refine zx_if_lt C 32 dX12_make_26 (by decide) (fun c14 => ?_) (fun c14 => ?_)
    · replace hm := ip_e hm c14
      refine zx_aload_n C dX12_make_32 1 rfl ?_
      obtain ⟨k15, i16, hm⟩ := ckO_e hm
      refine zx_get (j := 53) C tC_11 k15 i16 ⟨by decide, Or.inl W_7_32⟩ dX12_make_33 (.int (tI (ρ12) (a0) 53)) rfl ?_
      refine zx_bipush (v := 28) C dX12_make_36 (by decide) ?_
      refine zx_icmp_le C 44 dX12_make_38 (by decide) (fun c17 => ?_) (fun c17 => ?_)
      · replace hm := ip_e hm c17
        refine zx_iconst (v := 0) C dX12_make_44 (by decide) ?_
        refine zx_istore_n C [(3, .int (0)), (2, .int (v3)), (0, .ref (a0)), (1, .int (p0))] dX12_make_45 rfl (by decide) rfl ?_
        exact zx_lv [2, 3, 1, 0] [(0, .ref (a0)), (1, .int (p0)), (2, .int (v3)), (3, .int (0))] rfl (l_X12_make_46 C htab hin  _ _ _ _ _ _ hm)
      · replace hm := in_e hm c17
        refine zx_bipush (v := (-7)) C dX12_make_41 (by decide) ?_
        obtain ⟨rfl, rfl⟩ := ret_e hm
        exact zx_iret C rfl rfl rfl dX12_make_43
    · replace hm := in_e hm c14
      refine zx_bipush (v := (-2)) C dX12_make_29 (by decide) ?_
      obtain ⟨rfl, rfl⟩ := ret_e hm
      exact zx_iret C rfl rfl rfl dX12_make_31
  · replace hm := in_e hm c6
    refine zx_iload_n C dX12_make_10 0 rfl ?_
    obtain ⟨rfl, rfl⟩ := ret_e hm
    exact zx_iret C rfl rfl rfl dX12_make_11
abbrev cX12_lose : ByteArray := prog_13_method_78_code
def yX12_lose : MethodName := ⟨"SyncTreeModel", "lose", "(I)I"⟩
theorem Y_X12_lose : tY yX12_lose cX12_lose 3 (some .int) 1 := ⟨W_8_182, W_1_14, ⟨by decide +kernel, by decide +kernel⟩, by decide +kernel⟩
theorem dX12_lose_0 : decode cX12_lose 0 = .ok (.aload_n 0, 1) := by decide +kernel
theorem dX12_lose_1 : decode cX12_lose 1 = .ok (.iload_n 1, 1) := by decide +kernel
theorem dX12_lose_2 : decode cX12_lose 2 = .ok (.iconst 2, 1) := by decide +kernel
theorem dX12_lose_3 : decode cX12_lose 3 = .ok (.invokevirtual 247, 3) := by decide +kernel
theorem dX12_lose_6 : decode cX12_lose 6 = .ok (.iconst 1, 1) := by decide +kernel
theorem dX12_lose_7 : decode cX12_lose 7 = .ok (.isub, 1) := by decide +kernel
theorem dX12_lose_8 : decode cX12_lose 8 = .ok (.istore_n 2, 1) := by decide +kernel
theorem dX12_lose_9 : decode cX12_lose 9 = .ok (.aload_n 0, 1) := by decide +kernel
theorem dX12_lose_10 : decode cX12_lose 10 = .ok (.iload_n 1, 1) := by decide +kernel
theorem dX12_lose_11 : decode cX12_lose 11 = .ok (.iconst 2, 1) := by decide +kernel
theorem dX12_lose_12 : decode cX12_lose 12 = .ok (.iload_n 2, 1) := by decide +kernel
theorem dX12_lose_13 : decode cX12_lose 13 = .ok (.invokevirtual 266, 3) := by decide +kernel
theorem dX12_lose_16 : decode cX12_lose 16 = .ok (.aload_n 0, 1) := by decide +kernel
theorem dX12_lose_17 : decode cX12_lose 17 = .ok (.iload_n 1, 1) := by decide +kernel
theorem dX12_lose_18 : decode cX12_lose 18 = .ok (.invokevirtual 379, 3) := by decide +kernel
theorem dX12_lose_21 : decode cX12_lose 21 = .ok (.iload_n 2, 1) := by decide +kernel
theorem dX12_lose_22 : decode cX12_lose 22 = .ok (.ireturn, 1) := by decide +kernel
set_option maxRecDepth 100000 in
set_option maxHeartbeats 1000000 in
theorem c_X12_lose {l : Launch} {D : va_G} {aC : Nat → ClassId} {b0 fu : Nat} {a0 : Nat} {p0 : Int32} {σ τ : tM} {v : Int32} (hm : m_X12_lose b0 fu a0 p0 σ = some (v, τ)) : tMt l D aC b0 yX12_lose (Cond.code yX12_lose cX12_lose 3 (some .int)) 7 166 [.ref (a0), .int (p0)] σ (.inl (some (.int v))) τ := by
  unfold m_X12_lose at hm
  obtain ⟨hg, hm⟩ := grw_e hm
  refine tMt_of (n := 0) rfl (Nat.le_of_ble_eq_true rfl) hg ?_
  intro p e s m below meth c C htab hin
  refine zx_lv [0, 1] [(0, .ref (a0)), (1, .int (p0))] rfl ?_
  refine zx_aload_n C dX12_lose_0 0 rfl ?_
  refine zx_iload_n C dX12_lose_1 1 rfl ?_
  refine zx_iconst (v := 2) C dX12_lose_2 (by decide) ?_
  obtain ⟨k1, i2, hm⟩ := ckO_e hm
  obtain ⟨v3, ρ4, h5, hm⟩ := cll_e hm
  refine zx_callV (σ := σ) C [.int (p0), .int (2)] tC_11 k1 i2 Y_X12_node W_8_40 W_8_42 Wp_80 (c_X12_node h5) (by decide) (by decide) rfl (Nat.le_of_ble_eq_true rfl) dX12_lose_3 rfl ?_
  refine zx_iconst (v := 1) C dX12_lose_6 (by decide) ?_
  refine zx_isub C dX12_lose_7 ?_
  refine zx_topi (fun y6 hy6 => ?_)
  replace hm := ltb_e hm hy6
  refine zx_istore_n C [(2, .int (y6)), (0, .ref (a0)), (1, .int (p0))] dX12_lose_8 rfl (by decide) rfl ?_
  refine zx_aload_n C dX12_lose_9 1 rfl ?_
  refine zx_iload_n C dX12_lose_10 2 rfl ?_
  refine zx_iconst (v := 2) C dX12_lose_11 (by decide) ?_
  refine zx_iload_n C dX12_lose_12 0 rfl ?_
  obtain ⟨k7, i8, hm⟩ := ckO_e hm
  obtain ⟨v9, ρ10, h11, hm⟩ := cll_e hm
  refine zx_callV (σ := ρ4) C [.int (p0), .int (2), .int (y6)] tC_11 k7 i8 Y_X12_putNode W_8_99 W_8_101 Wp_94 (c_X12_putNode h11) (by decide) (by decide) rfl (Nat.le_of_ble_eq_true rfl) dX12_lose_13 rfl ?_
  refine zx_aload_n C dX12_lose_16 1 rfl ?_
  refine zx_iload_n C dX12_lose_17 2 rfl ?_
  obtain ⟨k12, i13, hm⟩ := ckO_e hm
  obtain ⟨v14, ρ15, h16, hm⟩ := cll_e hm
  refine zx_callV (σ := ρ10) C [.int (p0)] tC_11 k12 i13 Y_X12_maybeFree W_8_183 W_8_185 Wp_111 (c_X12_maybeFree h16) (by decide) (by decide) rfl (Nat.le_of_ble_eq_true rfl) dX12_lose_18 rfl ?_
  refine zx_iload_n C dX12_lose_21 0 rfl ?_
  obtain ⟨rfl, rfl⟩ := ret_e hm
  exact zx_iret C rfl rfl rfl dX12_lose_22
abbrev cX12_bytes : ByteArray := prog_13_method_87_code
def yX12_bytes : MethodName := ⟨"SyncTreeModel", "bytes", "(IIII)I"⟩
theorem Y_X12_bytes : tY yX12_bytes cX12_bytes 10 (some .int) 4 := ⟨W_8_232, W_1_14, ⟨by decide +kernel, by decide +kernel⟩, by decide +kernel⟩
theorem dX12_bytes_0 : decode cX12_bytes 0 = .ok (.iload_n 2, 1) := by decide +kernel
theorem dX12_bytes_1 : decode cX12_bytes 1 = .ok (.i2l, 1) := by decide +kernel
theorem dX12_bytes_2 : decode cX12_bytes 2 = .ok (.iload_n 3, 1) := by decide +kernel
theorem dX12_bytes_3 : decode cX12_bytes 3 = .ok (.i2l, 1) := by decide +kernel
theorem dX12_bytes_4 : decode cX12_bytes 4 = .ok (.ladd, 1) := by decide +kernel
theorem dX12_bytes_5 : decode cX12_bytes 5 = .ok (.ldc2_w 449, 3) := by decide +kernel
theorem dX12_bytes_8 : decode cX12_bytes 8 = .ok (.lcmp, 1) := by decide +kernel
theorem dX12_bytes_9 : decode cX12_bytes 9 = .ok (.ifCond .le 6, 3) := by decide +kernel
theorem dX12_bytes_12 : decode cX12_bytes 12 = .ok (.bipush (-7), 2) := by decide +kernel
theorem dX12_bytes_14 : decode cX12_bytes 14 = .ok (.ireturn, 1) := by decide +kernel
theorem dX12_bytes_15 : decode cX12_bytes 15 = .ok (.iload_n 3, 1) := by decide +kernel
theorem dX12_bytes_16 : decode cX12_bytes 16 = .ok (.ifCond .ne 5, 3) := by decide +kernel
theorem dX12_bytes_19 : decode cX12_bytes 19 = .ok (.iconst 0, 1) := by decide +kernel
theorem dX12_bytes_20 : decode cX12_bytes 20 = .ok (.ireturn, 1) := by decide +kernel
theorem dX12_bytes_21 : decode cX12_bytes 21 = .ok (.aload_n 0, 1) := by decide +kernel
theorem dX12_bytes_22 : decode cX12_bytes 22 = .ok (.getfield 286, 3) := by decide +kernel
theorem dX12_bytes_25 : decode cX12_bytes 25 = .ok (.iload_n 1, 1) := by decide +kernel
theorem dX12_bytes_26 : decode cX12_bytes 26 = .ok (.iaload, 1) := by decide +kernel
theorem dX12_bytes_27 : decode cX12_bytes 27 = .ok (.istore 5, 2) := by decide +kernel
theorem dX12_bytes_29 : decode cX12_bytes 29 = .ok (.iload_n 2, 1) := by decide +kernel
theorem dX12_bytes_30 : decode cX12_bytes 30 = .ok (.sipush 256, 3) := by decide +kernel
theorem dX12_bytes_33 : decode cX12_bytes 33 = .ok (.idiv, 1) := by decide +kernel
theorem dX12_bytes_34 : decode cX12_bytes 34 = .ok (.istore 6, 2) := by decide +kernel
theorem dX12_bytes_36 : decode cX12_bytes 36 = .ok (.iload_n 2, 1) := by decide +kernel
theorem dX12_bytes_37 : decode cX12_bytes 37 = .ok (.iload_n 3, 1) := by decide +kernel
theorem dX12_bytes_38 : decode cX12_bytes 38 = .ok (.iadd, 1) := by decide +kernel
theorem dX12_bytes_39 : decode cX12_bytes 39 = .ok (.iconst 1, 1) := by decide +kernel
theorem dX12_bytes_40 : decode cX12_bytes 40 = .ok (.isub, 1) := by decide +kernel
theorem dX12_bytes_41 : decode cX12_bytes 41 = .ok (.sipush 256, 3) := by decide +kernel
theorem dX12_bytes_44 : decode cX12_bytes 44 = .ok (.idiv, 1) := by decide +kernel
theorem dX12_bytes_45 : decode cX12_bytes 45 = .ok (.istore 7, 2) := by decide +kernel
theorem dX12_bytes_47 : decode cX12_bytes 47 = .ok (.aload_n 0, 1) := by decide +kernel
theorem dX12_bytes_48 : decode cX12_bytes 48 = .ok (.iload 5, 2) := by decide +kernel
theorem dX12_bytes_50 : decode cX12_bytes 50 = .ok (.iload 6, 2) := by decide +kernel
theorem dX12_bytes_52 : decode cX12_bytes 52 = .ok (.iload 7, 2) := by decide +kernel
theorem dX12_bytes_54 : decode cX12_bytes 54 = .ok (.invokevirtual 308, 3) := by decide +kernel
theorem dX12_bytes_57 : decode cX12_bytes 57 = .ok (.aload_n 0, 1) := by decide +kernel
theorem dX12_bytes_58 : decode cX12_bytes 58 = .ok (.invokevirtual 311, 3) := by decide +kernel
theorem dX12_bytes_61 : decode cX12_bytes 61 = .ok (.if_icmp .le 6, 3) := by decide +kernel
theorem dX12_bytes_64 : decode cX12_bytes 64 = .ok (.bipush (-6), 2) := by decide +kernel
theorem dX12_bytes_66 : decode cX12_bytes 66 = .ok (.ireturn, 1) := by decide +kernel
theorem dX12_bytes_67 : decode cX12_bytes 67 = .ok (.iload_n 2, 1) := by decide +kernel
theorem dX12_bytes_68 : decode cX12_bytes 68 = .ok (.iload_n 3, 1) := by decide +kernel
theorem dX12_bytes_69 : decode cX12_bytes 69 = .ok (.iadd, 1) := by decide +kernel
theorem dX12_bytes_70 : decode cX12_bytes 70 = .ok (.aload_n 0, 1) := by decide +kernel
theorem dX12_bytes_71 : decode cX12_bytes 71 = .ok (.iload 5, 2) := by decide +kernel
theorem dX12_bytes_73 : decode cX12_bytes 73 = .ok (.iconst 1, 1) := by decide +kernel
theorem dX12_bytes_74 : decode cX12_bytes 74 = .ok (.invokevirtual 247, 3) := by decide +kernel
theorem dX12_bytes_77 : decode cX12_bytes 77 = .ok (.if_icmp .le 12, 3) := by decide +kernel
theorem dX12_bytes_80 : decode cX12_bytes 80 = .ok (.aload_n 0, 1) := by decide +kernel
theorem dX12_bytes_81 : decode cX12_bytes 81 = .ok (.iload 5, 2) := by decide +kernel
theorem dX12_bytes_83 : decode cX12_bytes 83 = .ok (.iload_n 2, 1) := by decide +kernel
theorem dX12_bytes_84 : decode cX12_bytes 84 = .ok (.iload_n 3, 1) := by decide +kernel
theorem dX12_bytes_85 : decode cX12_bytes 85 = .ok (.iadd, 1) := by decide +kernel
theorem dX12_bytes_86 : decode cX12_bytes 86 = .ok (.invokevirtual 292, 3) := by decide +kernel
theorem dX12_bytes_89 : decode cX12_bytes 89 = .ok (.iload 6, 2) := by decide +kernel
theorem dX12_bytes_91 : decode cX12_bytes 91 = .ok (.istore 8, 2) := by decide +kernel
theorem dX12_bytes_93 : decode cX12_bytes 93 = .ok (.iload 8, 2) := by decide +kernel
theorem dX12_bytes_95 : decode cX12_bytes 95 = .ok (.iload 7, 2) := by decide +kernel
theorem dX12_bytes_97 : decode cX12_bytes 97 = .ok (.if_icmp .gt 17, 3) := by decide +kernel
theorem dX12_bytes_100 : decode cX12_bytes 100 = .ok (.aload_n 0, 1) := by decide +kernel
theorem dX12_bytes_101 : decode cX12_bytes 101 = .ok (.iload 5, 2) := by decide +kernel
theorem dX12_bytes_103 : decode cX12_bytes 103 = .ok (.iload 8, 2) := by decide +kernel
theorem dX12_bytes_105 : decode cX12_bytes 105 = .ok (.invokevirtual 314, 3) := by decide +kernel
theorem dX12_bytes_108 : decode cX12_bytes 108 = .ok (.iinc 8 1, 3) := by decide +kernel
theorem dX12_bytes_111 : decode cX12_bytes 111 = .ok (.goto (-18), 3) := by decide +kernel
theorem dX12_bytes_114 : decode cX12_bytes 114 = .ok (.iconst 0, 1) := by decide +kernel
theorem dX12_bytes_115 : decode cX12_bytes 115 = .ok (.istore 8, 2) := by decide +kernel
theorem dX12_bytes_117 : decode cX12_bytes 117 = .ok (.iload 8, 2) := by decide +kernel
theorem dX12_bytes_119 : decode cX12_bytes 119 = .ok (.iload_n 3, 1) := by decide +kernel
theorem dX12_bytes_120 : decode cX12_bytes 120 = .ok (.if_icmp .ge 73, 3) := by decide +kernel
theorem dX12_bytes_123 : decode cX12_bytes 123 = .ok (.aload_n 0, 1) := by decide +kernel
theorem dX12_bytes_124 : decode cX12_bytes 124 = .ok (.iload 5, 2) := by decide +kernel
theorem dX12_bytes_126 : decode cX12_bytes 126 = .ok (.iload_n 2, 1) := by decide +kernel
theorem dX12_bytes_127 : decode cX12_bytes 127 = .ok (.iload 8, 2) := by decide +kernel
theorem dX12_bytes_129 : decode cX12_bytes 129 = .ok (.iadd, 1) := by decide +kernel
theorem dX12_bytes_130 : decode cX12_bytes 130 = .ok (.sipush 256, 3) := by decide +kernel
theorem dX12_bytes_133 : decode cX12_bytes 133 = .ok (.idiv, 1) := by decide +kernel
theorem dX12_bytes_134 : decode cX12_bytes 134 = .ok (.invokevirtual 259, 3) := by decide +kernel
theorem dX12_bytes_137 : decode cX12_bytes 137 = .ok (.iconst 1, 1) := by decide +kernel
theorem dX12_bytes_138 : decode cX12_bytes 138 = .ok (.isub, 1) := by decide +kernel
theorem dX12_bytes_139 : decode cX12_bytes 139 = .ok (.istore 9, 2) := by decide +kernel
theorem dX12_bytes_141 : decode cX12_bytes 141 = .ok (.aload_n 0, 1) := by decide +kernel
theorem dX12_bytes_142 : decode cX12_bytes 142 = .ok (.getfield 102, 3) := by decide +kernel
theorem dX12_bytes_145 : decode cX12_bytes 145 = .ok (.sipush 256, 3) := by decide +kernel
theorem dX12_bytes_148 : decode cX12_bytes 148 = .ok (.iload 9, 2) := by decide +kernel
theorem dX12_bytes_150 : decode cX12_bytes 150 = .ok (.imul, 1) := by decide +kernel
theorem dX12_bytes_151 : decode cX12_bytes 151 = .ok (.iload_n 2, 1) := by decide +kernel
theorem dX12_bytes_152 : decode cX12_bytes 152 = .ok (.iload 8, 2) := by decide +kernel
theorem dX12_bytes_154 : decode cX12_bytes 154 = .ok (.iadd, 1) := by decide +kernel
theorem dX12_bytes_155 : decode cX12_bytes 155 = .ok (.sipush 256, 3) := by decide +kernel
theorem dX12_bytes_158 : decode cX12_bytes 158 = .ok (.irem, 1) := by decide +kernel
theorem dX12_bytes_159 : decode cX12_bytes 159 = .ok (.iadd, 1) := by decide +kernel
theorem dX12_bytes_160 : decode cX12_bytes 160 = .ok (.iload 4, 2) := by decide +kernel
theorem dX12_bytes_162 : decode cX12_bytes 162 = .ok (.ifCond .ge 13, 3) := by decide +kernel
theorem dX12_bytes_165 : decode cX12_bytes 165 = .ok (.aload_n 0, 1) := by decide +kernel
theorem dX12_bytes_166 : decode cX12_bytes 166 = .ok (.getfield 391, 3) := by decide +kernel
theorem dX12_bytes_169 : decode cX12_bytes 169 = .ok (.iload 8, 2) := by decide +kernel
theorem dX12_bytes_171 : decode cX12_bytes 171 = .ok (.baload, 1) := by decide +kernel
theorem dX12_bytes_172 : decode cX12_bytes 172 = .ok (.goto 6, 3) := by decide +kernel
theorem dX12_bytes_175 : decode cX12_bytes 175 = .ok (.iload 4, 2) := by decide +kernel
theorem dX12_bytes_177 : decode cX12_bytes 177 = .ok (.i2b, 1) := by decide +kernel
theorem dX12_bytes_178 : decode cX12_bytes 178 = .ok (.bastore, 1) := by decide +kernel
theorem dX12_bytes_179 : decode cX12_bytes 179 = .ok (.aload_n 0, 1) := by decide +kernel
theorem dX12_bytes_180 : decode cX12_bytes 180 = .ok (.getfield 244, 3) := by decide +kernel
theorem dX12_bytes_183 : decode cX12_bytes 183 = .ok (.iload 9, 2) := by decide +kernel
theorem dX12_bytes_185 : decode cX12_bytes 185 = .ok (.iconst 1, 1) := by decide +kernel
theorem dX12_bytes_186 : decode cX12_bytes 186 = .ok (.bastore, 1) := by decide +kernel
theorem dX12_bytes_187 : decode cX12_bytes 187 = .ok (.iinc 8 1, 3) := by decide +kernel
theorem dX12_bytes_190 : decode cX12_bytes 190 = .ok (.goto (-73), 3) := by decide +kernel
theorem dX12_bytes_193 : decode cX12_bytes 193 = .ok (.iload_n 3, 1) := by decide +kernel
theorem dX12_bytes_194 : decode cX12_bytes 194 = .ok (.ireturn, 1) := by decide +kernel
set_option maxRecDepth 100000 in
set_option maxHeartbeats 1000000 in
theorem j_X12_bytes_178 {p : Program} {l : Launch} {e : Env} {s : State} {m : MethodId} {args : Array Value} {below : List Frame} {meth : Method} {c : Code} {D : va_G} {aC : Nat → ClassId} {b0 fu : Nat} {σ0 τ : tM} {v : Int32} {rc117 : Nat → Int32 → Int32 → Int32 → Int32 → Int32 → tM → Option ((Int32) × tM)} (C : tCx p l s m args meth c yX12_bytes.cls cX12_bytes 10 (some .int) D aC b0 σ0) (htab : ∀ x ∈ c.exceptionTable.toList, False) (hin : meth.name = yX12_bytes.name) (hrc117 : ∀ (x0 : Nat) (x2 : Int32) (x3 : Int32) (x4 : Int32) (x5 : Int32) (x8 : Int32) (ρ : tM), rc117 x0 x2 x3 x4 x5 x8 ρ = some (v, τ) → tX p l e s m args below meth c 10 6 145 D aC b0 σ0 (.inl (some (.int v))) τ 117 [(0, .ref (x0)), (2, .int (x2)), (3, .int (x3)), (4, .int (x4)), (5, .int (x5)), (8, .int (x8))] [] ρ) {x0 : Nat} {x2 : Int32} {x3 : Int32} {x4 : Int32} {x5 : Int32} {x8 : Int32} {x9 : Int32} {s0 : Nat} {s1 : Int32} {s2 : Int32} {σ : tM} (hm : J_X12_bytes_178 b0 fu rc117 x0 x2 x3 x4 x5 x8 x9 s0 s1 s2 σ = some (v, τ)) : tX p l e s m args below meth c 10 6 145 D aC b0 σ0 (.inl (some (.int v))) τ 178 [(0, .ref (x0)), (2, .int (x2)), (3, .int (x3)), (4, .int (x4)), (5, .int (x5)), (8, .int (x8)), (9, .int (x9))] [.int (s2), .int (s1), .ref (s0)] σ := by
  unfold J_X12_bytes_178 at hm
  obtain ⟨n46, k44, i45, hm⟩ := ckR_e hm
  obtain ⟨h47, hm⟩ := ckI_e hm
  refine zx_bast C k44 i45 h47 dX12_bytes_178 ?_
  refine zx_aload_n C dX12_bytes_179 0 rfl ?_
  obtain ⟨k48, i49, hm⟩ := ckO_e hm
  obtain ⟨a50, h51, hm⟩ := osm_e hm
  refine zx_get (j := 23) C tC_11 k48 i49 ⟨by decide, Or.inl W_7_2⟩ dX12_bytes_180 (.ref a50) (rf_s h51) ?_
  refine zx_iload C dX12_bytes_183 6 rfl ?_
  refine zx_iconst (v := 1) C dX12_bytes_185 (by decide) ?_
  obtain ⟨n54, k52, i53, hm⟩ := ckR_e hm
  obtain ⟨h55, hm⟩ := ckI_e hm
  refine zx_zast C k52 i53 h55 dX12_bytes_186 ?_
  obtain ⟨y56, hy56⟩ : ∃ z : Int32, z = (x8) + Int32.ofInt 1 := ⟨_, rfl⟩
  replace hm := ltb_e hm hy56
  refine zx_iinc C [(8, .int (y56)), (0, .ref (x0)), (2, .int (x2)), (3, .int (x3)), (4, .int (x4)), (5, .int (x5)), (9, .int (x9))] dX12_bytes_187 5 rfl hy56.symm (by decide) rfl ?_
  refine zx_goto C 117 dX12_bytes_190 (by decide) ?_
  exact zx_lv [1, 2, 3, 4, 5, 0] [(0, .ref (x0)), (2, .int (x2)), (3, .int (x3)), (4, .int (x4)), (5, .int (x5)), (8, .int (y56))] rfl (hrc117 _ _ _ _ _ _ _ hm)
set_option maxRecDepth 100000 in
set_option maxHeartbeats 1000000 in
theorem l_X12_bytes_117 {p : Program} {l : Launch} {e : Env} {s : State} {m : MethodId} {args : Array Value} {below : List Frame} {meth : Method} {c : Code} {D : va_G} {aC : Nat → ClassId} {b0 fu : Nat} {σ0 τ : tM} {v : Int32}  (C : tCx p l s m args meth c yX12_bytes.cls cX12_bytes 10 (some .int) D aC b0 σ0) (htab : ∀ x ∈ c.exceptionTable.toList, False) (hin : meth.name = yX12_bytes.name)  : ∀ (n : Nat) (x0 : Nat) (x2 : Int32) (x3 : Int32) (x4 : Int32) (x5 : Int32) (x8 : Int32) (σ : tM), L_X12_bytes_117 b0 fu  n x0 x2 x3 x4 x5 x8 σ = some (v, τ) → tX p l e s m args below meth c 10 6 145 D aC b0 σ0 (.inl (some (.int v))) τ 117 [(0, .ref (x0)), (2, .int (x2)), (3, .int (x3)), (4, .int (x4)), (5, .int (x5)), (8, .int (x8))] [] σ := by
  intro n
  induction n with
  | zero => intro x0 x2 x3 x4 x5 x8 σ hm; unfold L_X12_bytes_117 at hm; cases hm
  | succ n ih =>
    intro x0 x2 x3 x4 x5 x8 σ hm
    unfold L_X12_bytes_117 at hm
    obtain ⟨rc117, hrc⟩ : ∃ z, z = L_X12_bytes_117 b0 fu  n := ⟨_, rfl⟩
    replace hm := ltb_e hm hrc
    rw [← hrc] at ih
    have hrc117 := ih
    clear ih hrc
    refine zx_iload C dX12_bytes_117 5 rfl ?_
    refine zx_iload_n C dX12_bytes_119 2 rfl ?_
    refine zx_icmp_ge C 193 dX12_bytes_120 (by decide) (fun c32 => ?_) (fun c32 => ?_)
    · replace hm := ip_e hm c32
      refine zx_iload_n C dX12_bytes_193 2 rfl ?_
      obtain ⟨rfl, rfl⟩ := ret_e hm
      exact zx_iret C rfl rfl rfl dX12_bytes_194
    · replace hm := in_e hm c32
      refine zx_aload_n C dX12_bytes_123 0 rfl ?_
      refine zx_iload C dX12_bytes_124 4 rfl ?_
      refine zx_iload_n C dX12_bytes_126 1 rfl ?_
      refine zx_iload C dX12_bytes_127 5 rfl ?_
      refine zx_iadd C dX12_bytes_129 ?_
      refine zx_sipush (v := 256) C dX12_bytes_130 (by decide) ?_
      refine zx_idiv C dX12_bytes_133 (by decide) ?_
      obtain ⟨k33, i34, hm⟩ := ckO_e hm
      obtain ⟨v35, ρ36, h37, hm⟩ := cll_e hm
      refine zx_callV (σ := σ) C [.int (x5), .int (((x2) + (x8)) / (256))] tC_11 k33 i34 Y_X12_has W_8_60 W_8_62 Wp_85 (c_X12_has h37) (by decide) (by decide) rfl (Nat.le_of_ble_eq_true rfl) dX12_bytes_134 rfl ?_
      refine zx_iconst (v := 1) C dX12_bytes_137 (by decide) ?_
      refine zx_isub C dX12_bytes_138 ?_
      refine zx_topi (fun y38 hy38 => ?_)
      replace hm := ltb_e hm hy38
      refine zx_istore C [(9, .int (y38)), (0, .ref (x0)), (2, .int (x2)), (3, .int (x3)), (4, .int (x4)), (5, .int (x5)), (8, .int (x8))] dX12_bytes_139 (by decide) rfl ?_
      refine zx_aload_n C dX12_bytes_141 1 rfl ?_
      obtain ⟨k39, i40, hm⟩ := ckO_e hm
      obtain ⟨a41, h42, hm⟩ := osm_e hm
      refine zx_get (j := 22) C tC_11 k39 i40 ⟨by decide, Or.inl W_7_1⟩ dX12_bytes_142 (.ref a41) (rf_s h42) ?_
      refine zx_sipush (v := 256) C dX12_bytes_145 (by decide) ?_
      refine zx_iload C dX12_bytes_148 0 rfl ?_
      refine zx_imul C dX12_bytes_150 ?_
      refine zx_iload_n C dX12_bytes_151 2 rfl ?_
      refine zx_iload C dX12_bytes_152 6 rfl ?_
      refine zx_iadd C dX12_bytes_154 ?_
      refine zx_sipush (v := 256) C dX12_bytes_155 (by decide) ?_
      refine zx_irem C dX12_bytes_158 (by decide) ?_
      refine zx_iadd C dX12_bytes_159 ?_
      refine zx_iload C dX12_bytes_160 4 rfl ?_
      refine zx_if_ge C 175 dX12_bytes_162 (by decide) (fun c43 => ?_) (fun c43 => ?_)
      · replace hm := ip_e hm c43
        refine zx_iload C dX12_bytes_175 4 rfl ?_
        refine zx_i2b C dX12_bytes_177 ?_
        exact zx_lv [1, 2, 3, 4, 5, 6, 0] [(0, .ref (x0)), (2, .int (x2)), (3, .int (x3)), (4, .int (x4)), (5, .int (x5)), (8, .int (x8)), (9, .int (y38))] rfl (j_X12_bytes_178 C htab hin hrc117   hm)
      · replace hm := in_e hm c43
        refine zx_aload_n C dX12_bytes_165 1 rfl ?_
        obtain ⟨a57, h58, hm⟩ := osm_e hm
        refine zx_get (j := 56) C tC_11 k39 i40 ⟨by decide, Or.inl W_7_35⟩ dX12_bytes_166 (.ref a57) (rf_s h58) ?_
        refine zx_iload C dX12_bytes_169 6 rfl ?_
        obtain ⟨n61, k59, i60, hm⟩ := ckR_e hm
        obtain ⟨h62, hm⟩ := ckI_e hm
        refine zx_bald C k59 i60 h62 dX12_bytes_171 ?_
        refine zx_goto C 178 dX12_bytes_172 (by decide) ?_
        exact zx_lv [1, 2, 3, 4, 5, 6, 0] [(0, .ref (x0)), (2, .int (x2)), (3, .int (x3)), (4, .int (x4)), (5, .int (x5)), (8, .int (x8)), (9, .int (y38))] rfl (j_X12_bytes_178 C htab hin hrc117   hm)
set_option maxRecDepth 100000 in
set_option maxHeartbeats 1000000 in
theorem l_X12_bytes_93 {p : Program} {l : Launch} {e : Env} {s : State} {m : MethodId} {args : Array Value} {below : List Frame} {meth : Method} {c : Code} {D : va_G} {aC : Nat → ClassId} {b0 fu : Nat} {σ0 τ : tM} {v : Int32}  (C : tCx p l s m args meth c yX12_bytes.cls cX12_bytes 10 (some .int) D aC b0 σ0) (htab : ∀ x ∈ c.exceptionTable.toList, False) (hin : meth.name = yX12_bytes.name)  : ∀ (n : Nat) (x0 : Nat) (x2 : Int32) (x3 : Int32) (x4 : Int32) (x5 : Int32) (x7 : Int32) (x8 : Int32) (σ : tM), L_X12_bytes_93 b0 fu  n x0 x2 x3 x4 x5 x7 x8 σ = some (v, τ) → tX p l e s m args below meth c 10 6 145 D aC b0 σ0 (.inl (some (.int v))) τ 93 [(0, .ref (x0)), (2, .int (x2)), (3, .int (x3)), (4, .int (x4)), (5, .int (x5)), (7, .int (x7)), (8, .int (x8))] [] σ := by
  intro n
  induction n with
  | zero => intro x0 x2 x3 x4 x5 x7 x8 σ hm; unfold L_X12_bytes_93 at hm; cases hm
  | succ n ih =>
    intro x0 x2 x3 x4 x5 x7 x8 σ hm
    unfold L_X12_bytes_93 at hm
    obtain ⟨rc93, hrc⟩ : ∃ z, z = L_X12_bytes_93 b0 fu  n := ⟨_, rfl⟩
    replace hm := ltb_e hm hrc
    rw [← hrc] at ih
    have hrc93 := ih
    clear ih hrc
    refine zx_iload C dX12_bytes_93 6 rfl ?_
    refine zx_iload C dX12_bytes_95 5 rfl ?_
    refine zx_icmp_gt C 114 dX12_bytes_97 (by decide) (fun c31 => ?_) (fun c31 => ?_)
    · replace hm := ip_e hm c31
      refine zx_iconst (v := 0) C dX12_bytes_114 (by decide) ?_
      refine zx_istore C [(8, .int (0)), (0, .ref (x0)), (2, .int (x2)), (3, .int (x3)), (4, .int (x4)), (5, .int (x5)), (7, .int (x7))] dX12_bytes_115 (by decide) rfl ?_
      exact zx_lv [1, 2, 3, 4, 5, 0] [(0, .ref (x0)), (2, .int (x2)), (3, .int (x3)), (4, .int (x4)), (5, .int (x5)), (8, .int (0))] rfl (l_X12_bytes_117 C htab hin  _ _ _ _ _ _ _ _ hm)
    · replace hm := in_e hm c31
      refine zx_aload_n C dX12_bytes_100 0 rfl ?_
      refine zx_iload C dX12_bytes_101 4 rfl ?_
      refine zx_iload C dX12_bytes_103 6 rfl ?_
      obtain ⟨k65, i66, hm⟩ := ckO_e hm
      obtain ⟨v67, ρ68, h69, hm⟩ := cll_e hm
      refine zx_callV (σ := σ) C [.int (x5), .int (x8)] tC_11 k65 i66 Y_X12_ensure W_8_115 W_8_117 Wp_98 (c_X12_ensure h69) (by decide) (by decide) rfl (Nat.le_of_ble_eq_true rfl) dX12_bytes_105 rfl ?_
      obtain ⟨y70, hy70⟩ : ∃ z : Int32, z = (x8) + Int32.ofInt 1 := ⟨_, rfl⟩
      replace hm := ltb_e hm hy70
      refine zx_iinc C [(8, .int (y70)), (0, .ref (x0)), (2, .int (x2)), (3, .int (x3)), (4, .int (x4)), (5, .int (x5)), (7, .int (x7))] dX12_bytes_108 6 rfl hy70.symm (by decide) rfl ?_
      refine zx_goto C 93 dX12_bytes_111 (by decide) ?_
      exact zx_lv [1, 2, 3, 4, 5, 6, 0] [(0, .ref (x0)), (2, .int (x2)), (3, .int (x3)), (4, .int (x4)), (5, .int (x5)), (7, .int (x7)), (8, .int (y70))] rfl (hrc93 _ _ _ _ _ _ _ _ hm)
set_option maxRecDepth 100000 in
set_option maxHeartbeats 1000000 in
theorem j_X12_bytes_89 {p : Program} {l : Launch} {e : Env} {s : State} {m : MethodId} {args : Array Value} {below : List Frame} {meth : Method} {c : Code} {D : va_G} {aC : Nat → ClassId} {b0 fu : Nat} {σ0 τ : tM} {v : Int32}  (C : tCx p l s m args meth c yX12_bytes.cls cX12_bytes 10 (some .int) D aC b0 σ0) (htab : ∀ x ∈ c.exceptionTable.toList, False) (hin : meth.name = yX12_bytes.name)  {x0 : Nat} {x2 : Int32} {x3 : Int32} {x4 : Int32} {x5 : Int32} {x6 : Int32} {x7 : Int32} {σ : tM} (hm : J_X12_bytes_89 b0 fu  x0 x2 x3 x4 x5 x6 x7 σ = some (v, τ)) : tX p l e s m args below meth c 10 6 145 D aC b0 σ0 (.inl (some (.int v))) τ 89 [(0, .ref (x0)), (2, .int (x2)), (3, .int (x3)), (4, .int (x4)), (5, .int (x5)), (6, .int (x6)), (7, .int (x7))] [] σ := by
  unfold J_X12_bytes_89 at hm
  refine zx_iload C dX12_bytes_89 5 rfl ?_
  refine zx_istore C [(8, .int (x6)), (0, .ref (x0)), (2, .int (x2)), (3, .int (x3)), (4, .int (x4)), (5, .int (x5)), (6, .int (x6)), (7, .int (x7))] dX12_bytes_91 (by decide) rfl ?_
  exact zx_lv [1, 2, 3, 4, 5, 7, 0] [(0, .ref (x0)), (2, .int (x2)), (3, .int (x3)), (4, .int (x4)), (5, .int (x5)), (7, .int (x7)), (8, .int (x6))] rfl (l_X12_bytes_93 C htab hin  _ _ _ _ _ _ _ _ _ hm)
set_option maxRecDepth 100000 in
set_option maxHeartbeats 1000000 in
theorem j_X12_bytes_47 {p : Program} {l : Launch} {e : Env} {s : State} {m : MethodId} {args : Array Value} {below : List Frame} {meth : Method} {c : Code} {D : va_G} {aC : Nat → ClassId} {b0 fu : Nat} {σ0 τ : tM} {v : Int32}  (C : tCx p l s m args meth c yX12_bytes.cls cX12_bytes 10 (some .int) D aC b0 σ0) (htab : ∀ x ∈ c.exceptionTable.toList, False) (hin : meth.name = yX12_bytes.name)  {x0 : Nat} {x2 : Int32} {x3 : Int32} {x4 : Int32} {x5 : Int32} {x6 : Int32} {x7 : Int32} {σ : tM} (hm : J_X12_bytes_47 b0 fu  x0 x2 x3 x4 x5 x6 x7 σ = some (v, τ)) : tX p l e s m args below meth c 10 6 145 D aC b0 σ0 (.inl (some (.int v))) τ 47 [(0, .ref (x0)), (2, .int (x2)), (3, .int (x3)), (4, .int (x4)), (5, .int (x5)), (6, .int (x6)), (7, .int (x7))] [] σ := by
  unfold J_X12_bytes_47 at hm
  refine zx_aload_n C dX12_bytes_47 0 rfl ?_
  refine zx_iload C dX12_bytes_48 4 rfl ?_
  refine zx_iload C dX12_bytes_50 5 rfl ?_
  refine zx_iload C dX12_bytes_52 6 rfl ?_
  obtain ⟨k14, i15, hm⟩ := ckO_e hm
  obtain ⟨v16, ρ17, h18, hm⟩ := cll_e hm
  refine zx_callV (σ := σ) C [.int (x5), .int (x6), .int (x7)] tC_11 k14 i15 Y_X12_needs W_8_87 W_8_89 Wp_91 (c_X12_needs h18) (by decide) (by decide) rfl (Nat.le_of_ble_eq_true rfl) dX12_bytes_54 rfl ?_
  refine zx_aload_n C dX12_bytes_57 0 rfl ?_
  obtain ⟨k19, i20, hm⟩ := ckO_e hm
  obtain ⟨v21, ρ22, h23, hm⟩ := cll_e hm
  refine zx_callV (σ := ρ17) C [] tC_11 k19 i20 Y_X12_freeBlocks W_8_91 W_8_93 Wp_92 (c_X12_freeBlocks h23) (by decide) (by decide) rfl (Nat.le_of_ble_eq_true rfl) dX12_bytes_58 rfl ?_
  refine zx_icmp_le C 67 dX12_bytes_61 (by decide) (fun c24 => ?_) (fun c24 => ?_)
  · replace hm := ip_e hm c24
    refine zx_iload_n C dX12_bytes_67 1 rfl ?_
    refine zx_iload_n C dX12_bytes_68 2 rfl ?_
    refine zx_iadd C dX12_bytes_69 ?_
    refine zx_aload_n C dX12_bytes_70 0 rfl ?_
    refine zx_iload C dX12_bytes_71 4 rfl ?_
    refine zx_iconst (v := 1) C dX12_bytes_73 (by decide) ?_
    obtain ⟨k25, i26, hm⟩ := ckO_e hm
    obtain ⟨v27, ρ28, h29, hm⟩ := cll_e hm
    refine zx_callV (σ := ρ22) C [.int (x5), .int (1)] tC_11 k25 i26 Y_X12_node W_8_40 W_8_42 Wp_80 (c_X12_node h29) (by decide) (by decide) rfl (Nat.le_of_ble_eq_true rfl) dX12_bytes_74 rfl ?_
    refine zx_icmp_le C 89 dX12_bytes_77 (by decide) (fun c30 => ?_) (fun c30 => ?_)
    · replace hm := ip_e hm c30
      exact zx_lv [0, 1, 2, 3, 4, 5, 6] [(0, .ref (x0)), (2, .int (x2)), (3, .int (x3)), (4, .int (x4)), (5, .int (x5)), (6, .int (x6)), (7, .int (x7))] rfl (j_X12_bytes_89 C htab hin    hm)
    · replace hm := in_e hm c30
      refine zx_aload_n C dX12_bytes_80 0 rfl ?_
      refine zx_iload C dX12_bytes_81 4 rfl ?_
      refine zx_iload_n C dX12_bytes_83 1 rfl ?_
      refine zx_iload_n C dX12_bytes_84 2 rfl ?_
      refine zx_iadd C dX12_bytes_85 ?_
      obtain ⟨k71, i72, hm⟩ := ckO_e hm
      obtain ⟨v73, ρ74, h75, hm⟩ := cll_e hm
      refine zx_callV (σ := ρ28) C [.int (x5), .int ((x2) + (x3))] tC_11 k71 i72 Y_X12_setSize W_8_191 W_8_193 Wp_113 (c_X12_setSize h75) (by decide) (by decide) rfl (Nat.le_of_ble_eq_true rfl) dX12_bytes_86 rfl ?_
      exact zx_lv [0, 1, 2, 3, 4, 5, 6] [(0, .ref (x0)), (2, .int (x2)), (3, .int (x3)), (4, .int (x4)), (5, .int (x5)), (6, .int (x6)), (7, .int (x7))] rfl (j_X12_bytes_89 C htab hin    hm)
  · replace hm := in_e hm c24
    refine zx_bipush (v := (-6)) C dX12_bytes_64 (by decide) ?_
    obtain ⟨rfl, rfl⟩ := ret_e hm
    exact zx_iret C rfl rfl rfl dX12_bytes_66
set_option maxRecDepth 100000 in
set_option maxHeartbeats 1000000 in
theorem c_X12_bytes {l : Launch} {D : va_G} {aC : Nat → ClassId} {b0 fu : Nat} {a0 : Nat} {p0 : Int32} {p1 : Int32} {p2 : Int32} {p3 : Int32} {σ τ : tM} {v : Int32} (hm : m_X12_bytes b0 fu a0 p0 p1 p2 p3 σ = some (v, τ)) : tMt l D aC b0 yX12_bytes (Cond.code yX12_bytes cX12_bytes 10 (some .int)) 6 145 [.ref (a0), .int (p0), .int (p1), .int (p2), .int (p3)] σ (.inl (some (.int v))) τ := by
  unfold m_X12_bytes at hm
  obtain ⟨hg, hm⟩ := grw_e hm
  refine tMt_of (n := 0) rfl (Nat.le_of_ble_eq_true rfl) hg ?_
  intro p e s m below meth c C htab hin
  refine zx_lv [0, 1, 2, 3, 4] [(0, .ref (a0)), (1, .int (p0)), (2, .int (p1)), (3, .int (p2)), (4, .int (p3))] rfl ?_
  refine zx_iload_n C dX12_bytes_0 2 rfl ?_
  refine zx_i2l C dX12_bytes_1 ?_
  refine zx_iload_n C dX12_bytes_2 3 rfl ?_
  refine zx_i2l C dX12_bytes_3 ?_
  refine zx_ladd C dX12_bytes_4 ?_
  refine zx_ldc2 (v := 272384) C W_8_233 dX12_bytes_5 ?_
  refine zx_lcmp C dX12_bytes_8 ?_
  refine zx_if_le C 15 dX12_bytes_9 (by decide) (fun c1 => ?_) (fun c1 => ?_)
  · replace hm := ip_e hm c1
    refine zx_iload_n C dX12_bytes_15 3 rfl ?_
    refine zx_if_ne C 21 dX12_bytes_16 (by decide) (fun c2 => ?_) (fun c2 => ?_)
    · replace hm := in_e hm c2
      refine zx_aload_n C dX12_bytes_21 0 rfl ?_
      obtain ⟨k3, i4, hm⟩ := ckO_e hm
      obtain ⟨a5, h6, hm⟩ := osm_e hm
      refine zx_get (j := 58) C tC_11 k3 i4 ⟨by decide, Or.inl W_7_37⟩ dX12_bytes_22 (.ref a5) (rf_s h6) ?_
      refine zx_iload_n C dX12_bytes_25 1 rfl ?_
      obtain ⟨n9, k7, i8, hm⟩ := ckR_e hm
      obtain ⟨h10, hm⟩ := ckI_e hm
      refine zx_iald C k7 i8 h10 dX12_bytes_26 ?_
      refine zx_topi (fun y11 hy11 => ?_)
      replace hm := ltb_e hm hy11
      refine zx_istore C [(5, .int (y11)), (0, .ref (a0)), (1, .int (p0)), (2, .int (p1)), (3, .int (p2)), (4, .int (p3))] dX12_bytes_27 (by decide) rfl ?_
      refine zx_iload_n C dX12_bytes_29 3 rfl ?_
      refine zx_sipush (v := 256) C dX12_bytes_30 (by decide) ?_
      refine zx_idiv C dX12_bytes_33 (by decide) ?_
      refine zx_topi (fun y12 hy12 => ?_)
      replace hm := ltb_e hm hy12
      refine zx_istore C [(6, .int (y12)), (5, .int (y11)), (0, .ref (a0)), (1, .int (p0)), (2, .int (p1)), (3, .int (p2)), (4, .int (p3))] dX12_bytes_34 (by decide) rfl ?_
      refine zx_iload_n C dX12_bytes_36 4 rfl ?_
      refine zx_iload_n C dX12_bytes_37 5 rfl ?_
      refine zx_iadd C dX12_bytes_38 ?_
      refine zx_iconst (v := 1) C dX12_bytes_39 (by decide) ?_
      refine zx_isub C dX12_bytes_40 ?_
      refine zx_sipush (v := 256) C dX12_bytes_41 (by decide) ?_
      refine zx_idiv C dX12_bytes_44 (by decide) ?_
      refine zx_topi (fun y13 hy13 => ?_)
      replace hm := ltb_e hm hy13
      refine zx_istore C [(7, .int (y13)), (6, .int (y12)), (5, .int (y11)), (0, .ref (a0)), (1, .int (p0)), (2, .int (p1)), (3, .int (p2)), (4, .int (p3))] dX12_bytes_45 (by decide) rfl ?_
      exact zx_lv [3, 5, 6, 7, 2, 1, 0] [(0, .ref (a0)), (2, .int (p1)), (3, .int (p2)), (4, .int (p3)), (5, .int (y11)), (6, .int (y12)), (7, .int (y13))] rfl (j_X12_bytes_47 C htab hin    hm)
    · replace hm := ip_e hm c2
      refine zx_iconst (v := 0) C dX12_bytes_19 (by decide) ?_
      obtain ⟨rfl, rfl⟩ := ret_e hm
      exact zx_iret C rfl rfl rfl dX12_bytes_20
  · replace hm := in_e hm c1
    refine zx_bipush (v := (-7)) C dX12_bytes_12 (by decide) ?_
    obtain ⟨rfl, rfl⟩ := ret_e hm
    exact zx_iret C rfl rfl rfl dX12_bytes_14
abbrev cX12_writeDirty : ByteArray := prog_13_method_100_code
def yX12_writeDirty : MethodName := ⟨"SyncTreeModel", "writeDirty", "(II)I"⟩
theorem Y_X12_writeDirty : tY yX12_writeDirty cX12_writeDirty 6 (some .int) 2 := ⟨W_9_47, W_1_14, ⟨by decide +kernel, by decide +kernel⟩, by decide +kernel⟩
theorem dX12_writeDirty_0 : decode cX12_writeDirty 0 = .ok (.iconst 0, 1) := by decide +kernel
theorem dX12_writeDirty_1 : decode cX12_writeDirty 1 = .ok (.istore_n 3, 1) := by decide +kernel
theorem dX12_writeDirty_2 : decode cX12_writeDirty 2 = .ok (.iload_n 3, 1) := by decide +kernel
theorem dX12_writeDirty_3 : decode cX12_writeDirty 3 = .ok (.aload_n 0, 1) := by decide +kernel
theorem dX12_writeDirty_4 : decode cX12_writeDirty 4 = .ok (.getfield 41, 3) := by decide +kernel
theorem dX12_writeDirty_7 : decode cX12_writeDirty 7 = .ok (.if_icmp .ge 24, 3) := by decide +kernel
theorem dX12_writeDirty_10 : decode cX12_writeDirty 10 = .ok (.aload_n 0, 1) := by decide +kernel
theorem dX12_writeDirty_11 : decode cX12_writeDirty 11 = .ok (.getfield 394, 3) := by decide +kernel
theorem dX12_writeDirty_14 : decode cX12_writeDirty 14 = .ok (.iload_n 3, 1) := by decide +kernel
theorem dX12_writeDirty_15 : decode cX12_writeDirty 15 = .ok (.iload_n 1, 1) := by decide +kernel
theorem dX12_writeDirty_16 : decode cX12_writeDirty 16 = .ok (.ifCond .ge 7, 3) := by decide +kernel
theorem dX12_writeDirty_19 : decode cX12_writeDirty 19 = .ok (.iconst 1, 1) := by decide +kernel
theorem dX12_writeDirty_20 : decode cX12_writeDirty 20 = .ok (.goto 4, 3) := by decide +kernel
theorem dX12_writeDirty_23 : decode cX12_writeDirty 23 = .ok (.iconst 0, 1) := by decide +kernel
theorem dX12_writeDirty_24 : decode cX12_writeDirty 24 = .ok (.bastore, 1) := by decide +kernel
theorem dX12_writeDirty_25 : decode cX12_writeDirty 25 = .ok (.iinc 3 1, 3) := by decide +kernel
theorem dX12_writeDirty_28 : decode cX12_writeDirty 28 = .ok (.goto (-26), 3) := by decide +kernel
theorem dX12_writeDirty_31 : decode cX12_writeDirty 31 = .ok (.iload_n 1, 1) := by decide +kernel
theorem dX12_writeDirty_32 : decode cX12_writeDirty 32 = .ok (.ifCond .ge 7, 3) := by decide +kernel
theorem dX12_writeDirty_35 : decode cX12_writeDirty 35 = .ok (.iconst 0, 1) := by decide +kernel
theorem dX12_writeDirty_36 : decode cX12_writeDirty 36 = .ok (.goto 17, 3) := by decide +kernel
theorem dX12_writeDirty_39 : decode cX12_writeDirty 39 = .ok (.aload_n 0, 1) := by decide +kernel
theorem dX12_writeDirty_40 : decode cX12_writeDirty 40 = .ok (.iload_n 1, 1) := by decide +kernel
theorem dX12_writeDirty_41 : decode cX12_writeDirty 41 = .ok (.iconst 1, 1) := by decide +kernel
theorem dX12_writeDirty_42 : decode cX12_writeDirty 42 = .ok (.invokevirtual 247, 3) := by decide +kernel
theorem dX12_writeDirty_45 : decode cX12_writeDirty 45 = .ok (.sipush 255, 3) := by decide +kernel
theorem dX12_writeDirty_48 : decode cX12_writeDirty 48 = .ok (.iadd, 1) := by decide +kernel
theorem dX12_writeDirty_49 : decode cX12_writeDirty 49 = .ok (.sipush 256, 3) := by decide +kernel
theorem dX12_writeDirty_52 : decode cX12_writeDirty 52 = .ok (.idiv, 1) := by decide +kernel
theorem dX12_writeDirty_53 : decode cX12_writeDirty 53 = .ok (.istore_n 3, 1) := by decide +kernel
theorem dX12_writeDirty_54 : decode cX12_writeDirty 54 = .ok (.iconst 0, 1) := by decide +kernel
theorem dX12_writeDirty_55 : decode cX12_writeDirty 55 = .ok (.istore 4, 2) := by decide +kernel
theorem dX12_writeDirty_57 : decode cX12_writeDirty 57 = .ok (.iload 4, 2) := by decide +kernel
theorem dX12_writeDirty_59 : decode cX12_writeDirty 59 = .ok (.iload_n 3, 1) := by decide +kernel
theorem dX12_writeDirty_60 : decode cX12_writeDirty 60 = .ok (.if_icmp .ge 33, 3) := by decide +kernel
theorem dX12_writeDirty_63 : decode cX12_writeDirty 63 = .ok (.aload_n 0, 1) := by decide +kernel
theorem dX12_writeDirty_64 : decode cX12_writeDirty 64 = .ok (.iload_n 1, 1) := by decide +kernel
theorem dX12_writeDirty_65 : decode cX12_writeDirty 65 = .ok (.iload 4, 2) := by decide +kernel
theorem dX12_writeDirty_67 : decode cX12_writeDirty 67 = .ok (.invokevirtual 259, 3) := by decide +kernel
theorem dX12_writeDirty_70 : decode cX12_writeDirty 70 = .ok (.iconst 1, 1) := by decide +kernel
theorem dX12_writeDirty_71 : decode cX12_writeDirty 71 = .ok (.isub, 1) := by decide +kernel
theorem dX12_writeDirty_72 : decode cX12_writeDirty 72 = .ok (.istore 5, 2) := by decide +kernel
theorem dX12_writeDirty_74 : decode cX12_writeDirty 74 = .ok (.iload 5, 2) := by decide +kernel
theorem dX12_writeDirty_76 : decode cX12_writeDirty 76 = .ok (.ifCond .lt 11, 3) := by decide +kernel
theorem dX12_writeDirty_79 : decode cX12_writeDirty 79 = .ok (.aload_n 0, 1) := by decide +kernel
theorem dX12_writeDirty_80 : decode cX12_writeDirty 80 = .ok (.getfield 394, 3) := by decide +kernel
theorem dX12_writeDirty_83 : decode cX12_writeDirty 83 = .ok (.iload 5, 2) := by decide +kernel
theorem dX12_writeDirty_85 : decode cX12_writeDirty 85 = .ok (.iconst 1, 1) := by decide +kernel
theorem dX12_writeDirty_86 : decode cX12_writeDirty 86 = .ok (.bastore, 1) := by decide +kernel
theorem dX12_writeDirty_87 : decode cX12_writeDirty 87 = .ok (.iinc 4 1, 3) := by decide +kernel
theorem dX12_writeDirty_90 : decode cX12_writeDirty 90 = .ok (.goto (-33), 3) := by decide +kernel
theorem dX12_writeDirty_93 : decode cX12_writeDirty 93 = .ok (.iconst 0, 1) := by decide +kernel
theorem dX12_writeDirty_94 : decode cX12_writeDirty 94 = .ok (.istore 4, 2) := by decide +kernel
theorem dX12_writeDirty_96 : decode cX12_writeDirty 96 = .ok (.iconst 0, 1) := by decide +kernel
theorem dX12_writeDirty_97 : decode cX12_writeDirty 97 = .ok (.istore 5, 2) := by decide +kernel
theorem dX12_writeDirty_99 : decode cX12_writeDirty 99 = .ok (.iload 5, 2) := by decide +kernel
theorem dX12_writeDirty_101 : decode cX12_writeDirty 101 = .ok (.aload_n 0, 1) := by decide +kernel
theorem dX12_writeDirty_102 : decode cX12_writeDirty 102 = .ok (.getfield 41, 3) := by decide +kernel
theorem dX12_writeDirty_105 : decode cX12_writeDirty 105 = .ok (.if_icmp .ge 71, 3) := by decide +kernel
theorem dX12_writeDirty_108 : decode cX12_writeDirty 108 = .ok (.iload 4, 2) := by decide +kernel
theorem dX12_writeDirty_110 : decode cX12_writeDirty 110 = .ok (.iload_n 2, 1) := by decide +kernel
theorem dX12_writeDirty_111 : decode cX12_writeDirty 111 = .ok (.if_icmp .ge 65, 3) := by decide +kernel
theorem dX12_writeDirty_114 : decode cX12_writeDirty 114 = .ok (.aload_n 0, 1) := by decide +kernel
theorem dX12_writeDirty_115 : decode cX12_writeDirty 115 = .ok (.getfield 394, 3) := by decide +kernel
theorem dX12_writeDirty_118 : decode cX12_writeDirty 118 = .ok (.iload 5, 2) := by decide +kernel
theorem dX12_writeDirty_120 : decode cX12_writeDirty 120 = .ok (.baload, 1) := by decide +kernel
theorem dX12_writeDirty_121 : decode cX12_writeDirty 121 = .ok (.ifCond .eq 49, 3) := by decide +kernel
theorem dX12_writeDirty_124 : decode cX12_writeDirty 124 = .ok (.aload_n 0, 1) := by decide +kernel
theorem dX12_writeDirty_125 : decode cX12_writeDirty 125 = .ok (.getfield 244, 3) := by decide +kernel
theorem dX12_writeDirty_128 : decode cX12_writeDirty 128 = .ok (.iload 5, 2) := by decide +kernel
theorem dX12_writeDirty_130 : decode cX12_writeDirty 130 = .ok (.baload, 1) := by decide +kernel
theorem dX12_writeDirty_131 : decode cX12_writeDirty 131 = .ok (.ifCond .ne 6, 3) := by decide +kernel
theorem dX12_writeDirty_134 : decode cX12_writeDirty 134 = .ok (.goto 36, 3) := by decide +kernel
theorem dX12_writeDirty_137 : decode cX12_writeDirty 137 = .ok (.aload_n 0, 1) := by decide +kernel
theorem dX12_writeDirty_138 : decode cX12_writeDirty 138 = .ok (.aload_n 0, 1) := by decide +kernel
theorem dX12_writeDirty_139 : decode cX12_writeDirty 139 = .ok (.iload 5, 2) := by decide +kernel
theorem dX12_writeDirty_141 : decode cX12_writeDirty 141 = .ok (.invokevirtual 240, 3) := by decide +kernel
theorem dX12_writeDirty_144 : decode cX12_writeDirty 144 = .ok (.iconst 3, 1) := by decide +kernel
theorem dX12_writeDirty_145 : decode cX12_writeDirty 145 = .ok (.aload_n 0, 1) := by decide +kernel
theorem dX12_writeDirty_146 : decode cX12_writeDirty 146 = .ok (.getfield 13, 3) := by decide +kernel
theorem dX12_writeDirty_149 : decode cX12_writeDirty 149 = .ok (.iload 5, 2) := by decide +kernel
theorem dX12_writeDirty_151 : decode cX12_writeDirty 151 = .ok (.iconst 1, 1) := by decide +kernel
theorem dX12_writeDirty_152 : decode cX12_writeDirty 152 = .ok (.invokestatic 233, 3) := by decide +kernel
theorem dX12_writeDirty_155 : decode cX12_writeDirty 155 = .ok (.iaload, 1) := by decide +kernel
theorem dX12_writeDirty_156 : decode cX12_writeDirty 156 = .ok (.invokevirtual 183, 3) := by decide +kernel
theorem dX12_writeDirty_159 : decode cX12_writeDirty 159 = .ok (.aload_n 0, 1) := by decide +kernel
theorem dX12_writeDirty_160 : decode cX12_writeDirty 160 = .ok (.getfield 244, 3) := by decide +kernel
theorem dX12_writeDirty_163 : decode cX12_writeDirty 163 = .ok (.iload 5, 2) := by decide +kernel
theorem dX12_writeDirty_165 : decode cX12_writeDirty 165 = .ok (.iconst 0, 1) := by decide +kernel
theorem dX12_writeDirty_166 : decode cX12_writeDirty 166 = .ok (.bastore, 1) := by decide +kernel
theorem dX12_writeDirty_167 : decode cX12_writeDirty 167 = .ok (.iinc 4 1, 3) := by decide +kernel
theorem dX12_writeDirty_170 : decode cX12_writeDirty 170 = .ok (.iinc 5 1, 3) := by decide +kernel
theorem dX12_writeDirty_173 : decode cX12_writeDirty 173 = .ok (.goto (-74), 3) := by decide +kernel
theorem dX12_writeDirty_176 : decode cX12_writeDirty 176 = .ok (.iload 4, 2) := by decide +kernel
theorem dX12_writeDirty_178 : decode cX12_writeDirty 178 = .ok (.ireturn, 1) := by decide +kernel
set_option maxRecDepth 100000 in
set_option maxHeartbeats 1000000 in
theorem j_X12_writeDirty_176 {p : Program} {l : Launch} {e : Env} {s : State} {m : MethodId} {args : Array Value} {below : List Frame} {meth : Method} {c : Code} {D : va_G} {aC : Nat → ClassId} {b0 fu : Nat} {σ0 τ : tM} {v : (Int32) ⊕ Unit}  (C : tCx p l s m args meth c yX12_writeDirty.cls cX12_writeDirty 6 (some .int) D aC b0 σ0) (htab : ∀ x ∈ c.exceptionTable.toList, False) (hin : meth.name = yX12_writeDirty.name)  {x4 : Int32} {σ : tM} (hm : J_X12_writeDirty_176 b0 fu  x4 σ = some (v, τ)) : tX p l e s m args below meth c 6 4 92 D aC b0 σ0 (rxI "SyncTreeModel$Off" v) τ 176 [(4, .int (x4))] [] σ := by
  unfold J_X12_writeDirty_176 at hm
  refine zx_iload C dX12_writeDirty_176 0 rfl ?_
  obtain ⟨rfl, rfl⟩ := ret_e hm
  exact zx_iret C rfl rfl rfl dX12_writeDirty_178
set_option maxRecDepth 100000 in
set_option maxHeartbeats 1000000 in
theorem j_X12_writeDirty_170 {p : Program} {l : Launch} {e : Env} {s : State} {m : MethodId} {args : Array Value} {below : List Frame} {meth : Method} {c : Code} {D : va_G} {aC : Nat → ClassId} {b0 fu : Nat} {σ0 τ : tM} {v : (Int32) ⊕ Unit} {rc99 : Nat → Int32 → Int32 → Int32 → tM → Option (((Int32) ⊕ Unit) × tM)} (C : tCx p l s m args meth c yX12_writeDirty.cls cX12_writeDirty 6 (some .int) D aC b0 σ0) (htab : ∀ x ∈ c.exceptionTable.toList, False) (hin : meth.name = yX12_writeDirty.name) (hrc99 : ∀ (x0 : Nat) (x2 : Int32) (x4 : Int32) (x5 : Int32) (ρ : tM), rc99 x0 x2 x4 x5 ρ = some (v, τ) → tX p l e s m args below meth c 6 4 92 D aC b0 σ0 (rxI "SyncTreeModel$Off" v) τ 99 [(0, .ref (x0)), (2, .int (x2)), (4, .int (x4)), (5, .int (x5))] [] ρ) {x0 : Nat} {x2 : Int32} {x4 : Int32} {x5 : Int32} {σ : tM} (hm : J_X12_writeDirty_170 b0 fu rc99 x0 x2 x4 x5 σ = some (v, τ)) : tX p l e s m args below meth c 6 4 92 D aC b0 σ0 (rxI "SyncTreeModel$Off" v) τ 170 [(0, .ref (x0)), (2, .int (x2)), (4, .int (x4)), (5, .int (x5))] [] σ := by
  unfold J_X12_writeDirty_170 at hm
  obtain ⟨y20, hy20⟩ : ∃ z : Int32, z = (x5) + Int32.ofInt 1 := ⟨_, rfl⟩
  replace hm := ltb_e hm hy20
  refine zx_iinc C [(5, .int (y20)), (0, .ref (x0)), (2, .int (x2)), (4, .int (x4))] dX12_writeDirty_170 3 rfl hy20.symm (by decide) rfl ?_
  refine zx_goto C 99 dX12_writeDirty_173 (by decide) ?_
  exact zx_lv [1, 2, 3, 0] [(0, .ref (x0)), (2, .int (x2)), (4, .int (x4)), (5, .int (y20))] rfl (hrc99 _ _ _ _ _ hm)
set_option maxRecDepth 100000 in
set_option maxHeartbeats 1000000 in
theorem l_X12_writeDirty_99 {p : Program} {l : Launch} {e : Env} {s : State} {m : MethodId} {args : Array Value} {below : List Frame} {meth : Method} {c : Code} {D : va_G} {aC : Nat → ClassId} {b0 fu : Nat} {σ0 τ : tM} {v : (Int32) ⊕ Unit}  (C : tCx p l s m args meth c yX12_writeDirty.cls cX12_writeDirty 6 (some .int) D aC b0 σ0) (htab : ∀ x ∈ c.exceptionTable.toList, False) (hin : meth.name = yX12_writeDirty.name)  : ∀ (n : Nat) (x0 : Nat) (x2 : Int32) (x4 : Int32) (x5 : Int32) (σ : tM), L_X12_writeDirty_99 b0 fu  n x0 x2 x4 x5 σ = some (v, τ) → tX p l e s m args below meth c 6 4 92 D aC b0 σ0 (rxI "SyncTreeModel$Off" v) τ 99 [(0, .ref (x0)), (2, .int (x2)), (4, .int (x4)), (5, .int (x5))] [] σ := by
  intro n
  induction n with
  | zero => intro x0 x2 x4 x5 σ hm; unfold L_X12_writeDirty_99 at hm; cases hm
  | succ n ih =>
    intro x0 x2 x4 x5 σ hm
    unfold L_X12_writeDirty_99 at hm
    obtain ⟨rc99, hrc⟩ : ∃ z, z = L_X12_writeDirty_99 b0 fu  n := ⟨_, rfl⟩
    replace hm := ltb_e hm hrc
    rw [← hrc] at ih
    have hrc99 := ih
    clear ih hrc
    refine zx_iload C dX12_writeDirty_99 3 rfl ?_
    refine zx_aload_n C dX12_writeDirty_101 0 rfl ?_
    obtain ⟨k9, i10, hm⟩ := ckO_e hm
    refine zx_get (j := 7) C tC_11 k9 i10 ⟨by decide, Or.inl W_6_226⟩ dX12_writeDirty_102 (.int (tI (σ) (x0) 7)) rfl ?_
    refine zx_icmp_ge C 176 dX12_writeDirty_105 (by decide) (fun c11 => ?_) (fun c11 => ?_)
    · replace hm := ip_e hm c11
      exact zx_lv [2] [(4, .int (x4))] rfl (j_X12_writeDirty_176 C htab hin    hm)
    · replace hm := in_e hm c11
      refine zx_iload C dX12_writeDirty_108 2 rfl ?_
      refine zx_iload_n C dX12_writeDirty_110 1 rfl ?_
      refine zx_icmp_ge C 176 dX12_writeDirty_111 (by decide) (fun c12 => ?_) (fun c12 => ?_)
      · replace hm := ip_e hm c12
        exact zx_lv [2] [(4, .int (x4))] rfl (j_X12_writeDirty_176 C htab hin    hm)
      · replace hm := in_e hm c12
        refine zx_aload_n C dX12_writeDirty_114 0 rfl ?_
        obtain ⟨a13, h14, hm⟩ := osm_e hm
        refine zx_get (j := 59) C tC_11 k9 i10 ⟨by decide, Or.inl W_7_38⟩ dX12_writeDirty_115 (.ref a13) (rf_s h14) ?_
        refine zx_iload C dX12_writeDirty_118 3 rfl ?_
        obtain ⟨n17, k15, i16, hm⟩ := ckR_e hm
        obtain ⟨h18, hm⟩ := ckI_e hm
        refine zx_zald C k15 i16 h18 dX12_writeDirty_120 ?_
        refine zx_if_eq C 170 dX12_writeDirty_121 (by decide) (fun c19 => ?_) (fun c19 => ?_)
        · replace hm := ip_e hm c19
          exact zx_lv [0, 1, 2, 3] [(0, .ref (x0)), (2, .int (x2)), (4, .int (x4)), (5, .int (x5))] rfl (j_X12_writeDirty_170 C htab hin hrc99   hm)
        · replace hm := in_e hm c19
          refine zx_aload_n C dX12_writeDirty_124 0 rfl ?_
          obtain ⟨a21, h22, hm⟩ := osm_e hm
          refine zx_get (j := 23) C tC_11 k9 i10 ⟨by decide, Or.inl W_7_2⟩ dX12_writeDirty_125 (.ref a21) (rf_s h22) ?_
          refine zx_iload C dX12_writeDirty_128 3 rfl ?_
          obtain ⟨n25, k23, i24, hm⟩ := ckR_e hm
          obtain ⟨h26, hm⟩ := ckI_e hm
          refine zx_zald C k23 i24 h26 dX12_writeDirty_130 ?_
          refine zx_if_ne C 137 dX12_writeDirty_131 (by decide) (fun c27 => ?_) (fun c27 => ?_)
          · replace hm := in_e hm c27
            refine zx_aload_n C dX12_writeDirty_137 0 rfl ?_
            refine zx_aload_n C dX12_writeDirty_138 0 rfl ?_
            refine zx_iload C dX12_writeDirty_139 3 rfl ?_
            obtain ⟨v28, ρ29, h30, hm⟩ := cll_e hm
            refine zx_callV (σ := σ) C [.int (x5)] tC_11 k9 i10 Y_X12_numberOf W_8_123 W_8_125 Wp_100 (c_X12_numberOf h30) (by decide) (by decide) rfl (Nat.le_of_ble_eq_true rfl) dX12_writeDirty_141 rfl ?_
            refine zx_iconst (v := 3) C dX12_writeDirty_144 (by decide) ?_
            refine zx_aload_n C dX12_writeDirty_145 0 rfl ?_
            obtain ⟨k31, i32, hm⟩ := ckO_e hm
            obtain ⟨a33, h34, hm⟩ := osm_e hm
            refine zx_get (j := 1) C tC_11 k31 i32 ⟨by decide, Or.inl W_6_221⟩ dX12_writeDirty_146 (.ref a33) (rf_s h34) ?_
            refine zx_iload C dX12_writeDirty_149 3 rfl ?_
            refine zx_iconst (v := 1) C dX12_writeDirty_151 (by decide) ?_
            obtain ⟨v35, ρ36, h37, hm⟩ := cll_e hm
            refine zx_callS (σ := ρ29) C [.int (x5), .int (1)] Y_X12_room W_6_209 W_6_210 (c_X12_room h37) (by decide) (by decide) rfl (Nat.le_of_ble_eq_true rfl) dX12_writeDirty_152 rfl ?_
            obtain ⟨n40, k38, i39, hm⟩ := ckR_e hm
            obtain ⟨h41, hm⟩ := ckI_e hm
            refine zx_iald C k38 i39 h41 dX12_writeDirty_155 ?_
            obtain ⟨k42, i43, hm⟩ := ckO_e hm
            rcases clx_e hm with ⟨v44, ρ45, h46, hm⟩ | ⟨ρ45, h46, hm⟩
            · refine zx_callV (σ := ρ36) C [.int (v28), .int (3), .int (tI (ρ36) (a33) ((v35).toNatClampNeg))] tC_11 k42 i43 Y_X12_version W_7_237 W_7_239 Wp_70 (c_X12_version h46) (by decide) (by decide) rfl (Nat.le_of_ble_eq_true rfl) dX12_writeDirty_156 rfl ?_
              refine zx_aload_n C dX12_writeDirty_159 0 rfl ?_
              obtain ⟨k47, i48, hm⟩ := ckO_e hm
              obtain ⟨a49, h50, hm⟩ := osm_e hm
              refine zx_get (j := 23) C tC_11 k47 i48 ⟨by decide, Or.inl W_7_2⟩ dX12_writeDirty_160 (.ref a49) (rf_s h50) ?_
              refine zx_iload C dX12_writeDirty_163 3 rfl ?_
              refine zx_iconst (v := 0) C dX12_writeDirty_165 (by decide) ?_
              obtain ⟨n53, k51, i52, hm⟩ := ckR_e hm
              obtain ⟨h54, hm⟩ := ckI_e hm
              refine zx_zast C k51 i52 h54 dX12_writeDirty_166 ?_
              obtain ⟨y55, hy55⟩ : ∃ z : Int32, z = (x4) + Int32.ofInt 1 := ⟨_, rfl⟩
              replace hm := ltb_e hm hy55
              refine zx_iinc C [(4, .int (y55)), (0, .ref (x0)), (2, .int (x2)), (5, .int (x5))] dX12_writeDirty_167 2 rfl hy55.symm (by decide) rfl ?_
              exact zx_lv [1, 2, 0, 3] [(0, .ref (x0)), (2, .int (x2)), (4, .int (y55)), (5, .int (x5))] rfl (j_X12_writeDirty_170 C htab hin hrc99   hm)
            · cases hm
              exact zx_outV (σ := ρ36) C htab [.int (v28), .int (3), .int (tI (ρ36) (a33) ((v35).toNatClampNeg))] tC_11 k42 i43 Y_X12_version W_7_237 W_7_239 Wp_70 (c_X12_version h46) rfl (by decide) (by decide) rfl (Nat.le_of_ble_eq_true rfl) dX12_writeDirty_156 rfl
          · replace hm := ip_e hm c27
            refine zx_goto C 170 dX12_writeDirty_134 (by decide) ?_
            exact zx_lv [0, 1, 2, 3] [(0, .ref (x0)), (2, .int (x2)), (4, .int (x4)), (5, .int (x5))] rfl (j_X12_writeDirty_170 C htab hin hrc99   hm)
set_option maxRecDepth 100000 in
set_option maxHeartbeats 1000000 in
theorem j_X12_writeDirty_87 {p : Program} {l : Launch} {e : Env} {s : State} {m : MethodId} {args : Array Value} {below : List Frame} {meth : Method} {c : Code} {D : va_G} {aC : Nat → ClassId} {b0 fu : Nat} {σ0 τ : tM} {v : (Int32) ⊕ Unit} {rc57 : Nat → Int32 → Int32 → Int32 → Int32 → tM → Option (((Int32) ⊕ Unit) × tM)} (C : tCx p l s m args meth c yX12_writeDirty.cls cX12_writeDirty 6 (some .int) D aC b0 σ0) (htab : ∀ x ∈ c.exceptionTable.toList, False) (hin : meth.name = yX12_writeDirty.name) (hrc57 : ∀ (x0 : Nat) (x1 : Int32) (x2 : Int32) (x3 : Int32) (x4 : Int32) (ρ : tM), rc57 x0 x1 x2 x3 x4 ρ = some (v, τ) → tX p l e s m args below meth c 6 4 92 D aC b0 σ0 (rxI "SyncTreeModel$Off" v) τ 57 [(0, .ref (x0)), (1, .int (x1)), (2, .int (x2)), (3, .int (x3)), (4, .int (x4))] [] ρ) {x0 : Nat} {x1 : Int32} {x2 : Int32} {x3 : Int32} {x4 : Int32} {σ : tM} (hm : J_X12_writeDirty_87 b0 fu rc57 x0 x1 x2 x3 x4 σ = some (v, τ)) : tX p l e s m args below meth c 6 4 92 D aC b0 σ0 (rxI "SyncTreeModel$Off" v) τ 87 [(0, .ref (x0)), (1, .int (x1)), (2, .int (x2)), (3, .int (x3)), (4, .int (x4))] [] σ := by
  unfold J_X12_writeDirty_87 at hm
  obtain ⟨y64, hy64⟩ : ∃ z : Int32, z = (x4) + Int32.ofInt 1 := ⟨_, rfl⟩
  replace hm := ltb_e hm hy64
  refine zx_iinc C [(4, .int (y64)), (0, .ref (x0)), (1, .int (x1)), (2, .int (x2)), (3, .int (x3))] dX12_writeDirty_87 4 rfl hy64.symm (by decide) rfl ?_
  refine zx_goto C 57 dX12_writeDirty_90 (by decide) ?_
  exact zx_lv [1, 2, 3, 4, 0] [(0, .ref (x0)), (1, .int (x1)), (2, .int (x2)), (3, .int (x3)), (4, .int (y64))] rfl (hrc57 _ _ _ _ _ _ hm)
set_option maxRecDepth 100000 in
set_option maxHeartbeats 1000000 in
theorem l_X12_writeDirty_57 {p : Program} {l : Launch} {e : Env} {s : State} {m : MethodId} {args : Array Value} {below : List Frame} {meth : Method} {c : Code} {D : va_G} {aC : Nat → ClassId} {b0 fu : Nat} {σ0 τ : tM} {v : (Int32) ⊕ Unit}  (C : tCx p l s m args meth c yX12_writeDirty.cls cX12_writeDirty 6 (some .int) D aC b0 σ0) (htab : ∀ x ∈ c.exceptionTable.toList, False) (hin : meth.name = yX12_writeDirty.name)  : ∀ (n : Nat) (x0 : Nat) (x1 : Int32) (x2 : Int32) (x3 : Int32) (x4 : Int32) (σ : tM), L_X12_writeDirty_57 b0 fu  n x0 x1 x2 x3 x4 σ = some (v, τ) → tX p l e s m args below meth c 6 4 92 D aC b0 σ0 (rxI "SyncTreeModel$Off" v) τ 57 [(0, .ref (x0)), (1, .int (x1)), (2, .int (x2)), (3, .int (x3)), (4, .int (x4))] [] σ := by
  intro n
  induction n with
  | zero => intro x0 x1 x2 x3 x4 σ hm; unfold L_X12_writeDirty_57 at hm; cases hm
  | succ n ih =>
    intro x0 x1 x2 x3 x4 σ hm
    unfold L_X12_writeDirty_57 at hm
    obtain ⟨rc57, hrc⟩ : ∃ z, z = L_X12_writeDirty_57 b0 fu  n := ⟨_, rfl⟩
    replace hm := ltb_e hm hrc
    rw [← hrc] at ih
    have hrc57 := ih
    clear ih hrc
    refine zx_iload C dX12_writeDirty_57 4 rfl ?_
    refine zx_iload_n C dX12_writeDirty_59 3 rfl ?_
    refine zx_icmp_ge C 93 dX12_writeDirty_60 (by decide) (fun c8 => ?_) (fun c8 => ?_)
    · replace hm := ip_e hm c8
      refine zx_iconst (v := 0) C dX12_writeDirty_93 (by decide) ?_
      refine zx_istore C [(4, .int (0)), (0, .ref (x0)), (1, .int (x1)), (2, .int (x2)), (3, .int (x3))] dX12_writeDirty_94 (by decide) rfl ?_
      refine zx_iconst (v := 0) C dX12_writeDirty_96 (by decide) ?_
      refine zx_istore C [(5, .int (0)), (4, .int (0)), (0, .ref (x0)), (1, .int (x1)), (2, .int (x2)), (3, .int (x3))] dX12_writeDirty_97 (by decide) rfl ?_
      exact zx_lv [2, 4, 1, 0] [(0, .ref (x0)), (2, .int (x2)), (4, .int (0)), (5, .int (0))] rfl (l_X12_writeDirty_99 C htab hin  _ _ _ _ _ _ hm)
    · replace hm := in_e hm c8
      refine zx_aload_n C dX12_writeDirty_63 0 rfl ?_
      refine zx_iload_n C dX12_writeDirty_64 1 rfl ?_
      refine zx_iload C dX12_writeDirty_65 4 rfl ?_
      obtain ⟨k57, i58, hm⟩ := ckO_e hm
      obtain ⟨v59, ρ60, h61, hm⟩ := cll_e hm
      refine zx_callV (σ := σ) C [.int (x1), .int (x4)] tC_11 k57 i58 Y_X12_has W_8_60 W_8_62 Wp_85 (c_X12_has h61) (by decide) (by decide) rfl (Nat.le_of_ble_eq_true rfl) dX12_writeDirty_67 rfl ?_
      refine zx_iconst (v := 1) C dX12_writeDirty_70 (by decide) ?_
      refine zx_isub C dX12_writeDirty_71 ?_
      refine zx_topi (fun y62 hy62 => ?_)
      replace hm := ltb_e hm hy62
      refine zx_istore C [(5, .int (y62)), (0, .ref (x0)), (1, .int (x1)), (2, .int (x2)), (3, .int (x3)), (4, .int (x4))] dX12_writeDirty_72 (by decide) rfl ?_
      refine zx_iload C dX12_writeDirty_74 0 rfl ?_
      refine zx_if_lt C 87 dX12_writeDirty_76 (by decide) (fun c63 => ?_) (fun c63 => ?_)
      · replace hm := ip_e hm c63
        exact zx_lv [1, 2, 3, 4, 5] [(0, .ref (x0)), (1, .int (x1)), (2, .int (x2)), (3, .int (x3)), (4, .int (x4))] rfl (j_X12_writeDirty_87 C htab hin hrc57   hm)
      · replace hm := in_e hm c63
        refine zx_aload_n C dX12_writeDirty_79 1 rfl ?_
        obtain ⟨k65, i66, hm⟩ := ckO_e hm
        obtain ⟨a67, h68, hm⟩ := osm_e hm
        refine zx_get (j := 59) C tC_11 k65 i66 ⟨by decide, Or.inl W_7_38⟩ dX12_writeDirty_80 (.ref a67) (rf_s h68) ?_
        refine zx_iload C dX12_writeDirty_83 0 rfl ?_
        refine zx_iconst (v := 1) C dX12_writeDirty_85 (by decide) ?_
        obtain ⟨n71, k69, i70, hm⟩ := ckR_e hm
        obtain ⟨h72, hm⟩ := ckI_e hm
        refine zx_zast C k69 i70 h72 dX12_writeDirty_86 ?_
        exact zx_lv [1, 2, 3, 4, 5] [(0, .ref (x0)), (1, .int (x1)), (2, .int (x2)), (3, .int (x3)), (4, .int (x4))] rfl (j_X12_writeDirty_87 C htab hin hrc57   hm)
set_option maxRecDepth 100000 in
set_option maxHeartbeats 1000000 in
theorem j_X12_writeDirty_53 {p : Program} {l : Launch} {e : Env} {s : State} {m : MethodId} {args : Array Value} {below : List Frame} {meth : Method} {c : Code} {D : va_G} {aC : Nat → ClassId} {b0 fu : Nat} {σ0 τ : tM} {v : (Int32) ⊕ Unit}  (C : tCx p l s m args meth c yX12_writeDirty.cls cX12_writeDirty 6 (some .int) D aC b0 σ0) (htab : ∀ x ∈ c.exceptionTable.toList, False) (hin : meth.name = yX12_writeDirty.name)  {x0 : Nat} {x1 : Int32} {x2 : Int32} {s0 : Int32} {σ : tM} (hm : J_X12_writeDirty_53 b0 fu  x0 x1 x2 s0 σ = some (v, τ)) : tX p l e s m args below meth c 6 4 92 D aC b0 σ0 (rxI "SyncTreeModel$Off" v) τ 53 [(0, .ref (x0)), (1, .int (x1)), (2, .int (x2))] [.int (s0)] σ := by
  unfold J_X12_writeDirty_53 at hm
  refine zx_istore_n C [(3, .int (s0)), (0, .ref (x0)), (1, .int (x1)), (2, .int (x2))] dX12_writeDirty_53 rfl (by decide) rfl ?_
  refine zx_iconst (v := 0) C dX12_writeDirty_54 (by decide) ?_
  refine zx_istore C [(4, .int (0)), (3, .int (s0)), (0, .ref (x0)), (1, .int (x1)), (2, .int (x2))] dX12_writeDirty_55 (by decide) rfl ?_
  exact zx_lv [2, 3, 4, 1, 0] [(0, .ref (x0)), (1, .int (x1)), (2, .int (x2)), (3, .int (s0)), (4, .int (0))] rfl (l_X12_writeDirty_57 C htab hin  _ _ _ _ _ _ _ hm)
set_option maxRecDepth 100000 in
set_option maxHeartbeats 1000000 in
theorem j_X12_writeDirty_24 {p : Program} {l : Launch} {e : Env} {s : State} {m : MethodId} {args : Array Value} {below : List Frame} {meth : Method} {c : Code} {D : va_G} {aC : Nat → ClassId} {b0 fu : Nat} {σ0 τ : tM} {v : (Int32) ⊕ Unit} {rc2 : Nat → Int32 → Int32 → Int32 → tM → Option (((Int32) ⊕ Unit) × tM)} (C : tCx p l s m args meth c yX12_writeDirty.cls cX12_writeDirty 6 (some .int) D aC b0 σ0) (htab : ∀ x ∈ c.exceptionTable.toList, False) (hin : meth.name = yX12_writeDirty.name) (hrc2 : ∀ (x0 : Nat) (x1 : Int32) (x2 : Int32) (x3 : Int32) (ρ : tM), rc2 x0 x1 x2 x3 ρ = some (v, τ) → tX p l e s m args below meth c 6 4 92 D aC b0 σ0 (rxI "SyncTreeModel$Off" v) τ 2 [(0, .ref (x0)), (1, .int (x1)), (2, .int (x2)), (3, .int (x3))] [] ρ) {x0 : Nat} {x1 : Int32} {x2 : Int32} {x3 : Int32} {s0 : Nat} {s1 : Int32} {s2 : Int32} {σ : tM} (hm : J_X12_writeDirty_24 b0 fu rc2 x0 x1 x2 x3 s0 s1 s2 σ = some (v, τ)) : tX p l e s m args below meth c 6 4 92 D aC b0 σ0 (rxI "SyncTreeModel$Off" v) τ 24 [(0, .ref (x0)), (1, .int (x1)), (2, .int (x2)), (3, .int (x3))] [.int (s2), .int (s1), .ref (s0)] σ := by
  unfold J_X12_writeDirty_24 at hm
  obtain ⟨n79, k77, i78, hm⟩ := ckR_e hm
  obtain ⟨h80, hm⟩ := ckI_e hm
  refine zx_zast C k77 i78 h80 dX12_writeDirty_24 ?_
  obtain ⟨y81, hy81⟩ : ∃ z : Int32, z = (x3) + Int32.ofInt 1 := ⟨_, rfl⟩
  replace hm := ltb_e hm hy81
  refine zx_iinc C [(3, .int (y81)), (0, .ref (x0)), (1, .int (x1)), (2, .int (x2))] dX12_writeDirty_25 3 rfl hy81.symm (by decide) rfl ?_
  refine zx_goto C 2 dX12_writeDirty_28 (by decide) ?_
  exact zx_lv [1, 2, 3, 0] [(0, .ref (x0)), (1, .int (x1)), (2, .int (x2)), (3, .int (y81))] rfl (hrc2 _ _ _ _ _ hm)
set_option maxRecDepth 100000 in
set_option maxHeartbeats 1000000 in
theorem l_X12_writeDirty_2 {p : Program} {l : Launch} {e : Env} {s : State} {m : MethodId} {args : Array Value} {below : List Frame} {meth : Method} {c : Code} {D : va_G} {aC : Nat → ClassId} {b0 fu : Nat} {σ0 τ : tM} {v : (Int32) ⊕ Unit}  (C : tCx p l s m args meth c yX12_writeDirty.cls cX12_writeDirty 6 (some .int) D aC b0 σ0) (htab : ∀ x ∈ c.exceptionTable.toList, False) (hin : meth.name = yX12_writeDirty.name)  : ∀ (n : Nat) (x0 : Nat) (x1 : Int32) (x2 : Int32) (x3 : Int32) (σ : tM), L_X12_writeDirty_2 b0 fu  n x0 x1 x2 x3 σ = some (v, τ) → tX p l e s m args below meth c 6 4 92 D aC b0 σ0 (rxI "SyncTreeModel$Off" v) τ 2 [(0, .ref (x0)), (1, .int (x1)), (2, .int (x2)), (3, .int (x3))] [] σ := by
  intro n
  induction n with
  | zero => intro x0 x1 x2 x3 σ hm; unfold L_X12_writeDirty_2 at hm; cases hm
  | succ n ih =>
    intro x0 x1 x2 x3 σ hm
    unfold L_X12_writeDirty_2 at hm
    obtain ⟨rc2, hrc⟩ : ∃ z, z = L_X12_writeDirty_2 b0 fu  n := ⟨_, rfl⟩
    replace hm := ltb_e hm hrc
    rw [← hrc] at ih
    have hrc2 := ih
    clear ih hrc
    refine zx_iload_n C dX12_writeDirty_2 3 rfl ?_
    refine zx_aload_n C dX12_writeDirty_3 0 rfl ?_
    obtain ⟨k1, i2, hm⟩ := ckO_e hm
    refine zx_get (j := 7) C tC_11 k1 i2 ⟨by decide, Or.inl W_6_226⟩ dX12_writeDirty_4 (.int (tI (σ) (x0) 7)) rfl ?_
    refine zx_icmp_ge C 31 dX12_writeDirty_7 (by decide) (fun c3 => ?_) (fun c3 => ?_)
    · replace hm := ip_e hm c3
      refine zx_iload_n C dX12_writeDirty_31 1 rfl ?_
      refine zx_if_ge C 39 dX12_writeDirty_32 (by decide) (fun c4 => ?_) (fun c4 => ?_)
      · replace hm := ip_e hm c4
        refine zx_aload_n C dX12_writeDirty_39 0 rfl ?_
        refine zx_iload_n C dX12_writeDirty_40 1 rfl ?_
        refine zx_iconst (v := 1) C dX12_writeDirty_41 (by decide) ?_
        obtain ⟨v5, ρ6, h7, hm⟩ := cll_e hm
        refine zx_callV (σ := σ) C [.int (x1), .int (1)] tC_11 k1 i2 Y_X12_node W_8_40 W_8_42 Wp_80 (c_X12_node h7) (by decide) (by decide) rfl (Nat.le_of_ble_eq_true rfl) dX12_writeDirty_42 rfl ?_
        refine zx_sipush (v := 255) C dX12_writeDirty_45 (by decide) ?_
        refine zx_iadd C dX12_writeDirty_48 ?_
        refine zx_sipush (v := 256) C dX12_writeDirty_49 (by decide) ?_
        refine zx_idiv C dX12_writeDirty_52 (by decide) ?_
        exact zx_lv [0, 1, 2] [(0, .ref (x0)), (1, .int (x1)), (2, .int (x2))] rfl (j_X12_writeDirty_53 C htab hin    hm)
      · replace hm := in_e hm c4
        refine zx_iconst (v := 0) C dX12_writeDirty_35 (by decide) ?_
        refine zx_goto C 53 dX12_writeDirty_36 (by decide) ?_
        exact zx_lv [0, 1, 2] [(0, .ref (x0)), (1, .int (x1)), (2, .int (x2))] rfl (j_X12_writeDirty_53 C htab hin    hm)
    · replace hm := in_e hm c3
      refine zx_aload_n C dX12_writeDirty_10 0 rfl ?_
      obtain ⟨a74, h75, hm⟩ := osm_e hm
      refine zx_get (j := 59) C tC_11 k1 i2 ⟨by decide, Or.inl W_7_38⟩ dX12_writeDirty_11 (.ref a74) (rf_s h75) ?_
      refine zx_iload_n C dX12_writeDirty_14 3 rfl ?_
      refine zx_iload_n C dX12_writeDirty_15 1 rfl ?_
      refine zx_if_ge C 23 dX12_writeDirty_16 (by decide) (fun c76 => ?_) (fun c76 => ?_)
      · replace hm := ip_e hm c76
        refine zx_iconst (v := 0) C dX12_writeDirty_23 (by decide) ?_
        exact zx_lv [0, 1, 2, 3] [(0, .ref (x0)), (1, .int (x1)), (2, .int (x2)), (3, .int (x3))] rfl (j_X12_writeDirty_24 C htab hin hrc2   hm)
      · replace hm := in_e hm c76
        refine zx_iconst (v := 1) C dX12_writeDirty_19 (by decide) ?_
        refine zx_goto C 24 dX12_writeDirty_20 (by decide) ?_
        exact zx_lv [0, 1, 2, 3] [(0, .ref (x0)), (1, .int (x1)), (2, .int (x2)), (3, .int (x3))] rfl (j_X12_writeDirty_24 C htab hin hrc2   hm)
set_option maxRecDepth 100000 in
set_option maxHeartbeats 1000000 in
theorem c_X12_writeDirty {l : Launch} {D : va_G} {aC : Nat → ClassId} {b0 fu : Nat} {a0 : Nat} {p0 : Int32} {p1 : Int32} {σ τ : tM} {v : (Int32) ⊕ Unit} (hm : m_X12_writeDirty b0 fu a0 p0 p1 σ = some (v, τ)) : tMt l D aC b0 yX12_writeDirty (Cond.code yX12_writeDirty cX12_writeDirty 6 (some .int)) 4 92 [.ref (a0), .int (p0), .int (p1)] σ (rxI "SyncTreeModel$Off" v) τ := by
  unfold m_X12_writeDirty at hm
  obtain ⟨hg, hm⟩ := grw_e hm
  refine tMt_of (n := 0) rfl (Nat.le_of_ble_eq_true rfl) hg ?_
  intro p e s m below meth c C htab hin
  refine zx_lv [0, 1, 2] [(0, .ref (a0)), (1, .int (p0)), (2, .int (p1))] rfl ?_
  refine zx_iconst (v := 0) C dX12_writeDirty_0 (by decide) ?_
  refine zx_istore_n C [(3, .int (0)), (0, .ref (a0)), (1, .int (p0)), (2, .int (p1))] dX12_writeDirty_1 rfl (by decide) rfl ?_
  exact zx_lv [1, 2, 3, 0] [(0, .ref (a0)), (1, .int (p0)), (2, .int (p1)), (3, .int (0))] rfl (l_X12_writeDirty_2 C htab hin  _ _ _ _ _ _ hm)
