abbrev cX12_drop : ByteArray := prog_13_method_41_code
def yX12_drop : MethodName := ⟨"SyncTreeModel", "drop", "(II)V"⟩
theorem Y_X12_drop : tY yX12_drop cX12_drop 7 none 2 := ⟨W_8_170, W_1_14, ⟨by decide +kernel, by decide +kernel⟩, by decide +kernel⟩
theorem dX12_drop_0 : decode cX12_drop 0 = .ok (.aload_n 0, 1) := by decide +kernel
theorem dX12_drop_1 : decode cX12_drop 1 = .ok (.iload_n 1, 1) := by decide +kernel
theorem dX12_drop_2 : decode cX12_drop 2 = .ok (.iload_n 2, 1) := by decide +kernel
theorem dX12_drop_3 : decode cX12_drop 3 = .ok (.invokevirtual 259, 3) := by decide +kernel
theorem dX12_drop_6 : decode cX12_drop 6 = .ok (.iconst 1, 1) := by decide +kernel
theorem dX12_drop_7 : decode cX12_drop 7 = .ok (.isub, 1) := by decide +kernel
theorem dX12_drop_8 : decode cX12_drop 8 = .ok (.istore_n 3, 1) := by decide +kernel
theorem dX12_drop_9 : decode cX12_drop 9 = .ok (.iload_n 3, 1) := by decide +kernel
theorem dX12_drop_10 : decode cX12_drop 10 = .ok (.ifCond .ge 4, 3) := by decide +kernel
theorem dX12_drop_13 : decode cX12_drop 13 = .ok (.return_, 1) := by decide +kernel
theorem dX12_drop_14 : decode cX12_drop 14 = .ok (.aload_n 0, 1) := by decide +kernel
theorem dX12_drop_15 : decode cX12_drop 15 = .ok (.getfield 193, 3) := by decide +kernel
theorem dX12_drop_18 : decode cX12_drop 18 = .ok (.iload_n 1, 1) := by decide +kernel
theorem dX12_drop_19 : decode cX12_drop 19 = .ok (.iconst 1, 1) := by decide +kernel
theorem dX12_drop_20 : decode cX12_drop 20 = .ok (.bastore, 1) := by decide +kernel
theorem dX12_drop_21 : decode cX12_drop 21 = .ok (.aload_n 0, 1) := by decide +kernel
theorem dX12_drop_22 : decode cX12_drop 22 = .ok (.iload_n 1, 1) := by decide +kernel
theorem dX12_drop_23 : decode cX12_drop 23 = .ok (.iconst 0, 1) := by decide +kernel
theorem dX12_drop_24 : decode cX12_drop 24 = .ok (.invokevirtual 247, 3) := by decide +kernel
theorem dX12_drop_27 : decode cX12_drop 27 = .ok (.iconst 2, 1) := by decide +kernel
theorem dX12_drop_28 : decode cX12_drop 28 = .ok (.if_icmp .ne 7, 3) := by decide +kernel
theorem dX12_drop_31 : decode cX12_drop 31 = .ok (.iconst 1, 1) := by decide +kernel
theorem dX12_drop_32 : decode cX12_drop 32 = .ok (.goto 4, 3) := by decide +kernel
theorem dX12_drop_35 : decode cX12_drop 35 = .ok (.iconst 0, 1) := by decide +kernel
theorem dX12_drop_36 : decode cX12_drop 36 = .ok (.istore 4, 2) := by decide +kernel
theorem dX12_drop_38 : decode cX12_drop 38 = .ok (.iload_n 2, 1) := by decide +kernel
theorem dX12_drop_39 : decode cX12_drop 39 = .ok (.bipush 8, 2) := by decide +kernel
theorem dX12_drop_41 : decode cX12_drop 41 = .ok (.if_icmp .ge 21, 3) := by decide +kernel
theorem dX12_drop_44 : decode cX12_drop 44 = .ok (.aload_n 0, 1) := by decide +kernel
theorem dX12_drop_45 : decode cX12_drop 45 = .ok (.iload_n 1, 1) := by decide +kernel
theorem dX12_drop_46 : decode cX12_drop 46 = .ok (.bipush 85, 2) := by decide +kernel
theorem dX12_drop_48 : decode cX12_drop 48 = .ok (.iload_n 2, 1) := by decide +kernel
theorem dX12_drop_49 : decode cX12_drop 49 = .ok (.iadd, 1) := by decide +kernel
theorem dX12_drop_50 : decode cX12_drop 50 = .ok (.iconst 0, 1) := by decide +kernel
theorem dX12_drop_51 : decode cX12_drop 51 = .ok (.invokevirtual 266, 3) := by decide +kernel
theorem dX12_drop_54 : decode cX12_drop 54 = .ok (.aload_n 0, 1) := by decide +kernel
theorem dX12_drop_55 : decode cX12_drop 55 = .ok (.iload_n 3, 1) := by decide +kernel
theorem dX12_drop_56 : decode cX12_drop 56 = .ok (.iload 4, 2) := by decide +kernel
theorem dX12_drop_58 : decode cX12_drop 58 = .ok (.invokevirtual 272, 3) := by decide +kernel
theorem dX12_drop_61 : decode cX12_drop 61 = .ok (.return_, 1) := by decide +kernel
theorem dX12_drop_62 : decode cX12_drop 62 = .ok (.aload_n 0, 1) := by decide +kernel
theorem dX12_drop_63 : decode cX12_drop 63 = .ok (.iload_n 1, 1) := by decide +kernel
theorem dX12_drop_64 : decode cX12_drop 64 = .ok (.iload_n 2, 1) := by decide +kernel
theorem dX12_drop_65 : decode cX12_drop 65 = .ok (.invokevirtual 253, 3) := by decide +kernel
theorem dX12_drop_68 : decode cX12_drop 68 = .ok (.iconst 1, 1) := by decide +kernel
theorem dX12_drop_69 : decode cX12_drop 69 = .ok (.isub, 1) := by decide +kernel
theorem dX12_drop_70 : decode cX12_drop 70 = .ok (.istore 5, 2) := by decide +kernel
theorem dX12_drop_72 : decode cX12_drop 72 = .ok (.aload_n 0, 1) := by decide +kernel
theorem dX12_drop_73 : decode cX12_drop 73 = .ok (.iload 5, 2) := by decide +kernel
theorem dX12_drop_75 : decode cX12_drop 75 = .ok (.iload_n 2, 1) := by decide +kernel
theorem dX12_drop_76 : decode cX12_drop 76 = .ok (.invokestatic 256, 3) := by decide +kernel
theorem dX12_drop_79 : decode cX12_drop 79 = .ok (.iconst 0, 1) := by decide +kernel
theorem dX12_drop_80 : decode cX12_drop 80 = .ok (.invokevirtual 269, 3) := by decide +kernel
theorem dX12_drop_83 : decode cX12_drop 83 = .ok (.aload_n 0, 1) := by decide +kernel
theorem dX12_drop_84 : decode cX12_drop 84 = .ok (.iload_n 3, 1) := by decide +kernel
theorem dX12_drop_85 : decode cX12_drop 85 = .ok (.iload 4, 2) := by decide +kernel
theorem dX12_drop_87 : decode cX12_drop 87 = .ok (.invokevirtual 272, 3) := by decide +kernel
theorem dX12_drop_90 : decode cX12_drop 90 = .ok (.aload_n 0, 1) := by decide +kernel
theorem dX12_drop_91 : decode cX12_drop 91 = .ok (.iload 5, 2) := by decide +kernel
theorem dX12_drop_93 : decode cX12_drop 93 = .ok (.invokevirtual 276, 3) := by decide +kernel
theorem dX12_drop_96 : decode cX12_drop 96 = .ok (.ifCond .ne 4, 3) := by decide +kernel
theorem dX12_drop_99 : decode cX12_drop 99 = .ok (.return_, 1) := by decide +kernel
theorem dX12_drop_100 : decode cX12_drop 100 = .ok (.iload_n 2, 1) := by decide +kernel
theorem dX12_drop_101 : decode cX12_drop 101 = .ok (.bipush 40, 2) := by decide +kernel
theorem dX12_drop_103 : decode cX12_drop 103 = .ok (.if_icmp .ge 19, 3) := by decide +kernel
theorem dX12_drop_106 : decode cX12_drop 106 = .ok (.aload_n 0, 1) := by decide +kernel
theorem dX12_drop_107 : decode cX12_drop 107 = .ok (.iload_n 1, 1) := by decide +kernel
theorem dX12_drop_108 : decode cX12_drop 108 = .ok (.bipush 93, 2) := by decide +kernel
theorem dX12_drop_110 : decode cX12_drop 110 = .ok (.iconst 0, 1) := by decide +kernel
theorem dX12_drop_111 : decode cX12_drop 111 = .ok (.invokevirtual 266, 3) := by decide +kernel
theorem dX12_drop_114 : decode cX12_drop 114 = .ok (.aload_n 0, 1) := by decide +kernel
theorem dX12_drop_115 : decode cX12_drop 115 = .ok (.iload 5, 2) := by decide +kernel
theorem dX12_drop_117 : decode cX12_drop 117 = .ok (.iconst 1, 1) := by decide +kernel
theorem dX12_drop_118 : decode cX12_drop 118 = .ok (.invokevirtual 272, 3) := by decide +kernel
theorem dX12_drop_121 : decode cX12_drop 121 = .ok (.return_, 1) := by decide +kernel
theorem dX12_drop_122 : decode cX12_drop 122 = .ok (.aload_n 0, 1) := by decide +kernel
theorem dX12_drop_123 : decode cX12_drop 123 = .ok (.iload_n 1, 1) := by decide +kernel
theorem dX12_drop_124 : decode cX12_drop 124 = .ok (.bipush 94, 2) := by decide +kernel
theorem dX12_drop_126 : decode cX12_drop 126 = .ok (.invokevirtual 247, 3) := by decide +kernel
theorem dX12_drop_129 : decode cX12_drop 129 = .ok (.iconst 1, 1) := by decide +kernel
theorem dX12_drop_130 : decode cX12_drop 130 = .ok (.isub, 1) := by decide +kernel
theorem dX12_drop_131 : decode cX12_drop 131 = .ok (.istore 6, 2) := by decide +kernel
theorem dX12_drop_133 : decode cX12_drop 133 = .ok (.aload_n 0, 1) := by decide +kernel
theorem dX12_drop_134 : decode cX12_drop 134 = .ok (.iload 6, 2) := by decide +kernel
theorem dX12_drop_136 : decode cX12_drop 136 = .ok (.iload_n 2, 1) := by decide +kernel
theorem dX12_drop_137 : decode cX12_drop 137 = .ok (.bipush 40, 2) := by decide +kernel
theorem dX12_drop_139 : decode cX12_drop 139 = .ok (.isub, 1) := by decide +kernel
theorem dX12_drop_140 : decode cX12_drop 140 = .ok (.bipush 32, 2) := by decide +kernel
theorem dX12_drop_142 : decode cX12_drop 142 = .ok (.idiv, 1) := by decide +kernel
theorem dX12_drop_143 : decode cX12_drop 143 = .ok (.iconst 0, 1) := by decide +kernel
theorem dX12_drop_144 : decode cX12_drop 144 = .ok (.invokevirtual 269, 3) := by decide +kernel
theorem dX12_drop_147 : decode cX12_drop 147 = .ok (.aload_n 0, 1) := by decide +kernel
theorem dX12_drop_148 : decode cX12_drop 148 = .ok (.iload 5, 2) := by decide +kernel
theorem dX12_drop_150 : decode cX12_drop 150 = .ok (.iconst 1, 1) := by decide +kernel
theorem dX12_drop_151 : decode cX12_drop 151 = .ok (.invokevirtual 272, 3) := by decide +kernel
theorem dX12_drop_154 : decode cX12_drop 154 = .ok (.aload_n 0, 1) := by decide +kernel
theorem dX12_drop_155 : decode cX12_drop 155 = .ok (.iload 6, 2) := by decide +kernel
theorem dX12_drop_157 : decode cX12_drop 157 = .ok (.invokevirtual 276, 3) := by decide +kernel
theorem dX12_drop_160 : decode cX12_drop 160 = .ok (.ifCond .ne 4, 3) := by decide +kernel
theorem dX12_drop_163 : decode cX12_drop 163 = .ok (.return_, 1) := by decide +kernel
theorem dX12_drop_164 : decode cX12_drop 164 = .ok (.aload_n 0, 1) := by decide +kernel
theorem dX12_drop_165 : decode cX12_drop 165 = .ok (.iload_n 1, 1) := by decide +kernel
theorem dX12_drop_166 : decode cX12_drop 166 = .ok (.bipush 94, 2) := by decide +kernel
theorem dX12_drop_168 : decode cX12_drop 168 = .ok (.iconst 0, 1) := by decide +kernel
theorem dX12_drop_169 : decode cX12_drop 169 = .ok (.invokevirtual 266, 3) := by decide +kernel
theorem dX12_drop_172 : decode cX12_drop 172 = .ok (.aload_n 0, 1) := by decide +kernel
theorem dX12_drop_173 : decode cX12_drop 173 = .ok (.iload 6, 2) := by decide +kernel
theorem dX12_drop_175 : decode cX12_drop 175 = .ok (.iconst 1, 1) := by decide +kernel
theorem dX12_drop_176 : decode cX12_drop 176 = .ok (.invokevirtual 272, 3) := by decide +kernel
theorem dX12_drop_179 : decode cX12_drop 179 = .ok (.return_, 1) := by decide +kernel
set_option maxRecDepth 100000 in
set_option maxHeartbeats 1000000 in
theorem j_X12_drop_36 {p : Program} {l : Launch} {e : Env} {s : State} {m : MethodId} {args : Array Value} {below : List Frame} {meth : Method} {c : Code} {D : va_G} {aC : Nat → ClassId} {b0 fu : Nat} {σ0 τ : tM} {v : Unit}  (C : tCx p l s m args meth c yX12_drop.cls cX12_drop 7 none D aC b0 σ0) (htab : ∀ x ∈ c.exceptionTable.toList, False) (hin : meth.name = yX12_drop.name)  {x0 : Nat} {x1 : Int32} {x2 : Int32} {x3 : Int32} {s0 : Int32} {σ : tM} (hm : J_X12_drop_36 b0 fu  x0 x1 x2 x3 s0 σ = some (v, τ)) : tX p l e s m args below meth c 7 4 93 D aC b0 σ0 (.inl none) τ 36 [(0, .ref (x0)), (1, .int (x1)), (2, .int (x2)), (3, .int (x3))] [.int (s0)] σ := by
  unfold J_X12_drop_36 at hm
  refine zx_istore C [(4, .int (s0)), (0, .ref (x0)), (1, .int (x1)), (2, .int (x2)), (3, .int (x3))] dX12_drop_36 (by decide) rfl ?_
  refine zx_iload_n C dX12_drop_38 3 rfl ?_
  refine zx_bipush (v := 8) C dX12_drop_39 (by decide) ?_
  refine zx_icmp_ge C 62 dX12_drop_41 (by decide) (fun c20 => ?_) (fun c20 => ?_)
  · replace hm := ip_e hm c20
    refine zx_aload_n C dX12_drop_62 1 rfl ?_
    refine zx_iload_n C dX12_drop_63 2 rfl ?_
    refine zx_iload_n C dX12_drop_64 3 rfl ?_
    obtain ⟨k21, i22, hm⟩ := ckO_e hm
    obtain ⟨v23, ρ24, h25, hm⟩ := cll_e hm
    refine zx_callV (σ := σ) C [.int (x1), .int (x2)] tC_11 k21 i22 Y_X12_leafOf W_8_64 W_8_66 Wp_86 (c_X12_leafOf h25) (by decide) (by decide) rfl (Nat.le_of_ble_eq_true rfl) dX12_drop_65 rfl ?_
    refine zx_iconst (v := 1) C dX12_drop_68 (by decide) ?_
    refine zx_isub C dX12_drop_69 ?_
    refine zx_topi (fun y26 hy26 => ?_)
    replace hm := ltb_e hm hy26
    refine zx_istore C [(5, .int (y26)), (4, .int (s0)), (0, .ref (x0)), (1, .int (x1)), (2, .int (x2)), (3, .int (x3))] dX12_drop_70 (by decide) rfl ?_
    refine zx_aload_n C dX12_drop_72 2 rfl ?_
    refine zx_iload C dX12_drop_73 0 rfl ?_
    refine zx_iload_n C dX12_drop_75 4 rfl ?_
    obtain ⟨v27, ρ28, h29, hm⟩ := cll_e hm
    refine zx_callS (σ := ρ24) C [.int (x2)] Y_X12_placeOf W_8_72 W_8_73 (c_X12_placeOf h29) (by decide) (by decide) rfl (Nat.le_of_ble_eq_true rfl) dX12_drop_76 rfl ?_
    refine zx_iconst (v := 0) C dX12_drop_79 (by decide) ?_
    obtain ⟨k30, i31, hm⟩ := ckO_e hm
    obtain ⟨v32, ρ33, h34, hm⟩ := cll_e hm
    refine zx_callV (σ := ρ28) C [.int (y26), .int (v27), .int (0)] tC_11 k30 i31 Y_X12_putPointer W_8_127 W_8_129 Wp_101 (c_X12_putPointer h34) (by decide) (by decide) rfl (Nat.le_of_ble_eq_true rfl) dX12_drop_80 rfl ?_
    refine zx_aload_n C dX12_drop_83 2 rfl ?_
    refine zx_iload_n C dX12_drop_84 5 rfl ?_
    refine zx_iload C dX12_drop_85 1 rfl ?_
    obtain ⟨k35, i36, hm⟩ := ckO_e hm
    obtain ⟨v37, ρ38, h39, hm⟩ := cll_e hm
    refine zx_callV (σ := ρ33) C [.int (x3), .int (s0)] tC_11 k35 i36 Y_X12_free W_8_171 W_8_173 Wp_108 (c_X12_free h39) (by decide) (by decide) rfl (Nat.le_of_ble_eq_true rfl) dX12_drop_87 rfl ?_
    refine zx_aload_n C dX12_drop_90 2 rfl ?_
    refine zx_iload C dX12_drop_91 0 rfl ?_
    obtain ⟨k40, i41, hm⟩ := ckO_e hm
    obtain ⟨v42, ρ43, h44, hm⟩ := cll_e hm
    refine zx_callV (σ := ρ38) C [.int (y26)] tC_11 k40 i41 Y_X12_isEmpty W_8_175 W_8_177 Wp_109 (c_X12_isEmpty h44) (by decide) (by decide) rfl (Nat.le_of_ble_eq_true rfl) dX12_drop_93 rfl ?_
    refine zx_if_ne C 100 dX12_drop_96 (by decide) (fun c45 => ?_) (fun c45 => ?_)
    · replace hm := in_e hm c45
      refine zx_iload_n C dX12_drop_100 4 rfl ?_
      refine zx_bipush (v := 40) C dX12_drop_101 (by decide) ?_
      refine zx_icmp_ge C 122 dX12_drop_103 (by decide) (fun c46 => ?_) (fun c46 => ?_)
      · replace hm := ip_e hm c46
        refine zx_aload_n C dX12_drop_122 2 rfl ?_
        refine zx_iload_n C dX12_drop_123 3 rfl ?_
        refine zx_bipush (v := 94) C dX12_drop_124 (by decide) ?_
        obtain ⟨k47, i48, hm⟩ := ckO_e hm
        obtain ⟨v49, ρ50, h51, hm⟩ := cll_e hm
        refine zx_callV (σ := ρ43) C [.int (x1), .int (94)] tC_11 k47 i48 Y_X12_node W_8_40 W_8_42 Wp_80 (c_X12_node h51) (by decide) (by decide) rfl (Nat.le_of_ble_eq_true rfl) dX12_drop_126 rfl ?_
        refine zx_iconst (v := 1) C dX12_drop_129 (by decide) ?_
        refine zx_isub C dX12_drop_130 ?_
        refine zx_topi (fun y52 hy52 => ?_)
        replace hm := ltb_e hm hy52
        refine zx_istore C [(6, .int (y52)), (5, .int (y26)), (4, .int (s0)), (0, .ref (x0)), (1, .int (x1)), (2, .int (x2)), (3, .int (x3))] dX12_drop_131 (by decide) rfl ?_
        refine zx_aload_n C dX12_drop_133 3 rfl ?_
        refine zx_iload C dX12_drop_134 0 rfl ?_
        refine zx_iload_n C dX12_drop_136 5 rfl ?_
        refine zx_bipush (v := 40) C dX12_drop_137 (by decide) ?_
        refine zx_isub C dX12_drop_139 ?_
        refine zx_bipush (v := 32) C dX12_drop_140 (by decide) ?_
        refine zx_idiv C dX12_drop_142 (by decide) ?_
        refine zx_iconst (v := 0) C dX12_drop_143 (by decide) ?_
        obtain ⟨k53, i54, hm⟩ := ckO_e hm
        obtain ⟨v55, ρ56, h57, hm⟩ := cll_e hm
        refine zx_callV (σ := ρ50) C [.int (y52), .int (((x2) - (40)) / (32)), .int (0)] tC_11 k53 i54 Y_X12_putPointer W_8_127 W_8_129 Wp_101 (c_X12_putPointer h57) (by decide) (by decide) rfl (Nat.le_of_ble_eq_true rfl) dX12_drop_144 rfl ?_
        refine zx_aload_n C dX12_drop_147 3 rfl ?_
        refine zx_iload C dX12_drop_148 1 rfl ?_
        refine zx_iconst (v := 1) C dX12_drop_150 (by decide) ?_
        obtain ⟨k58, i59, hm⟩ := ckO_e hm
        obtain ⟨v60, ρ61, h62, hm⟩ := cll_e hm
        refine zx_callV (σ := ρ56) C [.int (y26), .int (1)] tC_11 k58 i59 Y_X12_free W_8_171 W_8_173 Wp_108 (c_X12_free h62) (by decide) (by decide) rfl (Nat.le_of_ble_eq_true rfl) dX12_drop_151 rfl ?_
        refine zx_aload_n C dX12_drop_154 3 rfl ?_
        refine zx_iload C dX12_drop_155 0 rfl ?_
        obtain ⟨k63, i64, hm⟩ := ckO_e hm
        obtain ⟨v65, ρ66, h67, hm⟩ := cll_e hm
        refine zx_callV (σ := ρ61) C [.int (y52)] tC_11 k63 i64 Y_X12_isEmpty W_8_175 W_8_177 Wp_109 (c_X12_isEmpty h67) (by decide) (by decide) rfl (Nat.le_of_ble_eq_true rfl) dX12_drop_157 rfl ?_
        refine zx_if_ne C 164 dX12_drop_160 (by decide) (fun c68 => ?_) (fun c68 => ?_)
        · replace hm := in_e hm c68
          refine zx_aload_n C dX12_drop_164 3 rfl ?_
          refine zx_iload_n C dX12_drop_165 4 rfl ?_
          refine zx_bipush (v := 94) C dX12_drop_166 (by decide) ?_
          refine zx_iconst (v := 0) C dX12_drop_168 (by decide) ?_
          obtain ⟨k69, i70, hm⟩ := ckO_e hm
          obtain ⟨v71, ρ72, h73, hm⟩ := cll_e hm
          refine zx_callV (σ := ρ66) C [.int (x1), .int (94), .int (0)] tC_11 k69 i70 Y_X12_putNode W_8_99 W_8_101 Wp_94 (c_X12_putNode h73) (by decide) (by decide) rfl (Nat.le_of_ble_eq_true rfl) dX12_drop_169 rfl ?_
          refine zx_aload_n C dX12_drop_172 3 rfl ?_
          refine zx_iload C dX12_drop_173 0 rfl ?_
          refine zx_iconst (v := 1) C dX12_drop_175 (by decide) ?_
          obtain ⟨k74, i75, hm⟩ := ckO_e hm
          obtain ⟨v76, ρ77, h78, hm⟩ := cll_e hm
          refine zx_callV (σ := ρ72) C [.int (y52), .int (1)] tC_11 k74 i75 Y_X12_free W_8_171 W_8_173 Wp_108 (c_X12_free h78) (by decide) (by decide) rfl (Nat.le_of_ble_eq_true rfl) dX12_drop_176 rfl ?_
          obtain ⟨rfl, rfl⟩ := ret_e hm
          exact zx_vret C rfl rfl rfl dX12_drop_179
        · replace hm := ip_e hm c68
          obtain ⟨rfl, rfl⟩ := ret_e hm
          exact zx_vret C rfl rfl rfl dX12_drop_163
      · replace hm := in_e hm c46
        refine zx_aload_n C dX12_drop_106 2 rfl ?_
        refine zx_iload_n C dX12_drop_107 3 rfl ?_
        refine zx_bipush (v := 93) C dX12_drop_108 (by decide) ?_
        refine zx_iconst (v := 0) C dX12_drop_110 (by decide) ?_
        obtain ⟨k80, i81, hm⟩ := ckO_e hm
        obtain ⟨v82, ρ83, h84, hm⟩ := cll_e hm
        refine zx_callV (σ := ρ43) C [.int (x1), .int (93), .int (0)] tC_11 k80 i81 Y_X12_putNode W_8_99 W_8_101 Wp_94 (c_X12_putNode h84) (by decide) (by decide) rfl (Nat.le_of_ble_eq_true rfl) dX12_drop_111 rfl ?_
        refine zx_aload_n C dX12_drop_114 2 rfl ?_
        refine zx_iload C dX12_drop_115 0 rfl ?_
        refine zx_iconst (v := 1) C dX12_drop_117 (by decide) ?_
        obtain ⟨k85, i86, hm⟩ := ckO_e hm
        obtain ⟨v87, ρ88, h89, hm⟩ := cll_e hm
        refine zx_callV (σ := ρ83) C [.int (y26), .int (1)] tC_11 k85 i86 Y_X12_free W_8_171 W_8_173 Wp_108 (c_X12_free h89) (by decide) (by decide) rfl (Nat.le_of_ble_eq_true rfl) dX12_drop_118 rfl ?_
        obtain ⟨rfl, rfl⟩ := ret_e hm
        exact zx_vret C rfl rfl rfl dX12_drop_121
    · replace hm := ip_e hm c45
      obtain ⟨rfl, rfl⟩ := ret_e hm
      exact zx_vret C rfl rfl rfl dX12_drop_99
  · replace hm := in_e hm c20
    refine zx_aload_n C dX12_drop_44 1 rfl ?_
    refine zx_iload_n C dX12_drop_45 2 rfl ?_
    refine zx_bipush (v := 85) C dX12_drop_46 (by decide) ?_
    refine zx_iload_n C dX12_drop_48 3 rfl ?_
    refine zx_iadd C dX12_drop_49 ?_
    refine zx_iconst (v := 0) C dX12_drop_50 (by decide) ?_
    obtain ⟨k90, i91, hm⟩ := ckO_e hm
    obtain ⟨v92, ρ93, h94, hm⟩ := cll_e hm
    refine zx_callV (σ := σ) C [.int (x1), .int ((85) + (x2)), .int (0)] tC_11 k90 i91 Y_X12_putNode W_8_99 W_8_101 Wp_94 (c_X12_putNode h94) (by decide) (by decide) rfl (Nat.le_of_ble_eq_true rfl) dX12_drop_51 rfl ?_
    refine zx_aload_n C dX12_drop_54 1 rfl ?_
    refine zx_iload_n C dX12_drop_55 4 rfl ?_
    refine zx_iload C dX12_drop_56 0 rfl ?_
    obtain ⟨k95, i96, hm⟩ := ckO_e hm
    obtain ⟨v97, ρ98, h99, hm⟩ := cll_e hm
    refine zx_callV (σ := ρ93) C [.int (x3), .int (s0)] tC_11 k95 i96 Y_X12_free W_8_171 W_8_173 Wp_108 (c_X12_free h99) (by decide) (by decide) rfl (Nat.le_of_ble_eq_true rfl) dX12_drop_58 rfl ?_
    obtain ⟨rfl, rfl⟩ := ret_e hm
    exact zx_vret C rfl rfl rfl dX12_drop_61
set_option maxRecDepth 100000 in
set_option maxHeartbeats 1000000 in
theorem c_X12_drop {l : Launch} {D : va_G} {aC : Nat → ClassId} {b0 fu : Nat} {a0 : Nat} {p0 : Int32} {p1 : Int32} {σ τ : tM} {v : Unit} (hm : m_X12_drop b0 fu a0 p0 p1 σ = some (v, τ)) : tMt l D aC b0 yX12_drop (Cond.code yX12_drop cX12_drop 7 none) 4 93 [.ref (a0), .int (p0), .int (p1)] σ (.inl none) τ := by
  unfold m_X12_drop at hm
  obtain ⟨hg, hm⟩ := grw_e hm
  refine tMt_of (n := 0) rfl (Nat.le_of_ble_eq_true rfl) hg ?_
  intro p e s m below meth c C htab hin
  refine zx_lv [0, 1, 2] [(0, .ref (a0)), (1, .int (p0)), (2, .int (p1))] rfl ?_
  refine zx_aload_n C dX12_drop_0 0 rfl ?_
  refine zx_iload_n C dX12_drop_1 1 rfl ?_
  refine zx_iload_n C dX12_drop_2 2 rfl ?_
  obtain ⟨k1, i2, hm⟩ := ckO_e hm
  obtain ⟨v3, ρ4, h5, hm⟩ := cll_e hm
  refine zx_callV (σ := σ) C [.int (p0), .int (p1)] tC_11 k1 i2 Y_X12_has W_8_60 W_8_62 Wp_85 (c_X12_has h5) (by decide) (by decide) rfl (Nat.le_of_ble_eq_true rfl) dX12_drop_3 rfl ?_
  refine zx_iconst (v := 1) C dX12_drop_6 (by decide) ?_
  refine zx_isub C dX12_drop_7 ?_
  refine zx_topi (fun y6 hy6 => ?_)
  replace hm := ltb_e hm hy6
  refine zx_istore_n C [(3, .int (y6)), (0, .ref (a0)), (1, .int (p0)), (2, .int (p1))] dX12_drop_8 rfl (by decide) rfl ?_
  refine zx_iload_n C dX12_drop_9 0 rfl ?_
  refine zx_if_ge C 14 dX12_drop_10 (by decide) (fun c7 => ?_) (fun c7 => ?_)
  · replace hm := ip_e hm c7
    refine zx_aload_n C dX12_drop_14 1 rfl ?_
    obtain ⟨k8, i9, hm⟩ := ckO_e hm
    obtain ⟨a10, h11, hm⟩ := osm_e hm
    refine zx_get (j := 25) C tC_11 k8 i9 ⟨by decide, Or.inl W_7_4⟩ dX12_drop_15 (.ref a10) (rf_s h11) ?_
    refine zx_iload_n C dX12_drop_18 2 rfl ?_
    refine zx_iconst (v := 1) C dX12_drop_19 (by decide) ?_
    obtain ⟨n14, k12, i13, hm⟩ := ckR_e hm
    obtain ⟨h15, hm⟩ := ckI_e hm
    refine zx_zast C k12 i13 h15 dX12_drop_20 ?_
    refine zx_aload_n C dX12_drop_21 1 rfl ?_
    refine zx_iload_n C dX12_drop_22 2 rfl ?_
    refine zx_iconst (v := 0) C dX12_drop_23 (by decide) ?_
    obtain ⟨v16, ρ17, h18, hm⟩ := cll_e hm
    refine zx_callV (σ := sI (ρ4) (a10) ((p0).toNatClampNeg) (vp_nar .boolean ((1 : Int32)))) C [.int (p0), .int (0)] tC_11 k8 i9 Y_X12_node W_8_40 W_8_42 Wp_80 (c_X12_node h18) (by decide) (by decide) rfl (Nat.le_of_ble_eq_true rfl) dX12_drop_24 rfl ?_
    refine zx_iconst (v := 2) C dX12_drop_27 (by decide) ?_
    refine zx_icmp_ne C 35 dX12_drop_28 (by decide) (fun c19 => ?_) (fun c19 => ?_)
    · replace hm := in_e hm c19
      refine zx_iconst (v := 0) C dX12_drop_35 (by decide) ?_
      exact zx_lv [1, 2, 3, 0] [(0, .ref (a0)), (1, .int (p0)), (2, .int (p1)), (3, .int (y6))] rfl (j_X12_drop_36 C htab hin    hm)
    · replace hm := ip_e hm c19
      refine zx_iconst (v := 1) C dX12_drop_31 (by decide) ?_
      refine zx_goto C 36 dX12_drop_32 (by decide) ?_
      exact zx_lv [1, 2, 3, 0] [(0, .ref (a0)), (1, .int (p0)), (2, .int (p1)), (3, .int (y6))] rfl (j_X12_drop_36 C htab hin    hm)
  · replace hm := in_e hm c7
    obtain ⟨rfl, rfl⟩ := ret_e hm
    exact zx_vret C rfl rfl rfl dX12_drop_13
abbrev cX12_setSize : ByteArray := prog_13_method_42_code
def yX12_setSize : MethodName := ⟨"SyncTreeModel", "setSize", "(II)V"⟩
theorem Y_X12_setSize : tY yX12_setSize cX12_setSize 7 none 2 := ⟨W_8_194, W_1_14, ⟨by decide +kernel, by decide +kernel⟩, by decide +kernel⟩
theorem dX12_setSize_0 : decode cX12_setSize 0 = .ok (.aload_n 0, 1) := by decide +kernel
theorem dX12_setSize_1 : decode cX12_setSize 1 = .ok (.iload_n 1, 1) := by decide +kernel
theorem dX12_setSize_2 : decode cX12_setSize 2 = .ok (.iconst 1, 1) := by decide +kernel
theorem dX12_setSize_3 : decode cX12_setSize 3 = .ok (.invokevirtual 247, 3) := by decide +kernel
theorem dX12_setSize_6 : decode cX12_setSize 6 = .ok (.istore_n 3, 1) := by decide +kernel
theorem dX12_setSize_7 : decode cX12_setSize 7 = .ok (.aload_n 0, 1) := by decide +kernel
theorem dX12_setSize_8 : decode cX12_setSize 8 = .ok (.iload_n 1, 1) := by decide +kernel
theorem dX12_setSize_9 : decode cX12_setSize 9 = .ok (.iconst 1, 1) := by decide +kernel
theorem dX12_setSize_10 : decode cX12_setSize 10 = .ok (.iload_n 2, 1) := by decide +kernel
theorem dX12_setSize_11 : decode cX12_setSize 11 = .ok (.invokevirtual 266, 3) := by decide +kernel
theorem dX12_setSize_14 : decode cX12_setSize 14 = .ok (.iload_n 3, 1) := by decide +kernel
theorem dX12_setSize_15 : decode cX12_setSize 15 = .ok (.iload_n 2, 1) := by decide +kernel
theorem dX12_setSize_16 : decode cX12_setSize 16 = .ok (.if_icmp .ne 4, 3) := by decide +kernel
theorem dX12_setSize_19 : decode cX12_setSize 19 = .ok (.return_, 1) := by decide +kernel
theorem dX12_setSize_20 : decode cX12_setSize 20 = .ok (.aload_n 0, 1) := by decide +kernel
theorem dX12_setSize_21 : decode cX12_setSize 21 = .ok (.getfield 193, 3) := by decide +kernel
theorem dX12_setSize_24 : decode cX12_setSize 24 = .ok (.iload_n 1, 1) := by decide +kernel
theorem dX12_setSize_25 : decode cX12_setSize 25 = .ok (.iconst 1, 1) := by decide +kernel
theorem dX12_setSize_26 : decode cX12_setSize 26 = .ok (.bastore, 1) := by decide +kernel
theorem dX12_setSize_27 : decode cX12_setSize 27 = .ok (.iload_n 3, 1) := by decide +kernel
theorem dX12_setSize_28 : decode cX12_setSize 28 = .ok (.iload_n 2, 1) := by decide +kernel
theorem dX12_setSize_29 : decode cX12_setSize 29 = .ok (.invokestatic 279, 3) := by decide +kernel
theorem dX12_setSize_32 : decode cX12_setSize 32 = .ok (.istore 4, 2) := by decide +kernel
theorem dX12_setSize_34 : decode cX12_setSize 34 = .ok (.iload 4, 2) := by decide +kernel
theorem dX12_setSize_36 : decode cX12_setSize 36 = .ok (.ldc_w 282, 3) := by decide +kernel
theorem dX12_setSize_39 : decode cX12_setSize 39 = .ok (.if_icmp .ge 19, 3) := by decide +kernel
theorem dX12_setSize_42 : decode cX12_setSize 42 = .ok (.aload_n 0, 1) := by decide +kernel
theorem dX12_setSize_43 : decode cX12_setSize 43 = .ok (.iload_n 1, 1) := by decide +kernel
theorem dX12_setSize_44 : decode cX12_setSize 44 = .ok (.iload 4, 2) := by decide +kernel
theorem dX12_setSize_46 : decode cX12_setSize 46 = .ok (.sipush 256, 3) := by decide +kernel
theorem dX12_setSize_49 : decode cX12_setSize 49 = .ok (.idiv, 1) := by decide +kernel
theorem dX12_setSize_50 : decode cX12_setSize 50 = .ok (.invokevirtual 259, 3) := by decide +kernel
theorem dX12_setSize_53 : decode cX12_setSize 53 = .ok (.iconst 1, 1) := by decide +kernel
theorem dX12_setSize_54 : decode cX12_setSize 54 = .ok (.isub, 1) := by decide +kernel
theorem dX12_setSize_55 : decode cX12_setSize 55 = .ok (.goto 4, 3) := by decide +kernel
theorem dX12_setSize_58 : decode cX12_setSize 58 = .ok (.iconst (-1), 1) := by decide +kernel
theorem dX12_setSize_59 : decode cX12_setSize 59 = .ok (.istore 5, 2) := by decide +kernel
theorem dX12_setSize_61 : decode cX12_setSize 61 = .ok (.iload 4, 2) := by decide +kernel
theorem dX12_setSize_63 : decode cX12_setSize 63 = .ok (.sipush 256, 3) := by decide +kernel
theorem dX12_setSize_66 : decode cX12_setSize 66 = .ok (.irem, 1) := by decide +kernel
theorem dX12_setSize_67 : decode cX12_setSize 67 = .ok (.istore 6, 2) := by decide +kernel
theorem dX12_setSize_69 : decode cX12_setSize 69 = .ok (.iload 6, 2) := by decide +kernel
theorem dX12_setSize_71 : decode cX12_setSize 71 = .ok (.sipush 256, 3) := by decide +kernel
theorem dX12_setSize_74 : decode cX12_setSize 74 = .ok (.if_icmp .ge 54, 3) := by decide +kernel
theorem dX12_setSize_77 : decode cX12_setSize 77 = .ok (.iload 5, 2) := by decide +kernel
theorem dX12_setSize_79 : decode cX12_setSize 79 = .ok (.ifCond .lt 49, 3) := by decide +kernel
theorem dX12_setSize_82 : decode cX12_setSize 82 = .ok (.aload_n 0, 1) := by decide +kernel
theorem dX12_setSize_83 : decode cX12_setSize 83 = .ok (.getfield 102, 3) := by decide +kernel
theorem dX12_setSize_86 : decode cX12_setSize 86 = .ok (.sipush 256, 3) := by decide +kernel
theorem dX12_setSize_89 : decode cX12_setSize 89 = .ok (.iload 5, 2) := by decide +kernel
theorem dX12_setSize_91 : decode cX12_setSize 91 = .ok (.imul, 1) := by decide +kernel
theorem dX12_setSize_92 : decode cX12_setSize 92 = .ok (.iload 6, 2) := by decide +kernel
theorem dX12_setSize_94 : decode cX12_setSize 94 = .ok (.iadd, 1) := by decide +kernel
theorem dX12_setSize_95 : decode cX12_setSize 95 = .ok (.baload, 1) := by decide +kernel
theorem dX12_setSize_96 : decode cX12_setSize 96 = .ok (.ifCond .eq 11, 3) := by decide +kernel
theorem dX12_setSize_99 : decode cX12_setSize 99 = .ok (.aload_n 0, 1) := by decide +kernel
theorem dX12_setSize_100 : decode cX12_setSize 100 = .ok (.getfield 244, 3) := by decide +kernel
theorem dX12_setSize_103 : decode cX12_setSize 103 = .ok (.iload 5, 2) := by decide +kernel
theorem dX12_setSize_105 : decode cX12_setSize 105 = .ok (.iconst 1, 1) := by decide +kernel
theorem dX12_setSize_106 : decode cX12_setSize 106 = .ok (.bastore, 1) := by decide +kernel
theorem dX12_setSize_107 : decode cX12_setSize 107 = .ok (.aload_n 0, 1) := by decide +kernel
theorem dX12_setSize_108 : decode cX12_setSize 108 = .ok (.getfield 102, 3) := by decide +kernel
theorem dX12_setSize_111 : decode cX12_setSize 111 = .ok (.sipush 256, 3) := by decide +kernel
theorem dX12_setSize_114 : decode cX12_setSize 114 = .ok (.iload 5, 2) := by decide +kernel
theorem dX12_setSize_116 : decode cX12_setSize 116 = .ok (.imul, 1) := by decide +kernel
theorem dX12_setSize_117 : decode cX12_setSize 117 = .ok (.iload 6, 2) := by decide +kernel
theorem dX12_setSize_119 : decode cX12_setSize 119 = .ok (.iadd, 1) := by decide +kernel
theorem dX12_setSize_120 : decode cX12_setSize 120 = .ok (.iconst 0, 1) := by decide +kernel
theorem dX12_setSize_121 : decode cX12_setSize 121 = .ok (.bastore, 1) := by decide +kernel
theorem dX12_setSize_122 : decode cX12_setSize 122 = .ok (.iinc 6 1, 3) := by decide +kernel
theorem dX12_setSize_125 : decode cX12_setSize 125 = .ok (.goto (-56), 3) := by decide +kernel
theorem dX12_setSize_128 : decode cX12_setSize 128 = .ok (.iload_n 2, 1) := by decide +kernel
theorem dX12_setSize_129 : decode cX12_setSize 129 = .ok (.iload_n 3, 1) := by decide +kernel
theorem dX12_setSize_130 : decode cX12_setSize 130 = .ok (.if_icmp .le 4, 3) := by decide +kernel
theorem dX12_setSize_133 : decode cX12_setSize 133 = .ok (.return_, 1) := by decide +kernel
theorem dX12_setSize_134 : decode cX12_setSize 134 = .ok (.iload_n 3, 1) := by decide +kernel
theorem dX12_setSize_135 : decode cX12_setSize 135 = .ok (.iconst 1, 1) := by decide +kernel
theorem dX12_setSize_136 : decode cX12_setSize 136 = .ok (.isub, 1) := by decide +kernel
theorem dX12_setSize_137 : decode cX12_setSize 137 = .ok (.sipush 256, 3) := by decide +kernel
theorem dX12_setSize_140 : decode cX12_setSize 140 = .ok (.idiv, 1) := by decide +kernel
theorem dX12_setSize_141 : decode cX12_setSize 141 = .ok (.istore 6, 2) := by decide +kernel
theorem dX12_setSize_143 : decode cX12_setSize 143 = .ok (.sipush 256, 3) := by decide +kernel
theorem dX12_setSize_146 : decode cX12_setSize 146 = .ok (.iload 6, 2) := by decide +kernel
theorem dX12_setSize_148 : decode cX12_setSize 148 = .ok (.imul, 1) := by decide +kernel
theorem dX12_setSize_149 : decode cX12_setSize 149 = .ok (.iload_n 2, 1) := by decide +kernel
theorem dX12_setSize_150 : decode cX12_setSize 150 = .ok (.if_icmp .lt 21, 3) := by decide +kernel
theorem dX12_setSize_153 : decode cX12_setSize 153 = .ok (.iload 6, 2) := by decide +kernel
theorem dX12_setSize_155 : decode cX12_setSize 155 = .ok (.ifCond .lt 16, 3) := by decide +kernel
theorem dX12_setSize_158 : decode cX12_setSize 158 = .ok (.aload_n 0, 1) := by decide +kernel
theorem dX12_setSize_159 : decode cX12_setSize 159 = .ok (.iload_n 1, 1) := by decide +kernel
theorem dX12_setSize_160 : decode cX12_setSize 160 = .ok (.iload 6, 2) := by decide +kernel
theorem dX12_setSize_162 : decode cX12_setSize 162 = .ok (.invokevirtual 283, 3) := by decide +kernel
theorem dX12_setSize_165 : decode cX12_setSize 165 = .ok (.iinc 6 (-1), 3) := by decide +kernel
theorem dX12_setSize_168 : decode cX12_setSize 168 = .ok (.goto (-25), 3) := by decide +kernel
theorem dX12_setSize_171 : decode cX12_setSize 171 = .ok (.return_, 1) := by decide +kernel
set_option maxRecDepth 100000 in
set_option maxHeartbeats 1000000 in
theorem j_X12_setSize_171 {p : Program} {l : Launch} {e : Env} {s : State} {m : MethodId} {args : Array Value} {below : List Frame} {meth : Method} {c : Code} {D : va_G} {aC : Nat → ClassId} {b0 fu : Nat} {σ0 τ : tM} {v : Unit}  (C : tCx p l s m args meth c yX12_setSize.cls cX12_setSize 7 none D aC b0 σ0) (htab : ∀ x ∈ c.exceptionTable.toList, False) (hin : meth.name = yX12_setSize.name)   {σ : tM} (hm : J_X12_setSize_171 b0 fu   σ = some (v, τ)) : tX p l e s m args below meth c 7 5 119 D aC b0 σ0 (.inl none) τ 171 [] [] σ := by
  unfold J_X12_setSize_171 at hm
  obtain ⟨rfl, rfl⟩ := ret_e hm
  exact zx_vret C rfl rfl rfl dX12_setSize_171
set_option maxRecDepth 100000 in
set_option maxHeartbeats 1000000 in
theorem l_X12_setSize_143 {p : Program} {l : Launch} {e : Env} {s : State} {m : MethodId} {args : Array Value} {below : List Frame} {meth : Method} {c : Code} {D : va_G} {aC : Nat → ClassId} {b0 fu : Nat} {σ0 τ : tM} {v : Unit}  (C : tCx p l s m args meth c yX12_setSize.cls cX12_setSize 7 none D aC b0 σ0) (htab : ∀ x ∈ c.exceptionTable.toList, False) (hin : meth.name = yX12_setSize.name)  : ∀ (n : Nat) (x0 : Nat) (x1 : Int32) (x2 : Int32) (x6 : Int32) (σ : tM), L_X12_setSize_143 b0 fu  n x0 x1 x2 x6 σ = some (v, τ) → tX p l e s m args below meth c 7 5 119 D aC b0 σ0 (.inl none) τ 143 [(0, .ref (x0)), (1, .int (x1)), (2, .int (x2)), (6, .int (x6))] [] σ := by
  intro n
  induction n with
  | zero => intro x0 x1 x2 x6 σ hm; unfold L_X12_setSize_143 at hm; cases hm
  | succ n ih =>
    intro x0 x1 x2 x6 σ hm
    unfold L_X12_setSize_143 at hm
    obtain ⟨rc143, hrc⟩ : ∃ z, z = L_X12_setSize_143 b0 fu  n := ⟨_, rfl⟩
    replace hm := ltb_e hm hrc
    rw [← hrc] at ih
    have hrc143 := ih
    clear ih hrc
    refine zx_sipush (v := 256) C dX12_setSize_143 (by decide) ?_
    refine zx_iload C dX12_setSize_146 3 rfl ?_
    refine zx_imul C dX12_setSize_148 ?_
    refine zx_iload_n C dX12_setSize_149 2 rfl ?_
    refine zx_icmp_lt C 171 dX12_setSize_150 (by decide) (fun c26 => ?_) (fun c26 => ?_)
    · replace hm := ip_e hm c26
      exact zx_lv [] [] rfl (j_X12_setSize_171 C htab hin    hm)
    · replace hm := in_e hm c26
      refine zx_iload C dX12_setSize_153 3 rfl ?_
      refine zx_if_lt C 171 dX12_setSize_155 (by decide) (fun c27 => ?_) (fun c27 => ?_)
      · replace hm := ip_e hm c27
        exact zx_lv [] [] rfl (j_X12_setSize_171 C htab hin    hm)
      · replace hm := in_e hm c27
        refine zx_aload_n C dX12_setSize_158 0 rfl ?_
        refine zx_iload_n C dX12_setSize_159 1 rfl ?_
        refine zx_iload C dX12_setSize_160 3 rfl ?_
        obtain ⟨k28, i29, hm⟩ := ckO_e hm
        obtain ⟨v30, ρ31, h32, hm⟩ := cll_e hm
        refine zx_callV (σ := σ) C [.int (x1), .int (x6)] tC_11 k28 i29 Y_X12_drop W_8_167 W_8_169 Wp_107 (c_X12_drop h32) (by decide) (by decide) rfl (Nat.le_of_ble_eq_true rfl) dX12_setSize_162 rfl ?_
        obtain ⟨y33, hy33⟩ : ∃ z : Int32, z = (x6) + Int32.ofInt (-1) := ⟨_, rfl⟩
        replace hm := ltb_e hm hy33
        refine zx_iinc C [(6, .int (y33)), (0, .ref (x0)), (1, .int (x1)), (2, .int (x2))] dX12_setSize_165 3 rfl hy33.symm (by decide) rfl ?_
        refine zx_goto C 143 dX12_setSize_168 (by decide) ?_
        exact zx_lv [1, 2, 3, 0] [(0, .ref (x0)), (1, .int (x1)), (2, .int (x2)), (6, .int (y33))] rfl (hrc143 _ _ _ _ _ hm)
set_option maxRecDepth 100000 in
set_option maxHeartbeats 1000000 in
theorem j_X12_setSize_128 {p : Program} {l : Launch} {e : Env} {s : State} {m : MethodId} {args : Array Value} {below : List Frame} {meth : Method} {c : Code} {D : va_G} {aC : Nat → ClassId} {b0 fu : Nat} {σ0 τ : tM} {v : Unit}  (C : tCx p l s m args meth c yX12_setSize.cls cX12_setSize 7 none D aC b0 σ0) (htab : ∀ x ∈ c.exceptionTable.toList, False) (hin : meth.name = yX12_setSize.name)  {x0 : Nat} {x1 : Int32} {x2 : Int32} {x3 : Int32} {σ : tM} (hm : J_X12_setSize_128 b0 fu  x0 x1 x2 x3 σ = some (v, τ)) : tX p l e s m args below meth c 7 5 119 D aC b0 σ0 (.inl none) τ 128 [(0, .ref (x0)), (1, .int (x1)), (2, .int (x2)), (3, .int (x3))] [] σ := by
  unfold J_X12_setSize_128 at hm
  refine zx_iload_n C dX12_setSize_128 2 rfl ?_
  refine zx_iload_n C dX12_setSize_129 3 rfl ?_
  refine zx_icmp_le C 134 dX12_setSize_130 (by decide) (fun c24 => ?_) (fun c24 => ?_)
  · replace hm := ip_e hm c24
    refine zx_iload_n C dX12_setSize_134 3 rfl ?_
    refine zx_iconst (v := 1) C dX12_setSize_135 (by decide) ?_
    refine zx_isub C dX12_setSize_136 ?_
    refine zx_sipush (v := 256) C dX12_setSize_137 (by decide) ?_
    refine zx_idiv C dX12_setSize_140 (by decide) ?_
    refine zx_topi (fun y25 hy25 => ?_)
    replace hm := ltb_e hm hy25
    refine zx_istore C [(6, .int (y25)), (0, .ref (x0)), (1, .int (x1)), (2, .int (x2)), (3, .int (x3))] dX12_setSize_141 (by decide) rfl ?_
    exact zx_lv [1, 2, 3, 0] [(0, .ref (x0)), (1, .int (x1)), (2, .int (x2)), (6, .int (y25))] rfl (l_X12_setSize_143 C htab hin  _ _ _ _ _ _ hm)
  · replace hm := in_e hm c24
    obtain ⟨rfl, rfl⟩ := ret_e hm
    exact zx_vret C rfl rfl rfl dX12_setSize_133
set_option maxRecDepth 100000 in
set_option maxHeartbeats 1000000 in
theorem j_X12_setSize_107 {p : Program} {l : Launch} {e : Env} {s : State} {m : MethodId} {args : Array Value} {below : List Frame} {meth : Method} {c : Code} {D : va_G} {aC : Nat → ClassId} {b0 fu : Nat} {σ0 τ : tM} {v : Unit} {rc69 : Nat → Int32 → Int32 → Int32 → Int32 → Int32 → tM → Option ((Unit) × tM)} (C : tCx p l s m args meth c yX12_setSize.cls cX12_setSize 7 none D aC b0 σ0) (htab : ∀ x ∈ c.exceptionTable.toList, False) (hin : meth.name = yX12_setSize.name) (hrc69 : ∀ (x0 : Nat) (x1 : Int32) (x2 : Int32) (x3 : Int32) (x5 : Int32) (x6 : Int32) (ρ : tM), rc69 x0 x1 x2 x3 x5 x6 ρ = some (v, τ) → tX p l e s m args below meth c 7 5 119 D aC b0 σ0 (.inl none) τ 69 [(0, .ref (x0)), (1, .int (x1)), (2, .int (x2)), (3, .int (x3)), (5, .int (x5)), (6, .int (x6))] [] ρ) {x0 : Nat} {x1 : Int32} {x2 : Int32} {x3 : Int32} {x5 : Int32} {x6 : Int32} {σ : tM} (hm : J_X12_setSize_107 b0 fu rc69 x0 x1 x2 x3 x5 x6 σ = some (v, τ)) : tX p l e s m args below meth c 7 5 119 D aC b0 σ0 (.inl none) τ 107 [(0, .ref (x0)), (1, .int (x1)), (2, .int (x2)), (3, .int (x3)), (5, .int (x5)), (6, .int (x6))] [] σ := by
  unfold J_X12_setSize_107 at hm
  refine zx_aload_n C dX12_setSize_107 0 rfl ?_
  obtain ⟨k45, i46, hm⟩ := ckO_e hm
  obtain ⟨a47, h48, hm⟩ := osm_e hm
  refine zx_get (j := 22) C tC_11 k45 i46 ⟨by decide, Or.inl W_7_1⟩ dX12_setSize_108 (.ref a47) (rf_s h48) ?_
  refine zx_sipush (v := 256) C dX12_setSize_111 (by decide) ?_
  refine zx_iload C dX12_setSize_114 4 rfl ?_
  refine zx_imul C dX12_setSize_116 ?_
  refine zx_iload C dX12_setSize_117 5 rfl ?_
  refine zx_iadd C dX12_setSize_119 ?_
  refine zx_iconst (v := 0) C dX12_setSize_120 (by decide) ?_
  obtain ⟨n51, k49, i50, hm⟩ := ckR_e hm
  obtain ⟨h52, hm⟩ := ckI_e hm
  refine zx_bast C k49 i50 h52 dX12_setSize_121 ?_
  obtain ⟨y53, hy53⟩ : ∃ z : Int32, z = (x6) + Int32.ofInt 1 := ⟨_, rfl⟩
  replace hm := ltb_e hm hy53
  refine zx_iinc C [(6, .int (y53)), (0, .ref (x0)), (1, .int (x1)), (2, .int (x2)), (3, .int (x3)), (5, .int (x5))] dX12_setSize_122 5 rfl hy53.symm (by decide) rfl ?_
  refine zx_goto C 69 dX12_setSize_125 (by decide) ?_
  exact zx_lv [1, 2, 3, 4, 5, 0] [(0, .ref (x0)), (1, .int (x1)), (2, .int (x2)), (3, .int (x3)), (5, .int (x5)), (6, .int (y53))] rfl (hrc69 _ _ _ _ _ _ _ hm)
set_option maxRecDepth 100000 in
set_option maxHeartbeats 1000000 in
theorem l_X12_setSize_69 {p : Program} {l : Launch} {e : Env} {s : State} {m : MethodId} {args : Array Value} {below : List Frame} {meth : Method} {c : Code} {D : va_G} {aC : Nat → ClassId} {b0 fu : Nat} {σ0 τ : tM} {v : Unit}  (C : tCx p l s m args meth c yX12_setSize.cls cX12_setSize 7 none D aC b0 σ0) (htab : ∀ x ∈ c.exceptionTable.toList, False) (hin : meth.name = yX12_setSize.name)  : ∀ (n : Nat) (x0 : Nat) (x1 : Int32) (x2 : Int32) (x3 : Int32) (x5 : Int32) (x6 : Int32) (σ : tM), L_X12_setSize_69 b0 fu  n x0 x1 x2 x3 x5 x6 σ = some (v, τ) → tX p l e s m args below meth c 7 5 119 D aC b0 σ0 (.inl none) τ 69 [(0, .ref (x0)), (1, .int (x1)), (2, .int (x2)), (3, .int (x3)), (5, .int (x5)), (6, .int (x6))] [] σ := by
  intro n
  induction n with
  | zero => intro x0 x1 x2 x3 x5 x6 σ hm; unfold L_X12_setSize_69 at hm; cases hm
  | succ n ih =>
    intro x0 x1 x2 x3 x5 x6 σ hm
    unfold L_X12_setSize_69 at hm
    obtain ⟨rc69, hrc⟩ : ∃ z, z = L_X12_setSize_69 b0 fu  n := ⟨_, rfl⟩
    replace hm := ltb_e hm hrc
    rw [← hrc] at ih
    have hrc69 := ih
    clear ih hrc
    refine zx_iload C dX12_setSize_69 5 rfl ?_
    refine zx_sipush (v := 256) C dX12_setSize_71 (by decide) ?_
    refine zx_icmp_ge C 128 dX12_setSize_74 (by decide) (fun c23 => ?_) (fun c23 => ?_)
    · replace hm := ip_e hm c23
      exact zx_lv [0, 1, 2, 3] [(0, .ref (x0)), (1, .int (x1)), (2, .int (x2)), (3, .int (x3))] rfl (j_X12_setSize_128 C htab hin    hm)
    · replace hm := in_e hm c23
      refine zx_iload C dX12_setSize_77 4 rfl ?_
      refine zx_if_lt C 128 dX12_setSize_79 (by decide) (fun c35 => ?_) (fun c35 => ?_)
      · replace hm := ip_e hm c35
        exact zx_lv [0, 1, 2, 3] [(0, .ref (x0)), (1, .int (x1)), (2, .int (x2)), (3, .int (x3))] rfl (j_X12_setSize_128 C htab hin    hm)
      · replace hm := in_e hm c35
        refine zx_aload_n C dX12_setSize_82 0 rfl ?_
        obtain ⟨k36, i37, hm⟩ := ckO_e hm
        obtain ⟨a38, h39, hm⟩ := osm_e hm
        refine zx_get (j := 22) C tC_11 k36 i37 ⟨by decide, Or.inl W_7_1⟩ dX12_setSize_83 (.ref a38) (rf_s h39) ?_
        refine zx_sipush (v := 256) C dX12_setSize_86 (by decide) ?_
        refine zx_iload C dX12_setSize_89 4 rfl ?_
        refine zx_imul C dX12_setSize_91 ?_
        refine zx_iload C dX12_setSize_92 5 rfl ?_
        refine zx_iadd C dX12_setSize_94 ?_
        obtain ⟨n42, k40, i41, hm⟩ := ckR_e hm
        obtain ⟨h43, hm⟩ := ckI_e hm
        refine zx_bald C k40 i41 h43 dX12_setSize_95 ?_
        refine zx_if_eq C 107 dX12_setSize_96 (by decide) (fun c44 => ?_) (fun c44 => ?_)
        · replace hm := ip_e hm c44
          exact zx_lv [0, 1, 2, 3, 4, 5] [(0, .ref (x0)), (1, .int (x1)), (2, .int (x2)), (3, .int (x3)), (5, .int (x5)), (6, .int (x6))] rfl (j_X12_setSize_107 C htab hin hrc69   hm)
        · replace hm := in_e hm c44
          refine zx_aload_n C dX12_setSize_99 0 rfl ?_
          obtain ⟨a54, h55, hm⟩ := osm_e hm
          refine zx_get (j := 23) C tC_11 k36 i37 ⟨by decide, Or.inl W_7_2⟩ dX12_setSize_100 (.ref a54) (rf_s h55) ?_
          refine zx_iload C dX12_setSize_103 4 rfl ?_
          refine zx_iconst (v := 1) C dX12_setSize_105 (by decide) ?_
          obtain ⟨n58, k56, i57, hm⟩ := ckR_e hm
          obtain ⟨h59, hm⟩ := ckI_e hm
          refine zx_zast C k56 i57 h59 dX12_setSize_106 ?_
          exact zx_lv [0, 1, 2, 3, 4, 5] [(0, .ref (x0)), (1, .int (x1)), (2, .int (x2)), (3, .int (x3)), (5, .int (x5)), (6, .int (x6))] rfl (j_X12_setSize_107 C htab hin hrc69   hm)
set_option maxRecDepth 100000 in
set_option maxHeartbeats 1000000 in
theorem j_X12_setSize_59 {p : Program} {l : Launch} {e : Env} {s : State} {m : MethodId} {args : Array Value} {below : List Frame} {meth : Method} {c : Code} {D : va_G} {aC : Nat → ClassId} {b0 fu : Nat} {σ0 τ : tM} {v : Unit}  (C : tCx p l s m args meth c yX12_setSize.cls cX12_setSize 7 none D aC b0 σ0) (htab : ∀ x ∈ c.exceptionTable.toList, False) (hin : meth.name = yX12_setSize.name)  {x0 : Nat} {x1 : Int32} {x2 : Int32} {x3 : Int32} {x4 : Int32} {s0 : Int32} {σ : tM} (hm : J_X12_setSize_59 b0 fu  x0 x1 x2 x3 x4 s0 σ = some (v, τ)) : tX p l e s m args below meth c 7 5 119 D aC b0 σ0 (.inl none) τ 59 [(0, .ref (x0)), (1, .int (x1)), (2, .int (x2)), (3, .int (x3)), (4, .int (x4))] [.int (s0)] σ := by
  unfold J_X12_setSize_59 at hm
  refine zx_istore C [(5, .int (s0)), (0, .ref (x0)), (1, .int (x1)), (2, .int (x2)), (3, .int (x3)), (4, .int (x4))] dX12_setSize_59 (by decide) rfl ?_
  refine zx_iload C dX12_setSize_61 5 rfl ?_
  refine zx_sipush (v := 256) C dX12_setSize_63 (by decide) ?_
  refine zx_irem C dX12_setSize_66 (by decide) ?_
  refine zx_topi (fun y22 hy22 => ?_)
  replace hm := ltb_e hm hy22
  refine zx_istore C [(6, .int (y22)), (5, .int (s0)), (0, .ref (x0)), (1, .int (x1)), (2, .int (x2)), (3, .int (x3)), (4, .int (x4))] dX12_setSize_67 (by decide) rfl ?_
  exact zx_lv [2, 3, 4, 5, 1, 0] [(0, .ref (x0)), (1, .int (x1)), (2, .int (x2)), (3, .int (x3)), (5, .int (s0)), (6, .int (y22))] rfl (l_X12_setSize_69 C htab hin  _ _ _ _ _ _ _ _ hm)
set_option maxRecDepth 100000 in
set_option maxHeartbeats 1000000 in
theorem c_X12_setSize {l : Launch} {D : va_G} {aC : Nat → ClassId} {b0 fu : Nat} {a0 : Nat} {p0 : Int32} {p1 : Int32} {σ τ : tM} {v : Unit} (hm : m_X12_setSize b0 fu a0 p0 p1 σ = some (v, τ)) : tMt l D aC b0 yX12_setSize (Cond.code yX12_setSize cX12_setSize 7 none) 5 119 [.ref (a0), .int (p0), .int (p1)] σ (.inl none) τ := by
  unfold m_X12_setSize at hm
  obtain ⟨hg, hm⟩ := grw_e hm
  refine tMt_of (n := 0) rfl (Nat.le_of_ble_eq_true rfl) hg ?_
  intro p e s m below meth c C htab hin
  refine zx_lv [0, 1, 2] [(0, .ref (a0)), (1, .int (p0)), (2, .int (p1))] rfl ?_
  refine zx_aload_n C dX12_setSize_0 0 rfl ?_
  refine zx_iload_n C dX12_setSize_1 1 rfl ?_
  refine zx_iconst (v := 1) C dX12_setSize_2 (by decide) ?_
  obtain ⟨k1, i2, hm⟩ := ckO_e hm
  obtain ⟨v3, ρ4, h5, hm⟩ := cll_e hm
  refine zx_callV (σ := σ) C [.int (p0), .int (1)] tC_11 k1 i2 Y_X12_node W_8_40 W_8_42 Wp_80 (c_X12_node h5) (by decide) (by decide) rfl (Nat.le_of_ble_eq_true rfl) dX12_setSize_3 rfl ?_
  refine zx_istore_n C [(3, .int (v3)), (0, .ref (a0)), (1, .int (p0)), (2, .int (p1))] dX12_setSize_6 rfl (by decide) rfl ?_
  refine zx_aload_n C dX12_setSize_7 1 rfl ?_
  refine zx_iload_n C dX12_setSize_8 2 rfl ?_
  refine zx_iconst (v := 1) C dX12_setSize_9 (by decide) ?_
  refine zx_iload_n C dX12_setSize_10 3 rfl ?_
  obtain ⟨k6, i7, hm⟩ := ckO_e hm
  obtain ⟨v8, ρ9, h10, hm⟩ := cll_e hm
  refine zx_callV (σ := ρ4) C [.int (p0), .int (1), .int (p1)] tC_11 k6 i7 Y_X12_putNode W_8_99 W_8_101 Wp_94 (c_X12_putNode h10) (by decide) (by decide) rfl (Nat.le_of_ble_eq_true rfl) dX12_setSize_11 rfl ?_
  refine zx_iload_n C dX12_setSize_14 0 rfl ?_
  refine zx_iload_n C dX12_setSize_15 3 rfl ?_
  refine zx_icmp_ne C 20 dX12_setSize_16 (by decide) (fun c11 => ?_) (fun c11 => ?_)
  · replace hm := in_e hm c11
    refine zx_aload_n C dX12_setSize_20 1 rfl ?_
    obtain ⟨k12, i13, hm⟩ := ckO_e hm
    obtain ⟨a14, h15, hm⟩ := osm_e hm
    refine zx_get (j := 25) C tC_11 k12 i13 ⟨by decide, Or.inl W_7_4⟩ dX12_setSize_21 (.ref a14) (rf_s h15) ?_
    refine zx_iload_n C dX12_setSize_24 2 rfl ?_
    refine zx_iconst (v := 1) C dX12_setSize_25 (by decide) ?_
    obtain ⟨n18, k16, i17, hm⟩ := ckR_e hm
    obtain ⟨h19, hm⟩ := ckI_e hm
    refine zx_zast C k16 i17 h19 dX12_setSize_26 ?_
    refine zx_iload_n C dX12_setSize_27 0 rfl ?_
    refine zx_iload_n C dX12_setSize_28 3 rfl ?_
    refine zx_min C W_8_195 W_2_106 W_1_10 W_2_107 (by decide) (by decide) (Nat.le_of_ble_eq_true rfl) dX12_setSize_29 ?_
    refine zx_topi (fun y20 hy20 => ?_)
    replace hm := ltb_e hm hy20
    refine zx_istore C [(4, .int (y20)), (3, .int (v3)), (0, .ref (a0)), (1, .int (p0)), (2, .int (p1))] dX12_setSize_32 (by decide) rfl ?_
    refine zx_iload C dX12_setSize_34 0 rfl ?_
    refine zx_ldcw (v := 272384) C W_8_196 dX12_setSize_36 ?_
    refine zx_icmp_ge C 58 dX12_setSize_39 (by decide) (fun c21 => ?_) (fun c21 => ?_)
    · replace hm := ip_e hm c21
      refine zx_iconst (v := (-1)) C dX12_setSize_58 (by decide) ?_
      exact zx_lv [2, 3, 4, 1, 0] [(0, .ref (a0)), (1, .int (p0)), (2, .int (p1)), (3, .int (v3)), (4, .int (y20))] rfl (j_X12_setSize_59 C htab hin    hm)
    · replace hm := in_e hm c21
      refine zx_aload_n C dX12_setSize_42 2 rfl ?_
      refine zx_iload_n C dX12_setSize_43 3 rfl ?_
      refine zx_iload C dX12_setSize_44 0 rfl ?_
      refine zx_sipush (v := 256) C dX12_setSize_46 (by decide) ?_
      refine zx_idiv C dX12_setSize_49 (by decide) ?_
      obtain ⟨v61, ρ62, h63, hm⟩ := cll_e hm
      refine zx_callV (σ := sI (ρ9) (a14) ((p0).toNatClampNeg) (vp_nar .boolean ((1 : Int32)))) C [.int (p0), .int ((y20) / (256))] tC_11 k12 i13 Y_X12_has W_8_60 W_8_62 Wp_85 (c_X12_has h63) (by decide) (by decide) rfl (Nat.le_of_ble_eq_true rfl) dX12_setSize_50 rfl ?_
      refine zx_iconst (v := 1) C dX12_setSize_53 (by decide) ?_
      refine zx_isub C dX12_setSize_54 ?_
      refine zx_goto C 59 dX12_setSize_55 (by decide) ?_
      exact zx_lv [2, 3, 4, 1, 0] [(0, .ref (a0)), (1, .int (p0)), (2, .int (p1)), (3, .int (v3)), (4, .int (y20))] rfl (j_X12_setSize_59 C htab hin    hm)
  · replace hm := ip_e hm c11
    obtain ⟨rfl, rfl⟩ := ret_e hm
    exact zx_vret C rfl rfl rfl dX12_setSize_19
abbrev cX12_maybeFree : ByteArray := prog_13_method_44_code
def yX12_maybeFree : MethodName := ⟨"SyncTreeModel", "maybeFree", "(I)V"⟩
theorem Y_X12_maybeFree : tY yX12_maybeFree cX12_maybeFree 2 none 1 := ⟨W_8_186, W_1_14, ⟨by decide +kernel, by decide +kernel⟩, by decide +kernel⟩
theorem dX12_maybeFree_0 : decode cX12_maybeFree 0 = .ok (.aload_n 0, 1) := by decide +kernel
theorem dX12_maybeFree_1 : decode cX12_maybeFree 1 = .ok (.iload_n 1, 1) := by decide +kernel
theorem dX12_maybeFree_2 : decode cX12_maybeFree 2 = .ok (.iconst 2, 1) := by decide +kernel
theorem dX12_maybeFree_3 : decode cX12_maybeFree 3 = .ok (.invokevirtual 247, 3) := by decide +kernel
theorem dX12_maybeFree_6 : decode cX12_maybeFree 6 = .ok (.ifCond .gt 11, 3) := by decide +kernel
theorem dX12_maybeFree_9 : decode cX12_maybeFree 9 = .ok (.aload_n 0, 1) := by decide +kernel
theorem dX12_maybeFree_10 : decode cX12_maybeFree 10 = .ok (.iload_n 1, 1) := by decide +kernel
theorem dX12_maybeFree_11 : decode cX12_maybeFree 11 = .ok (.invokevirtual 289, 3) := by decide +kernel
theorem dX12_maybeFree_14 : decode cX12_maybeFree 14 = .ok (.ifCond .eq 4, 3) := by decide +kernel
theorem dX12_maybeFree_17 : decode cX12_maybeFree 17 = .ok (.return_, 1) := by decide +kernel
theorem dX12_maybeFree_18 : decode cX12_maybeFree 18 = .ok (.aload_n 0, 1) := by decide +kernel
theorem dX12_maybeFree_19 : decode cX12_maybeFree 19 = .ok (.iload_n 1, 1) := by decide +kernel
theorem dX12_maybeFree_20 : decode cX12_maybeFree 20 = .ok (.iconst 0, 1) := by decide +kernel
theorem dX12_maybeFree_21 : decode cX12_maybeFree 21 = .ok (.invokevirtual 247, 3) := by decide +kernel
theorem dX12_maybeFree_24 : decode cX12_maybeFree 24 = .ok (.iconst 1, 1) := by decide +kernel
theorem dX12_maybeFree_25 : decode cX12_maybeFree 25 = .ok (.if_icmp .ne 9, 3) := by decide +kernel
theorem dX12_maybeFree_28 : decode cX12_maybeFree 28 = .ok (.aload_n 0, 1) := by decide +kernel
theorem dX12_maybeFree_29 : decode cX12_maybeFree 29 = .ok (.iload_n 1, 1) := by decide +kernel
theorem dX12_maybeFree_30 : decode cX12_maybeFree 30 = .ok (.iconst 0, 1) := by decide +kernel
theorem dX12_maybeFree_31 : decode cX12_maybeFree 31 = .ok (.invokevirtual 292, 3) := by decide +kernel
theorem dX12_maybeFree_34 : decode cX12_maybeFree 34 = .ok (.aload_n 0, 1) := by decide +kernel
theorem dX12_maybeFree_35 : decode cX12_maybeFree 35 = .ok (.iload_n 1, 1) := by decide +kernel
theorem dX12_maybeFree_36 : decode cX12_maybeFree 36 = .ok (.iconst 0, 1) := by decide +kernel
theorem dX12_maybeFree_37 : decode cX12_maybeFree 37 = .ok (.iconst 0, 1) := by decide +kernel
theorem dX12_maybeFree_38 : decode cX12_maybeFree 38 = .ok (.invokevirtual 266, 3) := by decide +kernel
theorem dX12_maybeFree_41 : decode cX12_maybeFree 41 = .ok (.return_, 1) := by decide +kernel
set_option maxRecDepth 100000 in
set_option maxHeartbeats 1000000 in
theorem j_X12_maybeFree_17 {p : Program} {l : Launch} {e : Env} {s : State} {m : MethodId} {args : Array Value} {below : List Frame} {meth : Method} {c : Code} {D : va_G} {aC : Nat → ClassId} {b0 fu : Nat} {σ0 τ : tM} {v : Unit}  (C : tCx p l s m args meth c yX12_maybeFree.cls cX12_maybeFree 2 none D aC b0 σ0) (htab : ∀ x ∈ c.exceptionTable.toList, False) (hin : meth.name = yX12_maybeFree.name)   {σ : tM} (hm : J_X12_maybeFree_17 b0 fu   σ = some (v, τ)) : tX p l e s m args below meth c 2 6 145 D aC b0 σ0 (.inl none) τ 17 [] [] σ := by
  unfold J_X12_maybeFree_17 at hm
  obtain ⟨rfl, rfl⟩ := ret_e hm
  exact zx_vret C rfl rfl rfl dX12_maybeFree_17
set_option maxRecDepth 100000 in
set_option maxHeartbeats 1000000 in
theorem j_X12_maybeFree_34 {p : Program} {l : Launch} {e : Env} {s : State} {m : MethodId} {args : Array Value} {below : List Frame} {meth : Method} {c : Code} {D : va_G} {aC : Nat → ClassId} {b0 fu : Nat} {σ0 τ : tM} {v : Unit}  (C : tCx p l s m args meth c yX12_maybeFree.cls cX12_maybeFree 2 none D aC b0 σ0) (htab : ∀ x ∈ c.exceptionTable.toList, False) (hin : meth.name = yX12_maybeFree.name)  {x0 : Nat} {x1 : Int32} {σ : tM} (hm : J_X12_maybeFree_34 b0 fu  x0 x1 σ = some (v, τ)) : tX p l e s m args below meth c 2 6 145 D aC b0 σ0 (.inl none) τ 34 [(0, .ref (x0)), (1, .int (x1))] [] σ := by
  unfold J_X12_maybeFree_34 at hm
  refine zx_aload_n C dX12_maybeFree_34 0 rfl ?_
  refine zx_iload_n C dX12_maybeFree_35 1 rfl ?_
  refine zx_iconst (v := 0) C dX12_maybeFree_36 (by decide) ?_
  refine zx_iconst (v := 0) C dX12_maybeFree_37 (by decide) ?_
  obtain ⟨k19, i20, hm⟩ := ckO_e hm
  obtain ⟨v21, ρ22, h23, hm⟩ := cll_e hm
  refine zx_callV (σ := σ) C [.int (x1), .int (0), .int (0)] tC_11 k19 i20 Y_X12_putNode W_8_99 W_8_101 Wp_94 (c_X12_putNode h23) (by decide) (by decide) rfl (Nat.le_of_ble_eq_true rfl) dX12_maybeFree_38 rfl ?_
  obtain ⟨rfl, rfl⟩ := ret_e hm
  exact zx_vret C rfl rfl rfl dX12_maybeFree_41
set_option maxRecDepth 100000 in
set_option maxHeartbeats 1000000 in
theorem c_X12_maybeFree {l : Launch} {D : va_G} {aC : Nat → ClassId} {b0 fu : Nat} {a0 : Nat} {p0 : Int32} {σ τ : tM} {v : Unit} (hm : m_X12_maybeFree b0 fu a0 p0 σ = some (v, τ)) : tMt l D aC b0 yX12_maybeFree (Cond.code yX12_maybeFree cX12_maybeFree 2 none) 6 145 [.ref (a0), .int (p0)] σ (.inl none) τ := by
  unfold m_X12_maybeFree at hm
  obtain ⟨hg, hm⟩ := grw_e hm
  refine tMt_of (n := 0) rfl (Nat.le_of_ble_eq_true rfl) hg ?_
  intro p e s m below meth c C htab hin
  refine zx_lv [0, 1] [(0, .ref (a0)), (1, .int (p0))] rfl ?_
  refine zx_aload_n C dX12_maybeFree_0 0 rfl ?_
  refine zx_iload_n C dX12_maybeFree_1 1 rfl ?_
  refine zx_iconst (v := 2) C dX12_maybeFree_2 (by decide) ?_
  obtain ⟨k1, i2, hm⟩ := ckO_e hm
  obtain ⟨v3, ρ4, h5, hm⟩ := cll_e hm
  refine zx_callV (σ := σ) C [.int (p0), .int (2)] tC_11 k1 i2 Y_X12_node W_8_40 W_8_42 Wp_80 (c_X12_node h5) (by decide) (by decide) rfl (Nat.le_of_ble_eq_true rfl) dX12_maybeFree_3 rfl ?_
  refine zx_if_gt C 17 dX12_maybeFree_6 (by decide) (fun c6 => ?_) (fun c6 => ?_)
  · replace hm := ip_e hm c6
    exact zx_lv [] [] rfl (j_X12_maybeFree_17 C htab hin    hm)
  · replace hm := in_e hm c6
    refine zx_aload_n C dX12_maybeFree_9 0 rfl ?_
    refine zx_iload_n C dX12_maybeFree_10 1 rfl ?_
    obtain ⟨k7, i8, hm⟩ := ckO_e hm
    obtain ⟨v9, ρ10, h11, hm⟩ := cll_e hm
    refine zx_callV (σ := ρ4) C [.int (p0)] tC_11 k7 i8 Y_X12_isOpen W_8_187 W_8_189 Wp_112 (c_X12_isOpen h11) (by decide) (by decide) rfl (Nat.le_of_ble_eq_true rfl) dX12_maybeFree_11 rfl ?_
    refine zx_if_eq C 18 dX12_maybeFree_14 (by decide) (fun c12 => ?_) (fun c12 => ?_)
    · replace hm := ip_e hm c12
      refine zx_aload_n C dX12_maybeFree_18 0 rfl ?_
      refine zx_iload_n C dX12_maybeFree_19 1 rfl ?_
      refine zx_iconst (v := 0) C dX12_maybeFree_20 (by decide) ?_
      obtain ⟨k13, i14, hm⟩ := ckO_e hm
      obtain ⟨v15, ρ16, h17, hm⟩ := cll_e hm
      refine zx_callV (σ := ρ10) C [.int (p0), .int (0)] tC_11 k13 i14 Y_X12_node W_8_40 W_8_42 Wp_80 (c_X12_node h17) (by decide) (by decide) rfl (Nat.le_of_ble_eq_true rfl) dX12_maybeFree_21 rfl ?_
      refine zx_iconst (v := 1) C dX12_maybeFree_24 (by decide) ?_
      refine zx_icmp_ne C 34 dX12_maybeFree_25 (by decide) (fun c18 => ?_) (fun c18 => ?_)
      · replace hm := in_e hm c18
        exact zx_lv [0, 1] [(0, .ref (a0)), (1, .int (p0))] rfl (j_X12_maybeFree_34 C htab hin    hm)
      · replace hm := ip_e hm c18
        refine zx_aload_n C dX12_maybeFree_28 0 rfl ?_
        refine zx_iload_n C dX12_maybeFree_29 1 rfl ?_
        refine zx_iconst (v := 0) C dX12_maybeFree_30 (by decide) ?_
        obtain ⟨k24, i25, hm⟩ := ckO_e hm
        obtain ⟨v26, ρ27, h28, hm⟩ := cll_e hm
        refine zx_callV (σ := ρ16) C [.int (p0), .int (0)] tC_11 k24 i25 Y_X12_setSize W_8_191 W_8_193 Wp_113 (c_X12_setSize h28) (by decide) (by decide) rfl (Nat.le_of_ble_eq_true rfl) dX12_maybeFree_31 rfl ?_
        exact zx_lv [0, 1] [(0, .ref (a0)), (1, .int (p0))] rfl (j_X12_maybeFree_34 C htab hin    hm)
    · replace hm := in_e hm c12
      exact zx_lv [] [] rfl (j_X12_maybeFree_17 C htab hin    hm)
abbrev cX12_addEntry : ByteArray := prog_13_method_52_code
def yX12_addEntry : MethodName := ⟨"SyncTreeModel", "addEntry", "(I[BII)V"⟩
theorem Y_X12_addEntry : tY yX12_addEntry cX12_addEntry 7 none 4 := ⟨W_8_114, W_1_14, ⟨by decide +kernel, by decide +kernel⟩, by decide +kernel⟩
theorem dX12_addEntry_0 : decode cX12_addEntry 0 = .ok (.aload_n 0, 1) := by decide +kernel
theorem dX12_addEntry_1 : decode cX12_addEntry 1 = .ok (.iload_n 1, 1) := by decide +kernel
theorem dX12_addEntry_2 : decode cX12_addEntry 2 = .ok (.invokevirtual 305, 3) := by decide +kernel
theorem dX12_addEntry_5 : decode cX12_addEntry 5 = .ok (.istore 5, 2) := by decide +kernel
theorem dX12_addEntry_7 : decode cX12_addEntry 7 = .ok (.iload 5, 2) := by decide +kernel
theorem dX12_addEntry_9 : decode cX12_addEntry 9 = .ok (.aload_n 0, 1) := by decide +kernel
theorem dX12_addEntry_10 : decode cX12_addEntry 10 = .ok (.iload_n 1, 1) := by decide +kernel
theorem dX12_addEntry_11 : decode cX12_addEntry 11 = .ok (.invokevirtual 299, 3) := by decide +kernel
theorem dX12_addEntry_14 : decode cX12_addEntry 14 = .ok (.if_icmp .ne 30, 3) := by decide +kernel
theorem dX12_addEntry_17 : decode cX12_addEntry 17 = .ok (.aload_n 0, 1) := by decide +kernel
theorem dX12_addEntry_18 : decode cX12_addEntry 18 = .ok (.iload_n 1, 1) := by decide +kernel
theorem dX12_addEntry_19 : decode cX12_addEntry 19 = .ok (.iload 5, 2) := by decide +kernel
theorem dX12_addEntry_21 : decode cX12_addEntry 21 = .ok (.bipush 8, 2) := by decide +kernel
theorem dX12_addEntry_23 : decode cX12_addEntry 23 = .ok (.idiv, 1) := by decide +kernel
theorem dX12_addEntry_24 : decode cX12_addEntry 24 = .ok (.invokevirtual 314, 3) := by decide +kernel
theorem dX12_addEntry_27 : decode cX12_addEntry 27 = .ok (.aload_n 0, 1) := by decide +kernel
theorem dX12_addEntry_28 : decode cX12_addEntry 28 = .ok (.iload_n 1, 1) := by decide +kernel
theorem dX12_addEntry_29 : decode cX12_addEntry 29 = .ok (.iconst 1, 1) := by decide +kernel
theorem dX12_addEntry_30 : decode cX12_addEntry 30 = .ok (.sipush 256, 3) := by decide +kernel
theorem dX12_addEntry_33 : decode cX12_addEntry 33 = .ok (.iload 5, 2) := by decide +kernel
theorem dX12_addEntry_35 : decode cX12_addEntry 35 = .ok (.bipush 8, 2) := by decide +kernel
theorem dX12_addEntry_37 : decode cX12_addEntry 37 = .ok (.idiv, 1) := by decide +kernel
theorem dX12_addEntry_38 : decode cX12_addEntry 38 = .ok (.iconst 1, 1) := by decide +kernel
theorem dX12_addEntry_39 : decode cX12_addEntry 39 = .ok (.iadd, 1) := by decide +kernel
theorem dX12_addEntry_40 : decode cX12_addEntry 40 = .ok (.imul, 1) := by decide +kernel
theorem dX12_addEntry_41 : decode cX12_addEntry 41 = .ok (.invokevirtual 266, 3) := by decide +kernel
theorem dX12_addEntry_44 : decode cX12_addEntry 44 = .ok (.aload_n 0, 1) := by decide +kernel
theorem dX12_addEntry_45 : decode cX12_addEntry 45 = .ok (.aload_n 0, 1) := by decide +kernel
theorem dX12_addEntry_46 : decode cX12_addEntry 46 = .ok (.iload_n 1, 1) := by decide +kernel
theorem dX12_addEntry_47 : decode cX12_addEntry 47 = .ok (.iload 5, 2) := by decide +kernel
theorem dX12_addEntry_49 : decode cX12_addEntry 49 = .ok (.iconst 1, 1) := by decide +kernel
theorem dX12_addEntry_50 : decode cX12_addEntry 50 = .ok (.invokevirtual 295, 3) := by decide +kernel
theorem dX12_addEntry_53 : decode cX12_addEntry 53 = .ok (.iload_n 3, 1) := by decide +kernel
theorem dX12_addEntry_54 : decode cX12_addEntry 54 = .ok (.invokevirtual 30, 3) := by decide +kernel
theorem dX12_addEntry_57 : decode cX12_addEntry 57 = .ok (.iconst 0, 1) := by decide +kernel
theorem dX12_addEntry_58 : decode cX12_addEntry 58 = .ok (.istore 6, 2) := by decide +kernel
theorem dX12_addEntry_60 : decode cX12_addEntry 60 = .ok (.iload 6, 2) := by decide +kernel
theorem dX12_addEntry_62 : decode cX12_addEntry 62 = .ok (.iload_n 3, 1) := by decide +kernel
theorem dX12_addEntry_63 : decode cX12_addEntry 63 = .ok (.if_icmp .ge 28, 3) := by decide +kernel
theorem dX12_addEntry_66 : decode cX12_addEntry 66 = .ok (.aload_n 0, 1) := by decide +kernel
theorem dX12_addEntry_67 : decode cX12_addEntry 67 = .ok (.aload_n 0, 1) := by decide +kernel
theorem dX12_addEntry_68 : decode cX12_addEntry 68 = .ok (.iload_n 1, 1) := by decide +kernel
theorem dX12_addEntry_69 : decode cX12_addEntry 69 = .ok (.iload 5, 2) := by decide +kernel
theorem dX12_addEntry_71 : decode cX12_addEntry 71 = .ok (.iconst 2, 1) := by decide +kernel
theorem dX12_addEntry_72 : decode cX12_addEntry 72 = .ok (.iload 6, 2) := by decide +kernel
theorem dX12_addEntry_74 : decode cX12_addEntry 74 = .ok (.iadd, 1) := by decide +kernel
theorem dX12_addEntry_75 : decode cX12_addEntry 75 = .ok (.invokevirtual 295, 3) := by decide +kernel
theorem dX12_addEntry_78 : decode cX12_addEntry 78 = .ok (.aload_n 2, 1) := by decide +kernel
theorem dX12_addEntry_79 : decode cX12_addEntry 79 = .ok (.iload 6, 2) := by decide +kernel
theorem dX12_addEntry_81 : decode cX12_addEntry 81 = .ok (.baload, 1) := by decide +kernel
theorem dX12_addEntry_82 : decode cX12_addEntry 82 = .ok (.invokevirtual 30, 3) := by decide +kernel
theorem dX12_addEntry_85 : decode cX12_addEntry 85 = .ok (.iinc 6 1, 3) := by decide +kernel
theorem dX12_addEntry_88 : decode cX12_addEntry 88 = .ok (.goto (-28), 3) := by decide +kernel
theorem dX12_addEntry_91 : decode cX12_addEntry 91 = .ok (.aload_n 0, 1) := by decide +kernel
theorem dX12_addEntry_92 : decode cX12_addEntry 92 = .ok (.iload_n 1, 1) := by decide +kernel
theorem dX12_addEntry_93 : decode cX12_addEntry 93 = .ok (.iload 5, 2) := by decide +kernel
theorem dX12_addEntry_95 : decode cX12_addEntry 95 = .ok (.iload 4, 2) := by decide +kernel
theorem dX12_addEntry_97 : decode cX12_addEntry 97 = .ok (.invokevirtual 317, 3) := by decide +kernel
theorem dX12_addEntry_100 : decode cX12_addEntry 100 = .ok (.return_, 1) := by decide +kernel
set_option maxRecDepth 100000 in
set_option maxHeartbeats 1000000 in
theorem l_X12_addEntry_60 {p : Program} {l : Launch} {e : Env} {s : State} {m : MethodId} {args : Array Value} {below : List Frame} {meth : Method} {c : Code} {D : va_G} {aC : Nat → ClassId} {b0 fu : Nat} {σ0 τ : tM} {v : Unit}  (C : tCx p l s m args meth c yX12_addEntry.cls cX12_addEntry 7 none D aC b0 σ0) (htab : ∀ x ∈ c.exceptionTable.toList, False) (hin : meth.name = yX12_addEntry.name)  : ∀ (n : Nat) (x0 : Nat) (x1 : Int32) (x2 : Nat) (x3 : Int32) (x4 : Int32) (x5 : Int32) (x6 : Int32) (σ : tM), L_X12_addEntry_60 b0 fu  n x0 x1 x2 x3 x4 x5 x6 σ = some (v, τ) → tX p l e s m args below meth c 7 7 157 D aC b0 σ0 (.inl none) τ 60 [(0, .ref (x0)), (1, .int (x1)), (2, .ref (x2)), (3, .int (x3)), (4, .int (x4)), (5, .int (x5)), (6, .int (x6))] [] σ := by
  intro n
  induction n with
  | zero => intro x0 x1 x2 x3 x4 x5 x6 σ hm; unfold L_X12_addEntry_60 at hm; cases hm
  | succ n ih =>
    intro x0 x1 x2 x3 x4 x5 x6 σ hm
    unfold L_X12_addEntry_60 at hm
    obtain ⟨rc60, hrc⟩ : ∃ z, z = L_X12_addEntry_60 b0 fu  n := ⟨_, rfl⟩
    replace hm := ltb_e hm hrc
    rw [← hrc] at ih
    have hrc60 := ih
    clear ih hrc
    refine zx_iload C dX12_addEntry_60 6 rfl ?_
    refine zx_iload_n C dX12_addEntry_62 3 rfl ?_
    refine zx_icmp_ge C 91 dX12_addEntry_63 (by decide) (fun c22 => ?_) (fun c22 => ?_)
    · replace hm := ip_e hm c22
      refine zx_aload_n C dX12_addEntry_91 0 rfl ?_
      refine zx_iload_n C dX12_addEntry_92 1 rfl ?_
      refine zx_iload C dX12_addEntry_93 5 rfl ?_
      refine zx_iload C dX12_addEntry_95 4 rfl ?_
      obtain ⟨k23, i24, hm⟩ := ckO_e hm
      obtain ⟨v25, ρ26, h27, hm⟩ := cll_e hm
      refine zx_callV (σ := σ) C [.int (x1), .int (x5), .int (x4)] tC_11 k23 i24 Y_X12_putEntry W_8_131 W_8_133 Wp_102 (c_X12_putEntry h27) (by decide) (by decide) rfl (Nat.le_of_ble_eq_true rfl) dX12_addEntry_97 rfl ?_
      obtain ⟨rfl, rfl⟩ := ret_e hm
      exact zx_vret C rfl rfl rfl dX12_addEntry_100
    · replace hm := in_e hm c22
      refine zx_aload_n C dX12_addEntry_66 0 rfl ?_
      refine zx_aload_n C dX12_addEntry_67 0 rfl ?_
      refine zx_iload_n C dX12_addEntry_68 1 rfl ?_
      refine zx_iload C dX12_addEntry_69 5 rfl ?_
      refine zx_iconst (v := 2) C dX12_addEntry_71 (by decide) ?_
      refine zx_iload C dX12_addEntry_72 6 rfl ?_
      refine zx_iadd C dX12_addEntry_74 ?_
      obtain ⟨k28, i29, hm⟩ := ckO_e hm
      obtain ⟨v30, ρ31, h32, hm⟩ := cll_e hm
      refine zx_callV (σ := σ) C [.int (x1), .int (x5), .int ((2) + (x6))] tC_11 k28 i29 Y_X12_entryAt W_8_56 W_8_58 Wp_84 (c_X12_entryAt h32) (by decide) (by decide) rfl (Nat.le_of_ble_eq_true rfl) dX12_addEntry_75 rfl ?_
      refine zx_aload_n C dX12_addEntry_78 2 rfl ?_
      refine zx_iload C dX12_addEntry_79 6 rfl ?_
      obtain ⟨n35, k33, i34, hm⟩ := ckR_e hm
      obtain ⟨h36, hm⟩ := ckI_e hm
      refine zx_bald C k33 i34 h36 dX12_addEntry_81 ?_
      obtain ⟨k37, i38, hm⟩ := ckO_e hm
      obtain ⟨v39, ρ40, h41, hm⟩ := cll_e hm
      refine zx_callV (σ := ρ31) C [.int (v30), .int (tI (ρ31) (x2) ((x6).toNatClampNeg))] tC_11 k37 i38 Y_X12_put W_8_103 W_8_105 Wp_95 (c_X12_put h41) (by decide) (by decide) rfl (Nat.le_of_ble_eq_true rfl) dX12_addEntry_82 rfl ?_
      obtain ⟨y42, hy42⟩ : ∃ z : Int32, z = (x6) + Int32.ofInt 1 := ⟨_, rfl⟩
      replace hm := ltb_e hm hy42
      refine zx_iinc C [(6, .int (y42)), (0, .ref (x0)), (1, .int (x1)), (2, .ref (x2)), (3, .int (x3)), (4, .int (x4)), (5, .int (x5))] dX12_addEntry_85 6 rfl hy42.symm (by decide) rfl ?_
      refine zx_goto C 60 dX12_addEntry_88 (by decide) ?_
      exact zx_lv [1, 2, 3, 4, 5, 6, 0] [(0, .ref (x0)), (1, .int (x1)), (2, .ref (x2)), (3, .int (x3)), (4, .int (x4)), (5, .int (x5)), (6, .int (y42))] rfl (hrc60 _ _ _ _ _ _ _ _ hm)
set_option maxRecDepth 100000 in
set_option maxHeartbeats 1000000 in
theorem j_X12_addEntry_44 {p : Program} {l : Launch} {e : Env} {s : State} {m : MethodId} {args : Array Value} {below : List Frame} {meth : Method} {c : Code} {D : va_G} {aC : Nat → ClassId} {b0 fu : Nat} {σ0 τ : tM} {v : Unit}  (C : tCx p l s m args meth c yX12_addEntry.cls cX12_addEntry 7 none D aC b0 σ0) (htab : ∀ x ∈ c.exceptionTable.toList, False) (hin : meth.name = yX12_addEntry.name)  {x0 : Nat} {x1 : Int32} {x2 : Nat} {x3 : Int32} {x4 : Int32} {x5 : Int32} {σ : tM} (hm : J_X12_addEntry_44 b0 fu  x0 x1 x2 x3 x4 x5 σ = some (v, τ)) : tX p l e s m args below meth c 7 7 157 D aC b0 σ0 (.inl none) τ 44 [(0, .ref (x0)), (1, .int (x1)), (2, .ref (x2)), (3, .int (x3)), (4, .int (x4)), (5, .int (x5))] [] σ := by
  unfold J_X12_addEntry_44 at hm
  refine zx_aload_n C dX12_addEntry_44 0 rfl ?_
  refine zx_aload_n C dX12_addEntry_45 0 rfl ?_
  refine zx_iload_n C dX12_addEntry_46 1 rfl ?_
  refine zx_iload C dX12_addEntry_47 5 rfl ?_
  refine zx_iconst (v := 1) C dX12_addEntry_49 (by decide) ?_
  obtain ⟨k12, i13, hm⟩ := ckO_e hm
  obtain ⟨v14, ρ15, h16, hm⟩ := cll_e hm
  refine zx_callV (σ := σ) C [.int (x1), .int (x5), .int (1)] tC_11 k12 i13 Y_X12_entryAt W_8_56 W_8_58 Wp_84 (c_X12_entryAt h16) (by decide) (by decide) rfl (Nat.le_of_ble_eq_true rfl) dX12_addEntry_50 rfl ?_
  refine zx_iload_n C dX12_addEntry_53 3 rfl ?_
  obtain ⟨k17, i18, hm⟩ := ckO_e hm
  obtain ⟨v19, ρ20, h21, hm⟩ := cll_e hm
  refine zx_callV (σ := ρ15) C [.int (v14), .int (x3)] tC_11 k17 i18 Y_X12_put W_8_103 W_8_105 Wp_95 (c_X12_put h21) (by decide) (by decide) rfl (Nat.le_of_ble_eq_true rfl) dX12_addEntry_54 rfl ?_
  refine zx_iconst (v := 0) C dX12_addEntry_57 (by decide) ?_
  refine zx_istore C [(6, .int (0)), (0, .ref (x0)), (1, .int (x1)), (2, .ref (x2)), (3, .int (x3)), (4, .int (x4)), (5, .int (x5))] dX12_addEntry_58 (by decide) rfl ?_
  exact zx_lv [1, 2, 3, 4, 5, 6, 0] [(0, .ref (x0)), (1, .int (x1)), (2, .ref (x2)), (3, .int (x3)), (4, .int (x4)), (5, .int (x5)), (6, .int (0))] rfl (l_X12_addEntry_60 C htab hin  _ _ _ _ _ _ _ _ _ hm)
set_option maxRecDepth 100000 in
set_option maxHeartbeats 1000000 in
theorem c_X12_addEntry {l : Launch} {D : va_G} {aC : Nat → ClassId} {b0 fu : Nat} {a0 : Nat} {p0 : Int32} {p1 : Nat} {p2 : Int32} {p3 : Int32} {σ τ : tM} {v : Unit} (hm : m_X12_addEntry b0 fu a0 p0 p1 p2 p3 σ = some (v, τ)) : tMt l D aC b0 yX12_addEntry (Cond.code yX12_addEntry cX12_addEntry 7 none) 7 157 [.ref (a0), .int (p0), .ref (p1), .int (p2), .int (p3)] σ (.inl none) τ := by
  unfold m_X12_addEntry at hm
  obtain ⟨hg, hm⟩ := grw_e hm
  refine tMt_of (n := 0) rfl (Nat.le_of_ble_eq_true rfl) hg ?_
  intro p e s m below meth c C htab hin
  refine zx_lv [0, 1, 2, 3, 4] [(0, .ref (a0)), (1, .int (p0)), (2, .ref (p1)), (3, .int (p2)), (4, .int (p3))] rfl ?_
  refine zx_aload_n C dX12_addEntry_0 0 rfl ?_
  refine zx_iload_n C dX12_addEntry_1 1 rfl ?_
  obtain ⟨k1, i2, hm⟩ := ckO_e hm
  obtain ⟨v3, ρ4, h5, hm⟩ := cll_e hm
  refine zx_callV (σ := σ) C [.int (p0)] tC_11 k1 i2 Y_X12_firstFree W_8_83 W_8_85 Wp_90 (c_X12_firstFree h5) (by decide) (by decide) rfl (Nat.le_of_ble_eq_true rfl) dX12_addEntry_2 rfl ?_
  refine zx_istore C [(5, .int (v3)), (0, .ref (a0)), (1, .int (p0)), (2, .ref (p1)), (3, .int (p2)), (4, .int (p3))] dX12_addEntry_5 (by decide) rfl ?_
  refine zx_iload C dX12_addEntry_7 0 rfl ?_
  refine zx_aload_n C dX12_addEntry_9 1 rfl ?_
  refine zx_iload_n C dX12_addEntry_10 2 rfl ?_
  obtain ⟨k6, i7, hm⟩ := ckO_e hm
  obtain ⟨v8, ρ9, h10, hm⟩ := cll_e hm
  refine zx_callV (σ := ρ4) C [.int (p0)] tC_11 k6 i7 Y_X12_entries W_8_48 W_8_50 Wp_82 (c_X12_entries h10) (by decide) (by decide) rfl (Nat.le_of_ble_eq_true rfl) dX12_addEntry_11 rfl ?_
  refine zx_icmp_ne C 44 dX12_addEntry_14 (by decide) (fun c11 => ?_) (fun c11 => ?_)
  · replace hm := in_e hm c11
    exact zx_lv [1, 2, 3, 4, 5, 0] [(0, .ref (a0)), (1, .int (p0)), (2, .ref (p1)), (3, .int (p2)), (4, .int (p3)), (5, .int (v3))] rfl (j_X12_addEntry_44 C htab hin    hm)
  · replace hm := ip_e hm c11
    refine zx_aload_n C dX12_addEntry_17 1 rfl ?_
    refine zx_iload_n C dX12_addEntry_18 2 rfl ?_
    refine zx_iload C dX12_addEntry_19 0 rfl ?_
    refine zx_bipush (v := 8) C dX12_addEntry_21 (by decide) ?_
    refine zx_idiv C dX12_addEntry_23 (by decide) ?_
    obtain ⟨k43, i44, hm⟩ := ckO_e hm
    obtain ⟨v45, ρ46, h47, hm⟩ := cll_e hm
    refine zx_callV (σ := ρ9) C [.int (p0), .int ((v3) / (8))] tC_11 k43 i44 Y_X12_ensure W_8_115 W_8_117 Wp_98 (c_X12_ensure h47) (by decide) (by decide) rfl (Nat.le_of_ble_eq_true rfl) dX12_addEntry_24 rfl ?_
    refine zx_aload_n C dX12_addEntry_27 1 rfl ?_
    refine zx_iload_n C dX12_addEntry_28 2 rfl ?_
    refine zx_iconst (v := 1) C dX12_addEntry_29 (by decide) ?_
    refine zx_sipush (v := 256) C dX12_addEntry_30 (by decide) ?_
    refine zx_iload C dX12_addEntry_33 0 rfl ?_
    refine zx_bipush (v := 8) C dX12_addEntry_35 (by decide) ?_
    refine zx_idiv C dX12_addEntry_37 (by decide) ?_
    refine zx_iconst (v := 1) C dX12_addEntry_38 (by decide) ?_
    refine zx_iadd C dX12_addEntry_39 ?_
    refine zx_imul C dX12_addEntry_40 ?_
    obtain ⟨k48, i49, hm⟩ := ckO_e hm
    obtain ⟨v50, ρ51, h52, hm⟩ := cll_e hm
    refine zx_callV (σ := ρ46) C [.int (p0), .int (1), .int ((256) * (((v3) / (8)) + (1)))] tC_11 k48 i49 Y_X12_putNode W_8_99 W_8_101 Wp_94 (c_X12_putNode h52) (by decide) (by decide) rfl (Nat.le_of_ble_eq_true rfl) dX12_addEntry_41 rfl ?_
    exact zx_lv [1, 2, 3, 4, 5, 0] [(0, .ref (a0)), (1, .int (p0)), (2, .ref (p1)), (3, .int (p2)), (4, .int (p3)), (5, .int (v3))] rfl (j_X12_addEntry_44 C htab hin    hm)
abbrev cX12_removeEntry : ByteArray := prog_13_method_54_code
def yX12_removeEntry : MethodName := ⟨"SyncTreeModel", "removeEntry", "(II)V"⟩
theorem Y_X12_removeEntry : tY yX12_removeEntry cX12_removeEntry 4 none 2 := ⟨W_8_162, W_1_14, ⟨by decide +kernel, by decide +kernel⟩, by decide +kernel⟩
theorem dX12_removeEntry_0 : decode cX12_removeEntry 0 = .ok (.aload_n 0, 1) := by decide +kernel
theorem dX12_removeEntry_1 : decode cX12_removeEntry 1 = .ok (.iload_n 1, 1) := by decide +kernel
theorem dX12_removeEntry_2 : decode cX12_removeEntry 2 = .ok (.iload_n 2, 1) := by decide +kernel
theorem dX12_removeEntry_3 : decode cX12_removeEntry 3 = .ok (.bipush 64, 2) := by decide +kernel
theorem dX12_removeEntry_5 : decode cX12_removeEntry 5 = .ok (.invokevirtual 317, 3) := by decide +kernel
theorem dX12_removeEntry_8 : decode cX12_removeEntry 8 = .ok (.aload_n 0, 1) := by decide +kernel
theorem dX12_removeEntry_9 : decode cX12_removeEntry 9 = .ok (.iload_n 1, 1) := by decide +kernel
theorem dX12_removeEntry_10 : decode cX12_removeEntry 10 = .ok (.iconst 1, 1) := by decide +kernel
theorem dX12_removeEntry_11 : decode cX12_removeEntry 11 = .ok (.invokevirtual 247, 3) := by decide +kernel
theorem dX12_removeEntry_14 : decode cX12_removeEntry 14 = .ok (.sipush 256, 3) := by decide +kernel
theorem dX12_removeEntry_17 : decode cX12_removeEntry 17 = .ok (.idiv, 1) := by decide +kernel
theorem dX12_removeEntry_18 : decode cX12_removeEntry 18 = .ok (.iconst 1, 1) := by decide +kernel
theorem dX12_removeEntry_19 : decode cX12_removeEntry 19 = .ok (.isub, 1) := by decide +kernel
theorem dX12_removeEntry_20 : decode cX12_removeEntry 20 = .ok (.istore_n 3, 1) := by decide +kernel
theorem dX12_removeEntry_21 : decode cX12_removeEntry 21 = .ok (.iload_n 3, 1) := by decide +kernel
theorem dX12_removeEntry_22 : decode cX12_removeEntry 22 = .ok (.ifCond .lt 35, 3) := by decide +kernel
theorem dX12_removeEntry_25 : decode cX12_removeEntry 25 = .ok (.aload_n 0, 1) := by decide +kernel
theorem dX12_removeEntry_26 : decode cX12_removeEntry 26 = .ok (.iload_n 1, 1) := by decide +kernel
theorem dX12_removeEntry_27 : decode cX12_removeEntry 27 = .ok (.iload_n 3, 1) := by decide +kernel
theorem dX12_removeEntry_28 : decode cX12_removeEntry 28 = .ok (.invokevirtual 320, 3) := by decide +kernel
theorem dX12_removeEntry_31 : decode cX12_removeEntry 31 = .ok (.ifCond .eq 26, 3) := by decide +kernel
theorem dX12_removeEntry_34 : decode cX12_removeEntry 34 = .ok (.aload_n 0, 1) := by decide +kernel
theorem dX12_removeEntry_35 : decode cX12_removeEntry 35 = .ok (.iload_n 1, 1) := by decide +kernel
theorem dX12_removeEntry_36 : decode cX12_removeEntry 36 = .ok (.iload_n 3, 1) := by decide +kernel
theorem dX12_removeEntry_37 : decode cX12_removeEntry 37 = .ok (.invokevirtual 283, 3) := by decide +kernel
theorem dX12_removeEntry_40 : decode cX12_removeEntry 40 = .ok (.aload_n 0, 1) := by decide +kernel
theorem dX12_removeEntry_41 : decode cX12_removeEntry 41 = .ok (.iload_n 1, 1) := by decide +kernel
theorem dX12_removeEntry_42 : decode cX12_removeEntry 42 = .ok (.iconst 1, 1) := by decide +kernel
theorem dX12_removeEntry_43 : decode cX12_removeEntry 43 = .ok (.sipush 256, 3) := by decide +kernel
theorem dX12_removeEntry_46 : decode cX12_removeEntry 46 = .ok (.iload_n 3, 1) := by decide +kernel
theorem dX12_removeEntry_47 : decode cX12_removeEntry 47 = .ok (.imul, 1) := by decide +kernel
theorem dX12_removeEntry_48 : decode cX12_removeEntry 48 = .ok (.invokevirtual 266, 3) := by decide +kernel
theorem dX12_removeEntry_51 : decode cX12_removeEntry 51 = .ok (.iinc 3 (-1), 3) := by decide +kernel
theorem dX12_removeEntry_54 : decode cX12_removeEntry 54 = .ok (.goto (-33), 3) := by decide +kernel
theorem dX12_removeEntry_57 : decode cX12_removeEntry 57 = .ok (.return_, 1) := by decide +kernel
set_option maxRecDepth 100000 in
set_option maxHeartbeats 1000000 in
theorem j_X12_removeEntry_57 {p : Program} {l : Launch} {e : Env} {s : State} {m : MethodId} {args : Array Value} {below : List Frame} {meth : Method} {c : Code} {D : va_G} {aC : Nat → ClassId} {b0 fu : Nat} {σ0 τ : tM} {v : Unit}  (C : tCx p l s m args meth c yX12_removeEntry.cls cX12_removeEntry 4 none D aC b0 σ0) (htab : ∀ x ∈ c.exceptionTable.toList, False) (hin : meth.name = yX12_removeEntry.name)   {σ : tM} (hm : J_X12_removeEntry_57 b0 fu   σ = some (v, τ)) : tX p l e s m args below meth c 4 7 157 D aC b0 σ0 (.inl none) τ 57 [] [] σ := by
  unfold J_X12_removeEntry_57 at hm
  obtain ⟨rfl, rfl⟩ := ret_e hm
  exact zx_vret C rfl rfl rfl dX12_removeEntry_57
set_option maxRecDepth 100000 in
set_option maxHeartbeats 1000000 in
theorem l_X12_removeEntry_21 {p : Program} {l : Launch} {e : Env} {s : State} {m : MethodId} {args : Array Value} {below : List Frame} {meth : Method} {c : Code} {D : va_G} {aC : Nat → ClassId} {b0 fu : Nat} {σ0 τ : tM} {v : Unit}  (C : tCx p l s m args meth c yX12_removeEntry.cls cX12_removeEntry 4 none D aC b0 σ0) (htab : ∀ x ∈ c.exceptionTable.toList, False) (hin : meth.name = yX12_removeEntry.name)  : ∀ (n : Nat) (x0 : Nat) (x1 : Int32) (x3 : Int32) (σ : tM), L_X12_removeEntry_21 b0 fu  n x0 x1 x3 σ = some (v, τ) → tX p l e s m args below meth c 4 7 157 D aC b0 σ0 (.inl none) τ 21 [(0, .ref (x0)), (1, .int (x1)), (3, .int (x3))] [] σ := by
  intro n
  induction n with
  | zero => intro x0 x1 x3 σ hm; unfold L_X12_removeEntry_21 at hm; cases hm
  | succ n ih =>
    intro x0 x1 x3 σ hm
    unfold L_X12_removeEntry_21 at hm
    obtain ⟨rc21, hrc⟩ : ∃ z, z = L_X12_removeEntry_21 b0 fu  n := ⟨_, rfl⟩
    replace hm := ltb_e hm hrc
    rw [← hrc] at ih
    have hrc21 := ih
    clear ih hrc
    refine zx_iload_n C dX12_removeEntry_21 2 rfl ?_
    refine zx_if_lt C 57 dX12_removeEntry_22 (by decide) (fun c12 => ?_) (fun c12 => ?_)
    · replace hm := ip_e hm c12
      exact zx_lv [] [] rfl (j_X12_removeEntry_57 C htab hin    hm)
    · replace hm := in_e hm c12
      refine zx_aload_n C dX12_removeEntry_25 0 rfl ?_
      refine zx_iload_n C dX12_removeEntry_26 1 rfl ?_
      refine zx_iload_n C dX12_removeEntry_27 2 rfl ?_
      obtain ⟨k13, i14, hm⟩ := ckO_e hm
      obtain ⟨v15, ρ16, h17, hm⟩ := cll_e hm
      refine zx_callV (σ := σ) C [.int (x1), .int (x3)] tC_11 k13 i14 Y_X12_isBare W_8_163 W_8_165 Wp_106 (c_X12_isBare h17) (by decide) (by decide) rfl (Nat.le_of_ble_eq_true rfl) dX12_removeEntry_28 rfl ?_
      refine zx_if_eq C 57 dX12_removeEntry_31 (by decide) (fun c18 => ?_) (fun c18 => ?_)
      · replace hm := ip_e hm c18
        exact zx_lv [] [] rfl (j_X12_removeEntry_57 C htab hin    hm)
      · replace hm := in_e hm c18
        refine zx_aload_n C dX12_removeEntry_34 0 rfl ?_
        refine zx_iload_n C dX12_removeEntry_35 1 rfl ?_
        refine zx_iload_n C dX12_removeEntry_36 2 rfl ?_
        obtain ⟨k19, i20, hm⟩ := ckO_e hm
        obtain ⟨v21, ρ22, h23, hm⟩ := cll_e hm
        refine zx_callV (σ := ρ16) C [.int (x1), .int (x3)] tC_11 k19 i20 Y_X12_drop W_8_167 W_8_169 Wp_107 (c_X12_drop h23) (by decide) (by decide) rfl (Nat.le_of_ble_eq_true rfl) dX12_removeEntry_37 rfl ?_
        refine zx_aload_n C dX12_removeEntry_40 0 rfl ?_
        refine zx_iload_n C dX12_removeEntry_41 1 rfl ?_
        refine zx_iconst (v := 1) C dX12_removeEntry_42 (by decide) ?_
        refine zx_sipush (v := 256) C dX12_removeEntry_43 (by decide) ?_
        refine zx_iload_n C dX12_removeEntry_46 2 rfl ?_
        refine zx_imul C dX12_removeEntry_47 ?_
        obtain ⟨k24, i25, hm⟩ := ckO_e hm
        obtain ⟨v26, ρ27, h28, hm⟩ := cll_e hm
        refine zx_callV (σ := ρ22) C [.int (x1), .int (1), .int ((256) * (x3))] tC_11 k24 i25 Y_X12_putNode W_8_99 W_8_101 Wp_94 (c_X12_putNode h28) (by decide) (by decide) rfl (Nat.le_of_ble_eq_true rfl) dX12_removeEntry_48 rfl ?_
        obtain ⟨y29, hy29⟩ : ∃ z : Int32, z = (x3) + Int32.ofInt (-1) := ⟨_, rfl⟩
        replace hm := ltb_e hm hy29
        refine zx_iinc C [(3, .int (y29)), (0, .ref (x0)), (1, .int (x1))] dX12_removeEntry_51 2 rfl hy29.symm (by decide) rfl ?_
        refine zx_goto C 21 dX12_removeEntry_54 (by decide) ?_
        exact zx_lv [1, 2, 0] [(0, .ref (x0)), (1, .int (x1)), (3, .int (y29))] rfl (hrc21 _ _ _ _ hm)
set_option maxRecDepth 100000 in
set_option maxHeartbeats 1000000 in
theorem c_X12_removeEntry {l : Launch} {D : va_G} {aC : Nat → ClassId} {b0 fu : Nat} {a0 : Nat} {p0 : Int32} {p1 : Int32} {σ τ : tM} {v : Unit} (hm : m_X12_removeEntry b0 fu a0 p0 p1 σ = some (v, τ)) : tMt l D aC b0 yX12_removeEntry (Cond.code yX12_removeEntry cX12_removeEntry 4 none) 7 157 [.ref (a0), .int (p0), .int (p1)] σ (.inl none) τ := by
  unfold m_X12_removeEntry at hm
  obtain ⟨hg, hm⟩ := grw_e hm
  refine tMt_of (n := 0) rfl (Nat.le_of_ble_eq_true rfl) hg ?_
  intro p e s m below meth c C htab hin
  refine zx_lv [0, 1, 2] [(0, .ref (a0)), (1, .int (p0)), (2, .int (p1))] rfl ?_
  refine zx_aload_n C dX12_removeEntry_0 0 rfl ?_
  refine zx_iload_n C dX12_removeEntry_1 1 rfl ?_
  refine zx_iload_n C dX12_removeEntry_2 2 rfl ?_
  refine zx_bipush (v := 64) C dX12_removeEntry_3 (by decide) ?_
  obtain ⟨k1, i2, hm⟩ := ckO_e hm
  obtain ⟨v3, ρ4, h5, hm⟩ := cll_e hm
  refine zx_callV (σ := σ) C [.int (p0), .int (p1), .int (64)] tC_11 k1 i2 Y_X12_putEntry W_8_131 W_8_133 Wp_102 (c_X12_putEntry h5) (by decide) (by decide) rfl (Nat.le_of_ble_eq_true rfl) dX12_removeEntry_5 rfl ?_
  refine zx_aload_n C dX12_removeEntry_8 0 rfl ?_
  refine zx_iload_n C dX12_removeEntry_9 1 rfl ?_
  refine zx_iconst (v := 1) C dX12_removeEntry_10 (by decide) ?_
  obtain ⟨k6, i7, hm⟩ := ckO_e hm
  obtain ⟨v8, ρ9, h10, hm⟩ := cll_e hm
  refine zx_callV (σ := ρ4) C [.int (p0), .int (1)] tC_11 k6 i7 Y_X12_node W_8_40 W_8_42 Wp_80 (c_X12_node h10) (by decide) (by decide) rfl (Nat.le_of_ble_eq_true rfl) dX12_removeEntry_11 rfl ?_
  refine zx_sipush (v := 256) C dX12_removeEntry_14 (by decide) ?_
  refine zx_idiv C dX12_removeEntry_17 (by decide) ?_
  refine zx_iconst (v := 1) C dX12_removeEntry_18 (by decide) ?_
  refine zx_isub C dX12_removeEntry_19 ?_
  refine zx_topi (fun y11 hy11 => ?_)
  replace hm := ltb_e hm hy11
  refine zx_istore_n C [(3, .int (y11)), (0, .ref (a0)), (1, .int (p0)), (2, .int (p1))] dX12_removeEntry_20 rfl (by decide) rfl ?_
  exact zx_lv [1, 2, 0] [(0, .ref (a0)), (1, .int (p0)), (3, .int (y11))] rfl (l_X12_removeEntry_21 C htab hin  _ _ _ _ _ hm)
