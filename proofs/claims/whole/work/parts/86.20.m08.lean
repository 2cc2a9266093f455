abbrev cX10_sum : ByteArray := prog_1_method_28_code
def yX10_sum : MethodName := ⟨"SyncTree", "sum", "(III)J"⟩
theorem Y_X10_sum : tY yX10_sum cX10_sum 7 (some .long) 3 := ⟨W_5_199, W_1_1, ⟨by decide +kernel, by decide +kernel⟩, by decide +kernel⟩
theorem dX10_sum_0 : decode cX10_sum 0 = .ok (.aload_n 0, 1) := by decide +kernel
theorem dX10_sum_1 : decode cX10_sum 1 = .ok (.getfield 12, 3) := by decide +kernel
theorem dX10_sum_4 : decode cX10_sum 4 = .ok (.invokevirtual 221, 3) := by decide +kernel
theorem dX10_sum_7 : decode cX10_sum 7 = .ok (.aload_n 0, 1) := by decide +kernel
theorem dX10_sum_8 : decode cX10_sum 8 = .ok (.iload_n 1, 1) := by decide +kernel
theorem dX10_sum_9 : decode cX10_sum 9 = .ok (.invokevirtual 224, 3) := by decide +kernel
theorem dX10_sum_12 : decode cX10_sum 12 = .ok (.istore 4, 2) := by decide +kernel
theorem dX10_sum_14 : decode cX10_sum 14 = .ok (.iload 4, 2) := by decide +kernel
theorem dX10_sum_16 : decode cX10_sum 16 = .ok (.ifCond .lt 18, 3) := by decide +kernel
theorem dX10_sum_19 : decode cX10_sum 19 = .ok (.iload_n 2, 1) := by decide +kernel
theorem dX10_sum_20 : decode cX10_sum 20 = .ok (.ifCond .lt 14, 3) := by decide +kernel
theorem dX10_sum_23 : decode cX10_sum 23 = .ok (.iload_n 3, 1) := by decide +kernel
theorem dX10_sum_24 : decode cX10_sum 24 = .ok (.ifCond .lt 10, 3) := by decide +kernel
theorem dX10_sum_27 : decode cX10_sum 27 = .ok (.iload_n 3, 1) := by decide +kernel
theorem dX10_sum_28 : decode cX10_sum 28 = .ok (.sipush 16384, 3) := by decide +kernel
theorem dX10_sum_31 : decode cX10_sum 31 = .ok (.if_icmp .le 7, 3) := by decide +kernel
theorem dX10_sum_34 : decode cX10_sum 34 = .ok (.ldc2_w 258, 3) := by decide +kernel
theorem dX10_sum_37 : decode cX10_sum 37 = .ok (.lreturn, 1) := by decide +kernel
theorem dX10_sum_38 : decode cX10_sum 38 = .ok (.iconst 0, 1) := by decide +kernel
theorem dX10_sum_39 : decode cX10_sum 39 = .ok (.aload_n 0, 1) := by decide +kernel
theorem dX10_sum_40 : decode cX10_sum 40 = .ok (.getfield 28, 3) := by decide +kernel
theorem dX10_sum_43 : decode cX10_sum 43 = .ok (.iload 4, 2) := by decide +kernel
theorem dX10_sum_45 : decode cX10_sum 45 = .ok (.invokevirtual 245, 3) := by decide +kernel
theorem dX10_sum_48 : decode cX10_sum 48 = .ok (.iload_n 2, 1) := by decide +kernel
theorem dX10_sum_49 : decode cX10_sum 49 = .ok (.isub, 1) := by decide +kernel
theorem dX10_sum_50 : decode cX10_sum 50 = .ok (.invokestatic 260, 3) := by decide +kernel
theorem dX10_sum_53 : decode cX10_sum 53 = .ok (.istore 5, 2) := by decide +kernel
theorem dX10_sum_55 : decode cX10_sum 55 = .ok (.iload_n 3, 1) := by decide +kernel
theorem dX10_sum_56 : decode cX10_sum 56 = .ok (.iload 5, 2) := by decide +kernel
theorem dX10_sum_58 : decode cX10_sum 58 = .ok (.invokestatic 265, 3) := by decide +kernel
theorem dX10_sum_61 : decode cX10_sum 61 = .ok (.istore 6, 2) := by decide +kernel
theorem dX10_sum_63 : decode cX10_sum 63 = .ok (.iload 6, 2) := by decide +kernel
theorem dX10_sum_65 : decode cX10_sum 65 = .ok (.i2l, 1) := by decide +kernel
theorem dX10_sum_66 : decode cX10_sum 66 = .ok (.bipush 32, 2) := by decide +kernel
theorem dX10_sum_68 : decode cX10_sum 68 = .ok (.lshl, 1) := by decide +kernel
theorem dX10_sum_69 : decode cX10_sum 69 = .ok (.aload_n 0, 1) := by decide +kernel
theorem dX10_sum_70 : decode cX10_sum 70 = .ok (.getfield 28, 3) := by decide +kernel
theorem dX10_sum_73 : decode cX10_sum 73 = .ok (.iload 4, 2) := by decide +kernel
theorem dX10_sum_75 : decode cX10_sum 75 = .ok (.iload_n 2, 1) := by decide +kernel
theorem dX10_sum_76 : decode cX10_sum 76 = .ok (.iload 6, 2) := by decide +kernel
theorem dX10_sum_78 : decode cX10_sum 78 = .ok (.invokevirtual 268, 3) := by decide +kernel
theorem dX10_sum_81 : decode cX10_sum 81 = .ok (.ladd, 1) := by decide +kernel
theorem dX10_sum_82 : decode cX10_sum 82 = .ok (.lreturn, 1) := by decide +kernel
set_option maxRecDepth 100000 in
set_option maxHeartbeats 1000000 in
theorem j_X10_sum_34 {p : Program} {l : Launch} {e : Env} {s : State} {m : MethodId} {args : Array Value} {below : List Frame} {meth : Method} {c : Code} {D : va_G} {aC : Nat → ClassId} {b0 fu : Nat} {σ0 τ : tM} {v : (Int64) ⊕ Unit}  (C : tCx p l s m args meth c yX10_sum.cls cX10_sum 7 (some .long) D aC b0 σ0) (htab : ∀ x ∈ c.exceptionTable.toList, False) (hin : meth.name = yX10_sum.name)   {σ : tM} (hm : J_X10_sum_34 b0 fu   σ = some (v, τ)) : tX p l e s m args below meth c 7 7 110 D aC b0 σ0 (rxJ "java/lang/IllegalStateException" v) τ 34 [] [] σ := by
  unfold J_X10_sum_34 at hm
  refine zx_ldc2 (v := (-9)) C W_5_200 dX10_sum_34 ?_
  obtain ⟨rfl, rfl⟩ := ret_e hm
  exact zx_lret C rfl rfl rfl dX10_sum_37
set_option maxRecDepth 100000 in
set_option maxHeartbeats 1000000 in
theorem c_X10_sum {l : Launch} {D : va_G} {aC : Nat → ClassId} {b0 fu : Nat} {a0 : Nat} {p0 : Int32} {p1 : Int32} {p2 : Int32} {σ τ : tM} {v : (Int64) ⊕ Unit} (hm : m_X10_sum b0 fu a0 p0 p1 p2 σ = some (v, τ)) : tMt l D aC b0 yX10_sum (Cond.code yX10_sum cX10_sum 7 (some .long)) 7 110 [.ref (a0), .int (p0), .int (p1), .int (p2)] σ (rxJ "java/lang/IllegalStateException" v) τ := by
  unfold m_X10_sum at hm
  obtain ⟨hg, hm⟩ := grw_e hm
  refine tMt_of (n := 0) rfl (Nat.le_of_ble_eq_true rfl) hg ?_
  intro p e s m below meth c C htab hin
  refine zx_lv [0, 1, 2, 3] [(0, .ref (a0)), (1, .int (p0)), (2, .int (p1)), (3, .int (p2))] rfl ?_
  refine zx_aload_n C dX10_sum_0 0 rfl ?_
  obtain ⟨k1, i2, hm⟩ := ckO_e hm
  obtain ⟨a3, h4, hm⟩ := osm_e hm
  refine zx_get (j := 0) C tC_10 k1 i2 ⟨by decide, Or.inl W_2_213⟩ dX10_sum_1 (.ref a3) (rf_s h4) ?_
  obtain ⟨k5, i6, hm⟩ := ckO_e hm
  rcases clx_e hm with ⟨v7, ρ8, h9, hm⟩ | ⟨ρ8, h9, hm⟩
  · refine zx_callV (σ := σ) C [] tC_0 k5 i6 Y_X0_demandPower W_5_130 W_3_113 W_3_114 (c_X0_demandPower h9) (by decide) (by decide) rfl (Nat.le_of_ble_eq_true rfl) dX10_sum_4 rfl ?_
    refine zx_aload_n C dX10_sum_7 0 rfl ?_
    refine zx_iload_n C dX10_sum_8 1 rfl ?_
    obtain ⟨k10, i11, hm⟩ := ckO_e hm
    obtain ⟨v12, ρ13, h14, hm⟩ := cll_e hm
    refine zx_callV (σ := ρ8) C [.int (p0)] tC_10 k10 i11 Y_X10_fileOf W_5_138 W_5_140 Wp_41 (c_X10_fileOf h14) (by decide) (by decide) rfl (Nat.le_of_ble_eq_true rfl) dX10_sum_9 rfl ?_
    refine zx_istore C [(4, .int (v12)), (0, .ref (a0)), (1, .int (p0)), (2, .int (p1)), (3, .int (p2))] dX10_sum_12 (by decide) rfl ?_
    refine zx_iload C dX10_sum_14 0 rfl ?_
    refine zx_if_lt C 34 dX10_sum_16 (by decide) (fun c15 => ?_) (fun c15 => ?_)
    · replace hm := ip_e hm c15
      exact zx_lv [] [] rfl (j_X10_sum_34 C htab hin    hm)
    · replace hm := in_e hm c15
      refine zx_iload_n C dX10_sum_19 3 rfl ?_
      refine zx_if_lt C 34 dX10_sum_20 (by decide) (fun c16 => ?_) (fun c16 => ?_)
      · replace hm := ip_e hm c16
        exact zx_lv [] [] rfl (j_X10_sum_34 C htab hin    hm)
      · replace hm := in_e hm c16
        refine zx_iload_n C dX10_sum_23 4 rfl ?_
        refine zx_if_lt C 34 dX10_sum_24 (by decide) (fun c17 => ?_) (fun c17 => ?_)
        · replace hm := ip_e hm c17
          exact zx_lv [] [] rfl (j_X10_sum_34 C htab hin    hm)
        · replace hm := in_e hm c17
          refine zx_iload_n C dX10_sum_27 4 rfl ?_
          refine zx_sipush (v := 16384) C dX10_sum_28 (by decide) ?_
          refine zx_icmp_le C 38 dX10_sum_31 (by decide) (fun c18 => ?_) (fun c18 => ?_)
          · replace hm := ip_e hm c18
            refine zx_iconst (v := 0) C dX10_sum_38 (by decide) ?_
            refine zx_aload_n C dX10_sum_39 1 rfl ?_
            obtain ⟨k19, i20, hm⟩ := ckO_e hm
            obtain ⟨a21, h22, hm⟩ := osm_e hm
            refine zx_get (j := 2) C tC_10 k19 i20 ⟨by decide, Or.inl W_2_215⟩ dX10_sum_40 (.ref a21) (rf_s h22) ?_
            refine zx_iload C dX10_sum_43 0 rfl ?_
            obtain ⟨k23, i24, hm⟩ := ckO_e hm
            obtain ⟨v25, ρ26, h27, hm⟩ := cll_e hm
            refine zx_callV (σ := ρ13) C [.int (v12)] tC_8 k23 i24 Y_X8_size W_5_155 W_4_133 W_4_134 (c_X8_size h27) (by decide) (by decide) rfl (Nat.le_of_ble_eq_true rfl) dX10_sum_45 rfl ?_
            refine zx_iload_n C dX10_sum_48 3 rfl ?_
            refine zx_isub C dX10_sum_49 ?_
            refine zx_max C W_5_201 W_2_109 W_1_10 W_2_110 (by decide) (by decide) (Nat.le_of_ble_eq_true rfl) dX10_sum_50 ?_
            refine zx_topi (fun y28 hy28 => ?_)
            replace hm := ltb_e hm hy28
            refine zx_istore C [(5, .int (y28)), (4, .int (v12)), (0, .ref (a0)), (1, .int (p0)), (2, .int (p1)), (3, .int (p2))] dX10_sum_53 (by decide) rfl ?_
            refine zx_iload_n C dX10_sum_55 5 rfl ?_
            refine zx_iload C dX10_sum_56 0 rfl ?_
            refine zx_min C W_5_202 W_2_106 W_1_10 W_2_107 (by decide) (by decide) (Nat.le_of_ble_eq_true rfl) dX10_sum_58 ?_
            refine zx_topi (fun y29 hy29 => ?_)
            replace hm := ltb_e hm hy29
            refine zx_istore C [(6, .int (y29)), (5, .int (y28)), (4, .int (v12)), (0, .ref (a0)), (1, .int (p0)), (2, .int (p1)), (3, .int (p2))] dX10_sum_61 (by decide) rfl ?_
            refine zx_iload C dX10_sum_63 0 rfl ?_
            refine zx_i2l C dX10_sum_65 ?_
            refine zx_bipush (v := 32) C dX10_sum_66 (by decide) ?_
            refine zx_lshl C dX10_sum_68 ?_
            refine zx_aload_n C dX10_sum_69 3 rfl ?_
            obtain ⟨k30, i31, hm⟩ := ckO_e hm
            obtain ⟨a32, h33, hm⟩ := osm_e hm
            refine zx_get (j := 2) C tC_10 k30 i31 ⟨by decide, Or.inl W_2_215⟩ dX10_sum_70 (.ref a32) (rf_s h33) ?_
            refine zx_iload C dX10_sum_73 2 rfl ?_
            refine zx_iload_n C dX10_sum_75 5 rfl ?_
            refine zx_iload C dX10_sum_76 0 rfl ?_
            obtain ⟨k34, i35, hm⟩ := ckO_e hm
            obtain ⟨v36, ρ37, h38, hm⟩ := cll_e hm
            refine zx_callV (σ := ρ26) C [.int (v12), .int (p1), .int (y29)] tC_8 k34 i35 Y_X8_checksum W_5_203 W_5_204 W_5_205 (c_X8_checksum h38) (by decide) (by decide) rfl (Nat.le_of_ble_eq_true rfl) dX10_sum_78 rfl ?_
            refine zx_ladd C dX10_sum_81 ?_
            obtain ⟨rfl, rfl⟩ := ret_e hm
            exact zx_lret C rfl rfl rfl dX10_sum_82
          · replace hm := in_e hm c18
            exact zx_lv [] [] rfl (j_X10_sum_34 C htab hin    hm)
  · cases hm
    exact zx_outV (σ := σ) C htab [] tC_0 k5 i6 Y_X0_demandPower W_5_130 W_3_113 W_3_114 (c_X0_demandPower h9) rfl (by decide) (by decide) rfl (Nat.le_of_ble_eq_true rfl) dX10_sum_4 rfl
abbrev cX10_blockOf : ByteArray := prog_1_method_33_code
def yX10_blockOf : MethodName := ⟨"SyncTree", "blockOf", "(II)I"⟩
theorem Y_X10_blockOf : tY yX10_blockOf cX10_blockOf 5 (some .int) 2 := ⟨W_6_24, W_1_1, ⟨by decide +kernel, by decide +kernel⟩, by decide +kernel⟩
theorem dX10_blockOf_0 : decode cX10_blockOf 0 = .ok (.aload_n 0, 1) := by decide +kernel
theorem dX10_blockOf_1 : decode cX10_blockOf 1 = .ok (.getfield 12, 3) := by decide +kernel
theorem dX10_blockOf_4 : decode cX10_blockOf 4 = .ok (.invokevirtual 221, 3) := by decide +kernel
theorem dX10_blockOf_7 : decode cX10_blockOf 7 = .ok (.aload_n 0, 1) := by decide +kernel
theorem dX10_blockOf_8 : decode cX10_blockOf 8 = .ok (.iload_n 1, 1) := by decide +kernel
theorem dX10_blockOf_9 : decode cX10_blockOf 9 = .ok (.invokevirtual 224, 3) := by decide +kernel
theorem dX10_blockOf_12 : decode cX10_blockOf 12 = .ok (.istore_n 3, 1) := by decide +kernel
theorem dX10_blockOf_13 : decode cX10_blockOf 13 = .ok (.iload_n 3, 1) := by decide +kernel
theorem dX10_blockOf_14 : decode cX10_blockOf 14 = .ok (.ifCond .lt 14, 3) := by decide +kernel
theorem dX10_blockOf_17 : decode cX10_blockOf 17 = .ok (.iload_n 2, 1) := by decide +kernel
theorem dX10_blockOf_18 : decode cX10_blockOf 18 = .ok (.ifCond .lt 10, 3) := by decide +kernel
theorem dX10_blockOf_21 : decode cX10_blockOf 21 = .ok (.iload_n 2, 1) := by decide +kernel
theorem dX10_blockOf_22 : decode cX10_blockOf 22 = .ok (.sipush 1064, 3) := by decide +kernel
theorem dX10_blockOf_25 : decode cX10_blockOf 25 = .ok (.if_icmp .lt 6, 3) := by decide +kernel
theorem dX10_blockOf_28 : decode cX10_blockOf 28 = .ok (.bipush (-9), 2) := by decide +kernel
theorem dX10_blockOf_30 : decode cX10_blockOf 30 = .ok (.ireturn, 1) := by decide +kernel
theorem dX10_blockOf_31 : decode cX10_blockOf 31 = .ok (.aload_n 0, 1) := by decide +kernel
theorem dX10_blockOf_32 : decode cX10_blockOf 32 = .ok (.getfield 28, 3) := by decide +kernel
theorem dX10_blockOf_35 : decode cX10_blockOf 35 = .ok (.iload_n 3, 1) := by decide +kernel
theorem dX10_blockOf_36 : decode cX10_blockOf 36 = .ok (.iload_n 2, 1) := by decide +kernel
theorem dX10_blockOf_37 : decode cX10_blockOf 37 = .ok (.invokevirtual 287, 3) := by decide +kernel
theorem dX10_blockOf_40 : decode cX10_blockOf 40 = .ok (.invokestatic 291, 3) := by decide +kernel
theorem dX10_blockOf_43 : decode cX10_blockOf 43 = .ok (.istore 4, 2) := by decide +kernel
theorem dX10_blockOf_45 : decode cX10_blockOf 45 = .ok (.iload 4, 2) := by decide +kernel
theorem dX10_blockOf_47 : decode cX10_blockOf 47 = .ok (.ifCond .ne 7, 3) := by decide +kernel
theorem dX10_blockOf_50 : decode cX10_blockOf 50 = .ok (.iconst 0, 1) := by decide +kernel
theorem dX10_blockOf_51 : decode cX10_blockOf 51 = .ok (.goto 12, 3) := by decide +kernel
theorem dX10_blockOf_54 : decode cX10_blockOf 54 = .ok (.aload_n 0, 1) := by decide +kernel
theorem dX10_blockOf_55 : decode cX10_blockOf 55 = .ok (.getfield 19, 3) := by decide +kernel
theorem dX10_blockOf_58 : decode cX10_blockOf 58 = .ok (.iload 4, 2) := by decide +kernel
theorem dX10_blockOf_60 : decode cX10_blockOf 60 = .ok (.invokevirtual 295, 3) := by decide +kernel
theorem dX10_blockOf_63 : decode cX10_blockOf 63 = .ok (.ireturn, 1) := by decide +kernel
set_option maxRecDepth 100000 in
set_option maxHeartbeats 1000000 in
theorem j_X10_blockOf_28 {p : Program} {l : Launch} {e : Env} {s : State} {m : MethodId} {args : Array Value} {below : List Frame} {meth : Method} {c : Code} {D : va_G} {aC : Nat → ClassId} {b0 fu : Nat} {σ0 τ : tM} {v : (Int32) ⊕ Unit}  (C : tCx p l s m args meth c yX10_blockOf.cls cX10_blockOf 5 (some .int) D aC b0 σ0) (htab : ∀ x ∈ c.exceptionTable.toList, False) (hin : meth.name = yX10_blockOf.name)   {σ : tM} (hm : J_X10_blockOf_28 b0 fu   σ = some (v, τ)) : tX p l e s m args below meth c 5 7 110 D aC b0 σ0 (rxI "java/lang/IllegalStateException" v) τ 28 [] [] σ := by
  unfold J_X10_blockOf_28 at hm
  refine zx_bipush (v := (-9)) C dX10_blockOf_28 (by decide) ?_
  obtain ⟨rfl, rfl⟩ := ret_e hm
  exact zx_iret C rfl rfl rfl dX10_blockOf_30
set_option maxRecDepth 100000 in
set_option maxHeartbeats 1000000 in
theorem j_X10_blockOf_63 {p : Program} {l : Launch} {e : Env} {s : State} {m : MethodId} {args : Array Value} {below : List Frame} {meth : Method} {c : Code} {D : va_G} {aC : Nat → ClassId} {b0 fu : Nat} {σ0 τ : tM} {v : (Int32) ⊕ Unit}  (C : tCx p l s m args meth c yX10_blockOf.cls cX10_blockOf 5 (some .int) D aC b0 σ0) (htab : ∀ x ∈ c.exceptionTable.toList, False) (hin : meth.name = yX10_blockOf.name)  {s0 : Int32} {σ : tM} (hm : J_X10_blockOf_63 b0 fu  s0 σ = some (v, τ)) : tX p l e s m args below meth c 5 7 110 D aC b0 σ0 (rxI "java/lang/IllegalStateException" v) τ 63 [] [.int (s0)] σ := by
  unfold J_X10_blockOf_63 at hm
  obtain ⟨rfl, rfl⟩ := ret_e hm
  exact zx_iret C rfl rfl rfl dX10_blockOf_63
set_option maxRecDepth 100000 in
set_option maxHeartbeats 1000000 in
theorem c_X10_blockOf {l : Launch} {D : va_G} {aC : Nat → ClassId} {b0 fu : Nat} {a0 : Nat} {p0 : Int32} {p1 : Int32} {σ τ : tM} {v : (Int32) ⊕ Unit} (hm : m_X10_blockOf b0 fu a0 p0 p1 σ = some (v, τ)) : tMt l D aC b0 yX10_blockOf (Cond.code yX10_blockOf cX10_blockOf 5 (some .int)) 7 110 [.ref (a0), .int (p0), .int (p1)] σ (rxI "java/lang/IllegalStateException" v) τ := by
  unfold m_X10_blockOf at hm
  obtain ⟨hg, hm⟩ := grw_e hm
  refine tMt_of (n := 0) rfl (Nat.le_of_ble_eq_true rfl) hg ?_
  intro p e s m below meth c C htab hin
  refine zx_lv [0, 1, 2] [(0, .ref (a0)), (1, .int (p0)), (2, .int (p1))] rfl ?_
  refine zx_aload_n C dX10_blockOf_0 0 rfl ?_
  obtain ⟨k1, i2, hm⟩ := ckO_e hm
  obtain ⟨a3, h4, hm⟩ := osm_e hm
  refine zx_get (j := 0) C tC_10 k1 i2 ⟨by decide, Or.inl W_2_213⟩ dX10_blockOf_1 (.ref a3) (rf_s h4) ?_
  obtain ⟨k5, i6, hm⟩ := ckO_e hm
  rcases clx_e hm with ⟨v7, ρ8, h9, hm⟩ | ⟨ρ8, h9, hm⟩
  · refine zx_callV (σ := σ) C [] tC_0 k5 i6 Y_X0_demandPower W_5_130 W_3_113 W_3_114 (c_X0_demandPower h9) (by decide) (by decide) rfl (Nat.le_of_ble_eq_true rfl) dX10_blockOf_4 rfl ?_
    refine zx_aload_n C dX10_blockOf_7 0 rfl ?_
    refine zx_iload_n C dX10_blockOf_8 1 rfl ?_
    obtain ⟨k10, i11, hm⟩ := ckO_e hm
    obtain ⟨v12, ρ13, h14, hm⟩ := cll_e hm
    refine zx_callV (σ := ρ8) C [.int (p0)] tC_10 k10 i11 Y_X10_fileOf W_5_138 W_5_140 Wp_41 (c_X10_fileOf h14) (by decide) (by decide) rfl (Nat.le_of_ble_eq_true rfl) dX10_blockOf_9 rfl ?_
    refine zx_istore_n C [(3, .int (v12)), (0, .ref (a0)), (1, .int (p0)), (2, .int (p1))] dX10_blockOf_12 rfl (by decide) rfl ?_
    refine zx_iload_n C dX10_blockOf_13 0 rfl ?_
    refine zx_if_lt C 28 dX10_blockOf_14 (by decide) (fun c15 => ?_) (fun c15 => ?_)
    · replace hm := ip_e hm c15
      exact zx_lv [] [] rfl (j_X10_blockOf_28 C htab hin    hm)
    · replace hm := in_e hm c15
      refine zx_iload_n C dX10_blockOf_17 3 rfl ?_
      refine zx_if_lt C 28 dX10_blockOf_18 (by decide) (fun c16 => ?_) (fun c16 => ?_)
      · replace hm := ip_e hm c16
        exact zx_lv [] [] rfl (j_X10_blockOf_28 C htab hin    hm)
      · replace hm := in_e hm c16
        refine zx_iload_n C dX10_blockOf_21 3 rfl ?_
        refine zx_sipush (v := 1064) C dX10_blockOf_22 (by decide) ?_
        refine zx_icmp_lt C 31 dX10_blockOf_25 (by decide) (fun c17 => ?_) (fun c17 => ?_)
        · replace hm := ip_e hm c17
          refine zx_aload_n C dX10_blockOf_31 1 rfl ?_
          obtain ⟨k18, i19, hm⟩ := ckO_e hm
          obtain ⟨a20, h21, hm⟩ := osm_e hm
          refine zx_get (j := 2) C tC_10 k18 i19 ⟨by decide, Or.inl W_2_215⟩ dX10_blockOf_32 (.ref a20) (rf_s h21) ?_
          refine zx_iload_n C dX10_blockOf_35 0 rfl ?_
          refine zx_iload_n C dX10_blockOf_36 3 rfl ?_
          obtain ⟨k22, i23, hm⟩ := ckO_e hm
          obtain ⟨v24, ρ25, h26, hm⟩ := cll_e hm
          refine zx_callV (σ := ρ13) C [.int (v12), .int (p1)] tC_8 k22 i23 Y_X8_pointer W_6_25 W_4_110 W_4_111 (c_X8_pointer h26) (by decide) (by decide) rfl (Nat.le_of_ble_eq_true rfl) dX10_blockOf_37 rfl ?_
          obtain ⟨v27, ρ28, h29, hm⟩ := cll_e hm
          refine zx_callS (σ := ρ25) C [.long (v24)] Y_X8_cellOf W_6_26 W_4_118 (c_X8_cellOf h29) (by decide) (by decide) rfl (Nat.le_of_ble_eq_true rfl) dX10_blockOf_40 rfl ?_
          refine zx_istore C [(4, .int (v27)), (3, .int (v12)), (0, .ref (a0)), (1, .int (p0)), (2, .int (p1))] dX10_blockOf_43 (by decide) rfl ?_
          refine zx_iload C dX10_blockOf_45 0 rfl ?_
          refine zx_if_ne C 54 dX10_blockOf_47 (by decide) (fun c30 => ?_) (fun c30 => ?_)
          · replace hm := in_e hm c30
            refine zx_aload_n C dX10_blockOf_54 2 rfl ?_
            obtain ⟨k31, i32, hm⟩ := ckO_e hm
            obtain ⟨a33, h34, hm⟩ := osm_e hm
            refine zx_get (j := 1) C tC_10 k31 i32 ⟨by decide, Or.inl W_2_214⟩ dX10_blockOf_55 (.ref a33) (rf_s h34) ?_
            refine zx_iload C dX10_blockOf_58 0 rfl ?_
            obtain ⟨k35, i36, hm⟩ := ckO_e hm
            obtain ⟨v37, ρ38, h39, hm⟩ := cll_e hm
            refine zx_callV (σ := ρ28) C [.int (v27)] tC_5 k35 i36 Y_X5_numberOf W_6_27 W_4_6 W_4_7 (c_X5_numberOf h39) (by decide) (by decide) rfl (Nat.le_of_ble_eq_true rfl) dX10_blockOf_60 rfl ?_
            exact zx_lv [] [] rfl (j_X10_blockOf_63 C htab hin    hm)
          · replace hm := ip_e hm c30
            refine zx_iconst (v := 0) C dX10_blockOf_50 (by decide) ?_
            refine zx_goto C 63 dX10_blockOf_51 (by decide) ?_
            exact zx_lv [] [] rfl (j_X10_blockOf_63 C htab hin    hm)
        · replace hm := in_e hm c17
          exact zx_lv [] [] rfl (j_X10_blockOf_28 C htab hin    hm)
  · cases hm
    exact zx_outV (σ := σ) C htab [] tC_0 k5 i6 Y_X0_demandPower W_5_130 W_3_113 W_3_114 (c_X0_demandPower h9) rfl (by decide) (by decide) rfl (Nat.le_of_ble_eq_true rfl) dX10_blockOf_4 rfl
abbrev cX10_cut : ByteArray := prog_1_method_41_code
def yX10_cut : MethodName := ⟨"SyncTree", "cut", "(I)I"⟩
theorem Y_X10_cut : tY yX10_cut cX10_cut 2 (some .int) 1 := ⟨W_3_41, W_1_1, ⟨by decide +kernel, by decide +kernel⟩, by decide +kernel⟩
theorem dX10_cut_0 : decode cX10_cut 0 = .ok (.iload_n 1, 1) := by decide +kernel
theorem dX10_cut_1 : decode cX10_cut 1 = .ok (.iconst (-1), 1) := by decide +kernel
theorem dX10_cut_2 : decode cX10_cut 2 = .ok (.if_icmp .ge 6, 3) := by decide +kernel
theorem dX10_cut_5 : decode cX10_cut 5 = .ok (.bipush (-9), 2) := by decide +kernel
theorem dX10_cut_7 : decode cX10_cut 7 = .ok (.ireturn, 1) := by decide +kernel
theorem dX10_cut_8 : decode cX10_cut 8 = .ok (.aload_n 0, 1) := by decide +kernel
theorem dX10_cut_9 : decode cX10_cut 9 = .ok (.getfield 12, 3) := by decide +kernel
theorem dX10_cut_12 : decode cX10_cut 12 = .ok (.iload_n 1, 1) := by decide +kernel
theorem dX10_cut_13 : decode cX10_cut 13 = .ok (.putfield 343, 3) := by decide +kernel
theorem dX10_cut_16 : decode cX10_cut 16 = .ok (.iload_n 1, 1) := by decide +kernel
theorem dX10_cut_17 : decode cX10_cut 17 = .ok (.ireturn, 1) := by decide +kernel
set_option maxRecDepth 100000 in
set_option maxHeartbeats 1000000 in
theorem c_X10_cut {l : Launch} {D : va_G} {aC : Nat → ClassId} {b0 fu : Nat} {a0 : Nat} {p0 : Int32} {σ τ : tM} {v : Int32} (hm : m_X10_cut b0 fu a0 p0 σ = some (v, τ)) : tMt l D aC b0 yX10_cut (Cond.code yX10_cut cX10_cut 2 (some .int)) 0 0 [.ref (a0), .int (p0)] σ (.inl (some (.int v))) τ := by
  unfold m_X10_cut at hm
  obtain ⟨hg, hm⟩ := grw_e hm
  refine tMt_of (n := 0) rfl (Nat.le_of_ble_eq_true rfl) hg ?_
  intro p e s m below meth c C htab hin
  refine zx_lv [0, 1] [(0, .ref (a0)), (1, .int (p0))] rfl ?_
  refine zx_iload_n C dX10_cut_0 1 rfl ?_
  refine zx_iconst (v := (-1)) C dX10_cut_1 (by decide) ?_
  refine zx_icmp_ge C 8 dX10_cut_2 (by decide) (fun c1 => ?_) (fun c1 => ?_)
  · replace hm := ip_e hm c1
    refine zx_aload_n C dX10_cut_8 0 rfl ?_
    obtain ⟨k2, i3, hm⟩ := ckO_e hm
    obtain ⟨a4, h5, hm⟩ := osm_e hm
    refine zx_get (j := 0) C tC_10 k2 i3 ⟨by decide, Or.inl W_2_213⟩ dX10_cut_9 (.ref a4) (rf_s h5) ?_
    refine zx_iload_n C dX10_cut_12 1 rfl ?_
    obtain ⟨k6, i7, hm⟩ := ckO_e hm
    refine zx_put (j := 13) (ρ := sI (σ) (a4) 13 (p0)) C tC_0 k6 i7 ⟨by decide, Or.inr ⟨_, W_1_51⟩⟩ rfl rfl rfl (sI_ok (fun _ => rfl)) dX10_cut_13 ?_
    refine zx_iload_n C dX10_cut_16 1 rfl ?_
    obtain ⟨rfl, rfl⟩ := ret_e hm
    exact zx_iret C rfl rfl rfl dX10_cut_17
  · replace hm := in_e hm c1
    refine zx_bipush (v := (-9)) C dX10_cut_5 (by decide) ?_
    obtain ⟨rfl, rfl⟩ := ret_e hm
    exact zx_iret C rfl rfl rfl dX10_cut_7
abbrev cX10_crash : ByteArray := prog_1_method_42_code
def yX10_crash : MethodName := ⟨"SyncTree", "crash", "()I"⟩
theorem Y_X10_crash : tY yX10_crash cX10_crash 1 (some .int) 0 := ⟨W_6_108, W_1_1, ⟨by decide +kernel, by decide +kernel⟩, by decide +kernel⟩
theorem dX10_crash_0 : decode cX10_crash 0 = .ok (.aload_n 0, 1) := by decide +kernel
theorem dX10_crash_1 : decode cX10_crash 1 = .ok (.getfield 12, 3) := by decide +kernel
theorem dX10_crash_4 : decode cX10_crash 4 = .ok (.invokevirtual 221, 3) := by decide +kernel
theorem dX10_crash_7 : decode cX10_crash 7 = .ok (.aload_n 0, 1) := by decide +kernel
theorem dX10_crash_8 : decode cX10_crash 8 = .ok (.getfield 12, 3) := by decide +kernel
theorem dX10_crash_11 : decode cX10_crash 11 = .ok (.invokevirtual 346, 3) := by decide +kernel
theorem dX10_crash_14 : decode cX10_crash 14 = .ok (.aload_n 0, 1) := by decide +kernel
theorem dX10_crash_15 : decode cX10_crash 15 = .ok (.getfield 12, 3) := by decide +kernel
theorem dX10_crash_18 : decode cX10_crash 18 = .ok (.getfield 349, 3) := by decide +kernel
theorem dX10_crash_21 : decode cX10_crash 21 = .ok (.ireturn, 1) := by decide +kernel
set_option maxRecDepth 100000 in
set_option maxHeartbeats 1000000 in
theorem c_X10_crash {l : Launch} {D : va_G} {aC : Nat → ClassId} {b0 fu : Nat} {a0 : Nat} {σ τ : tM} {v : (Int32) ⊕ Unit} (hm : m_X10_crash b0 fu a0 σ = some (v, τ)) : tMt l D aC b0 yX10_crash (Cond.code yX10_crash cX10_crash 1 (some .int)) 7 110 [.ref (a0)] σ (rxI "java/lang/IllegalStateException" v) τ := by
  unfold m_X10_crash at hm
  obtain ⟨hg, hm⟩ := grw_e hm
  refine tMt_of (n := 0) rfl (Nat.le_of_ble_eq_true rfl) hg ?_
  intro p e s m below meth c C htab hin
  refine zx_lv [0] [(0, .ref (a0))] rfl ?_
  refine zx_aload_n C dX10_crash_0 0 rfl ?_
  obtain ⟨k1, i2, hm⟩ := ckO_e hm
  obtain ⟨a3, h4, hm⟩ := osm_e hm
  refine zx_get (j := 0) C tC_10 k1 i2 ⟨by decide, Or.inl W_2_213⟩ dX10_crash_1 (.ref a3) (rf_s h4) ?_
  obtain ⟨k5, i6, hm⟩ := ckO_e hm
  rcases clx_e hm with ⟨v7, ρ8, h9, hm⟩ | ⟨ρ8, h9, hm⟩
  · refine zx_callV (σ := σ) C [] tC_0 k5 i6 Y_X0_demandPower W_5_130 W_3_113 W_3_114 (c_X0_demandPower h9) (by decide) (by decide) rfl (Nat.le_of_ble_eq_true rfl) dX10_crash_4 rfl ?_
    refine zx_aload_n C dX10_crash_7 0 rfl ?_
    obtain ⟨k10, i11, hm⟩ := ckO_e hm
    obtain ⟨a12, h13, hm⟩ := osm_e hm
    refine zx_get (j := 0) C tC_10 k10 i11 ⟨by decide, Or.inl W_2_213⟩ dX10_crash_8 (.ref a12) (rf_s h13) ?_
    obtain ⟨k14, i15, hm⟩ := ckO_e hm
    obtain ⟨v16, ρ17, h18, hm⟩ := cll_e hm
    refine zx_callV (σ := ρ8) C [] tC_0 k14 i15 Y_X0_losePower W_6_109 W_3_204 W_3_205 (c_X0_losePower h18) (by decide) (by decide) rfl (Nat.le_of_ble_eq_true rfl) dX10_crash_11 rfl ?_
    refine zx_aload_n C dX10_crash_14 0 rfl ?_
    obtain ⟨k19, i20, hm⟩ := ckO_e hm
    obtain ⟨a21, h22, hm⟩ := osm_e hm
    refine zx_get (j := 0) C tC_10 k19 i20 ⟨by decide, Or.inl W_2_213⟩ dX10_crash_15 (.ref a21) (rf_s h22) ?_
    obtain ⟨k23, i24, hm⟩ := ckO_e hm
    refine zx_get (j := 10) C tC_0 k23 i24 ⟨by decide, Or.inr ⟨_, W_1_47⟩⟩ dX10_crash_18 (.int (tI (ρ17) (a21) 10)) rfl ?_
    obtain ⟨rfl, rfl⟩ := ret_e hm
    exact zx_iret C rfl rfl rfl dX10_crash_21
  · cases hm
    exact zx_outV (σ := σ) C htab [] tC_0 k5 i6 Y_X0_demandPower W_5_130 W_3_113 W_3_114 (c_X0_demandPower h9) rfl (by decide) (by decide) rfl (Nat.le_of_ble_eq_true rfl) dX10_crash_4 rfl
abbrev cX10_choose : ByteArray := prog_1_method_43_code
def yX10_choose : MethodName := ⟨"SyncTree", "choose", "(II)I"⟩
theorem Y_X10_choose : tY yX10_choose cX10_choose 3 (some .int) 2 := ⟨W_3_45, W_1_1, ⟨by decide +kernel, by decide +kernel⟩, by decide +kernel⟩
theorem dX10_choose_0 : decode cX10_choose 0 = .ok (.aload_n 0, 1) := by decide +kernel
theorem dX10_choose_1 : decode cX10_choose 1 = .ok (.getfield 12, 3) := by decide +kernel
theorem dX10_choose_4 : decode cX10_choose 4 = .ok (.getfield 352, 3) := by decide +kernel
theorem dX10_choose_7 : decode cX10_choose 7 = .ok (.ifCond .ne 19, 3) := by decide +kernel
theorem dX10_choose_10 : decode cX10_choose 10 = .ok (.iload_n 2, 1) := by decide +kernel
theorem dX10_choose_11 : decode cX10_choose 11 = .ok (.ifCond .lt 15, 3) := by decide +kernel
theorem dX10_choose_14 : decode cX10_choose 14 = .ok (.iload_n 2, 1) := by decide +kernel
theorem dX10_choose_15 : decode cX10_choose 15 = .ok (.aload_n 0, 1) := by decide +kernel
theorem dX10_choose_16 : decode cX10_choose 16 = .ok (.getfield 12, 3) := by decide +kernel
theorem dX10_choose_19 : decode cX10_choose 19 = .ok (.iload_n 1, 1) := by decide +kernel
theorem dX10_choose_20 : decode cX10_choose 20 = .ok (.invokevirtual 356, 3) := by decide +kernel
theorem dX10_choose_23 : decode cX10_choose 23 = .ok (.if_icmp .le 6, 3) := by decide +kernel
theorem dX10_choose_26 : decode cX10_choose 26 = .ok (.bipush (-9), 2) := by decide +kernel
theorem dX10_choose_28 : decode cX10_choose 28 = .ok (.ireturn, 1) := by decide +kernel
theorem dX10_choose_29 : decode cX10_choose 29 = .ok (.aload_n 0, 1) := by decide +kernel
theorem dX10_choose_30 : decode cX10_choose 30 = .ok (.getfield 12, 3) := by decide +kernel
theorem dX10_choose_33 : decode cX10_choose 33 = .ok (.iload_n 1, 1) := by decide +kernel
theorem dX10_choose_34 : decode cX10_choose 34 = .ok (.iload_n 2, 1) := by decide +kernel
theorem dX10_choose_35 : decode cX10_choose 35 = .ok (.invokevirtual 359, 3) := by decide +kernel
theorem dX10_choose_38 : decode cX10_choose 38 = .ok (.aload_n 0, 1) := by decide +kernel
theorem dX10_choose_39 : decode cX10_choose 39 = .ok (.getfield 12, 3) := by decide +kernel
theorem dX10_choose_42 : decode cX10_choose 42 = .ok (.iload_n 1, 1) := by decide +kernel
theorem dX10_choose_43 : decode cX10_choose 43 = .ok (.invokevirtual 356, 3) := by decide +kernel
theorem dX10_choose_46 : decode cX10_choose 46 = .ok (.ireturn, 1) := by decide +kernel
set_option maxRecDepth 100000 in
set_option maxHeartbeats 1000000 in
theorem j_X10_choose_26 {p : Program} {l : Launch} {e : Env} {s : State} {m : MethodId} {args : Array Value} {below : List Frame} {meth : Method} {c : Code} {D : va_G} {aC : Nat → ClassId} {b0 fu : Nat} {σ0 τ : tM} {v : Int32}  (C : tCx p l s m args meth c yX10_choose.cls cX10_choose 3 (some .int) D aC b0 σ0) (htab : ∀ x ∈ c.exceptionTable.toList, False) (hin : meth.name = yX10_choose.name)   {σ : tM} (hm : J_X10_choose_26 b0 fu   σ = some (v, τ)) : tX p l e s m args below meth c 3 1 22 D aC b0 σ0 (.inl (some (.int v))) τ 26 [] [] σ := by
  unfold J_X10_choose_26 at hm
  refine zx_bipush (v := (-9)) C dX10_choose_26 (by decide) ?_
  obtain ⟨rfl, rfl⟩ := ret_e hm
  exact zx_iret C rfl rfl rfl dX10_choose_28
set_option maxRecDepth 100000 in
set_option maxHeartbeats 1000000 in
theorem c_X10_choose {l : Launch} {D : va_G} {aC : Nat → ClassId} {b0 fu : Nat} {a0 : Nat} {p0 : Int32} {p1 : Int32} {σ τ : tM} {v : Int32} (hm : m_X10_choose b0 fu a0 p0 p1 σ = some (v, τ)) : tMt l D aC b0 yX10_choose (Cond.code yX10_choose cX10_choose 3 (some .int)) 1 22 [.ref (a0), .int (p0), .int (p1)] σ (.inl (some (.int v))) τ := by
  unfold m_X10_choose at hm
  obtain ⟨hg, hm⟩ := grw_e hm
  refine tMt_of (n := 0) rfl (Nat.le_of_ble_eq_true rfl) hg ?_
  intro p e s m below meth c C htab hin
  refine zx_lv [0, 1, 2] [(0, .ref (a0)), (1, .int (p0)), (2, .int (p1))] rfl ?_
  refine zx_aload_n C dX10_choose_0 0 rfl ?_
  obtain ⟨k1, i2, hm⟩ := ckO_e hm
  obtain ⟨a3, h4, hm⟩ := osm_e hm
  refine zx_get (j := 0) C tC_10 k1 i2 ⟨by decide, Or.inl W_2_213⟩ dX10_choose_1 (.ref a3) (rf_s h4) ?_
  obtain ⟨k5, i6, hm⟩ := ckO_e hm
  refine zx_get (j := 14) C tC_0 k5 i6 ⟨by decide, Or.inr ⟨_, W_1_53⟩⟩ dX10_choose_4 (.int (tI (σ) (a3) 14)) rfl ?_
  refine zx_if_ne C 26 dX10_choose_7 (by decide) (fun c7 => ?_) (fun c7 => ?_)
  · replace hm := in_e hm c7
    exact zx_lv [] [] rfl (j_X10_choose_26 C htab hin    hm)
  · replace hm := ip_e hm c7
    refine zx_iload_n C dX10_choose_10 2 rfl ?_
    refine zx_if_lt C 26 dX10_choose_11 (by decide) (fun c8 => ?_) (fun c8 => ?_)
    · replace hm := ip_e hm c8
      exact zx_lv [] [] rfl (j_X10_choose_26 C htab hin    hm)
    · replace hm := in_e hm c8
      refine zx_iload_n C dX10_choose_14 2 rfl ?_
      refine zx_aload_n C dX10_choose_15 0 rfl ?_
      obtain ⟨a9, h10, hm⟩ := osm_e hm
      refine zx_get (j := 0) C tC_10 k1 i2 ⟨by decide, Or.inl W_2_213⟩ dX10_choose_16 (.ref a9) (rf_s h10) ?_
      refine zx_iload_n C dX10_choose_19 1 rfl ?_
      obtain ⟨k11, i12, hm⟩ := ckO_e hm
      obtain ⟨v13, ρ14, h15, hm⟩ := cll_e hm
      refine zx_callV (σ := σ) C [.int (p0)] tC_0 k11 i12 Y_X0_countOf W_3_46 W_3_47 W_3_48 (c_X0_countOf h15) (by decide) (by decide) rfl (Nat.le_of_ble_eq_true rfl) dX10_choose_20 rfl ?_
      refine zx_icmp_le C 29 dX10_choose_23 (by decide) (fun c16 => ?_) (fun c16 => ?_)
      · replace hm := ip_e hm c16
        refine zx_aload_n C dX10_choose_29 0 rfl ?_
        obtain ⟨k17, i18, hm⟩ := ckO_e hm
        obtain ⟨a19, h20, hm⟩ := osm_e hm
        refine zx_get (j := 0) C tC_10 k17 i18 ⟨by decide, Or.inl W_2_213⟩ dX10_choose_30 (.ref a19) (rf_s h20) ?_
        refine zx_iload_n C dX10_choose_33 1 rfl ?_
        refine zx_iload_n C dX10_choose_34 2 rfl ?_
        obtain ⟨k21, i22, hm⟩ := ckO_e hm
        obtain ⟨v23, ρ24, h25, hm⟩ := cll_e hm
        refine zx_callV (σ := ρ14) C [.int (p0), .int (p1)] tC_0 k21 i22 Y_X0_setChoice W_3_50 W_3_51 W_3_52 (c_X0_setChoice h25) (by decide) (by decide) rfl (Nat.le_of_ble_eq_true rfl) dX10_choose_35 rfl ?_
        refine zx_aload_n C dX10_choose_38 0 rfl ?_
        obtain ⟨k26, i27, hm⟩ := ckO_e hm
        obtain ⟨a28, h29, hm⟩ := osm_e hm
        refine zx_get (j := 0) C tC_10 k26 i27 ⟨by decide, Or.inl W_2_213⟩ dX10_choose_39 (.ref a28) (rf_s h29) ?_
        refine zx_iload_n C dX10_choose_42 1 rfl ?_
        obtain ⟨k30, i31, hm⟩ := ckO_e hm
        obtain ⟨v32, ρ33, h34, hm⟩ := cll_e hm
        refine zx_callV (σ := ρ24) C [.int (p0)] tC_0 k30 i31 Y_X0_countOf W_3_46 W_3_47 W_3_48 (c_X0_countOf h34) (by decide) (by decide) rfl (Nat.le_of_ble_eq_true rfl) dX10_choose_43 rfl ?_
        obtain ⟨rfl, rfl⟩ := ret_e hm
        exact zx_iret C rfl rfl rfl dX10_choose_46
      · replace hm := in_e hm c16
        exact zx_lv [] [] rfl (j_X10_choose_26 C htab hin    hm)
abbrev cX10_shuffle : ByteArray := prog_1_method_44_code
def yX10_shuffle : MethodName := ⟨"SyncTree", "shuffle", "(J)I"⟩
theorem Y_X10_shuffle : tY yX10_shuffle cX10_shuffle 3 (some .int) 1 := ⟨W_3_57, W_1_1, ⟨by decide +kernel, by decide +kernel⟩, by decide +kernel⟩
theorem dX10_shuffle_0 : decode cX10_shuffle 0 = .ok (.aload_n 0, 1) := by decide +kernel
theorem dX10_shuffle_1 : decode cX10_shuffle 1 = .ok (.getfield 12, 3) := by decide +kernel
theorem dX10_shuffle_4 : decode cX10_shuffle 4 = .ok (.getfield 352, 3) := by decide +kernel
theorem dX10_shuffle_7 : decode cX10_shuffle 7 = .ok (.ifCond .eq 8, 3) := by decide +kernel
theorem dX10_shuffle_10 : decode cX10_shuffle 10 = .ok (.bipush (-9), 2) := by decide +kernel
theorem dX10_shuffle_12 : decode cX10_shuffle 12 = .ok (.goto 11, 3) := by decide +kernel
theorem dX10_shuffle_15 : decode cX10_shuffle 15 = .ok (.aload_n 0, 1) := by decide +kernel
theorem dX10_shuffle_16 : decode cX10_shuffle 16 = .ok (.getfield 12, 3) := by decide +kernel
theorem dX10_shuffle_19 : decode cX10_shuffle 19 = .ok (.lload_n 1, 1) := by decide +kernel
theorem dX10_shuffle_20 : decode cX10_shuffle 20 = .ok (.invokevirtual 362, 3) := by decide +kernel
theorem dX10_shuffle_23 : decode cX10_shuffle 23 = .ok (.ireturn, 1) := by decide +kernel
set_option maxRecDepth 100000 in
set_option maxHeartbeats 1000000 in
theorem j_X10_shuffle_23 {p : Program} {l : Launch} {e : Env} {s : State} {m : MethodId} {args : Array Value} {below : List Frame} {meth : Method} {c : Code} {D : va_G} {aC : Nat → ClassId} {b0 fu : Nat} {σ0 τ : tM} {v : Int32}  (C : tCx p l s m args meth c yX10_shuffle.cls cX10_shuffle 3 (some .int) D aC b0 σ0) (htab : ∀ x ∈ c.exceptionTable.toList, False) (hin : meth.name = yX10_shuffle.name)  {s0 : Int32} {σ : tM} (hm : J_X10_shuffle_23 b0 fu  s0 σ = some (v, τ)) : tX p l e s m args below meth c 3 1 25 D aC b0 σ0 (.inl (some (.int v))) τ 23 [] [.int (s0)] σ := by
  unfold J_X10_shuffle_23 at hm
  obtain ⟨rfl, rfl⟩ := ret_e hm
  exact zx_iret C rfl rfl rfl dX10_shuffle_23
set_option maxRecDepth 100000 in
set_option maxHeartbeats 1000000 in
theorem c_X10_shuffle {l : Launch} {D : va_G} {aC : Nat → ClassId} {b0 fu : Nat} {a0 : Nat} {p0 : Int64} {σ τ : tM} {v : Int32} (hm : m_X10_shuffle b0 fu a0 p0 σ = some (v, τ)) : tMt l D aC b0 yX10_shuffle (Cond.code yX10_shuffle cX10_shuffle 3 (some .int)) 1 25 [.ref (a0), .long (p0)] σ (.inl (some (.int v))) τ := by
  unfold m_X10_shuffle at hm
  obtain ⟨hg, hm⟩ := grw_e hm
  refine tMt_of (n := 0) rfl (Nat.le_of_ble_eq_true rfl) hg ?_
  intro p e s m below meth c C htab hin
  refine zx_lv [0, 1] [(0, .ref (a0)), (1, .long (p0))] rfl ?_
  refine zx_aload_n C dX10_shuffle_0 0 rfl ?_
  obtain ⟨k1, i2, hm⟩ := ckO_e hm
  obtain ⟨a3, h4, hm⟩ := osm_e hm
  refine zx_get (j := 0) C tC_10 k1 i2 ⟨by decide, Or.inl W_2_213⟩ dX10_shuffle_1 (.ref a3) (rf_s h4) ?_
  obtain ⟨k5, i6, hm⟩ := ckO_e hm
  refine zx_get (j := 14) C tC_0 k5 i6 ⟨by decide, Or.inr ⟨_, W_1_53⟩⟩ dX10_shuffle_4 (.int (tI (σ) (a3) 14)) rfl ?_
  refine zx_if_eq C 15 dX10_shuffle_7 (by decide) (fun c7 => ?_) (fun c7 => ?_)
  · replace hm := ip_e hm c7
    refine zx_aload_n C dX10_shuffle_15 0 rfl ?_
    obtain ⟨a8, h9, hm⟩ := osm_e hm
    refine zx_get (j := 0) C tC_10 k1 i2 ⟨by decide, Or.inl W_2_213⟩ dX10_shuffle_16 (.ref a8) (rf_s h9) ?_
    refine zx_lload_n C dX10_shuffle_19 1 rfl ?_
    obtain ⟨k10, i11, hm⟩ := ckO_e hm
    obtain ⟨v12, ρ13, h14, hm⟩ := cll_e hm
    refine zx_callV (σ := σ) C [.long (p0)] tC_0 k10 i11 Y_X0_chooseAll W_3_58 W_3_59 W_3_60 (c_X0_chooseAll h14) (by decide) (by decide) rfl (Nat.le_of_ble_eq_true rfl) dX10_shuffle_20 rfl ?_
    exact zx_lv [] [] rfl (j_X10_shuffle_23 C htab hin    hm)
  · replace hm := in_e hm c7
    refine zx_bipush (v := (-9)) C dX10_shuffle_10 (by decide) ?_
    refine zx_goto C 23 dX10_shuffle_12 (by decide) ?_
    exact zx_lv [] [] rfl (j_X10_shuffle_23 C htab hin    hm)
abbrev cX10_versions : ByteArray := prog_1_method_46_code
def yX10_versions : MethodName := ⟨"SyncTree", "versions", "(I)I"⟩
theorem Y_X10_versions : tY yX10_versions cX10_versions 3 (some .int) 1 := ⟨W_3_66, W_1_1, ⟨by decide +kernel, by decide +kernel⟩, by decide +kernel⟩
theorem dX10_versions_0 : decode cX10_versions 0 = .ok (.aload_n 0, 1) := by decide +kernel
theorem dX10_versions_1 : decode cX10_versions 1 = .ok (.getfield 12, 3) := by decide +kernel
theorem dX10_versions_4 : decode cX10_versions 4 = .ok (.iload_n 1, 1) := by decide +kernel
theorem dX10_versions_5 : decode cX10_versions 5 = .ok (.invokevirtual 356, 3) := by decide +kernel
theorem dX10_versions_8 : decode cX10_versions 8 = .ok (.istore_n 2, 1) := by decide +kernel
theorem dX10_versions_9 : decode cX10_versions 9 = .ok (.iload_n 2, 1) := by decide +kernel
theorem dX10_versions_10 : decode cX10_versions 10 = .ok (.ifCond .ge 8, 3) := by decide +kernel
theorem dX10_versions_13 : decode cX10_versions 13 = .ok (.bipush (-9), 2) := by decide +kernel
theorem dX10_versions_15 : decode cX10_versions 15 = .ok (.goto 4, 3) := by decide +kernel
theorem dX10_versions_18 : decode cX10_versions 18 = .ok (.iload_n 2, 1) := by decide +kernel
theorem dX10_versions_19 : decode cX10_versions 19 = .ok (.ireturn, 1) := by decide +kernel
set_option maxRecDepth 100000 in
set_option maxHeartbeats 1000000 in
theorem j_X10_versions_19 {p : Program} {l : Launch} {e : Env} {s : State} {m : MethodId} {args : Array Value} {below : List Frame} {meth : Method} {c : Code} {D : va_G} {aC : Nat → ClassId} {b0 fu : Nat} {σ0 τ : tM} {v : Int32}  (C : tCx p l s m args meth c yX10_versions.cls cX10_versions 3 (some .int) D aC b0 σ0) (htab : ∀ x ∈ c.exceptionTable.toList, False) (hin : meth.name = yX10_versions.name)  {s0 : Int32} {σ : tM} (hm : J_X10_versions_19 b0 fu  s0 σ = some (v, τ)) : tX p l e s m args below meth c 3 1 21 D aC b0 σ0 (.inl (some (.int v))) τ 19 [] [.int (s0)] σ := by
  unfold J_X10_versions_19 at hm
  obtain ⟨rfl, rfl⟩ := ret_e hm
  exact zx_iret C rfl rfl rfl dX10_versions_19
set_option maxRecDepth 100000 in
set_option maxHeartbeats 1000000 in
theorem c_X10_versions {l : Launch} {D : va_G} {aC : Nat → ClassId} {b0 fu : Nat} {a0 : Nat} {p0 : Int32} {σ τ : tM} {v : Int32} (hm : m_X10_versions b0 fu a0 p0 σ = some (v, τ)) : tMt l D aC b0 yX10_versions (Cond.code yX10_versions cX10_versions 3 (some .int)) 1 21 [.ref (a0), .int (p0)] σ (.inl (some (.int v))) τ := by
  unfold m_X10_versions at hm
  obtain ⟨hg, hm⟩ := grw_e hm
  refine tMt_of (n := 0) rfl (Nat.le_of_ble_eq_true rfl) hg ?_
  intro p e s m below meth c C htab hin
  refine zx_lv [0, 1] [(0, .ref (a0)), (1, .int (p0))] rfl ?_
  refine zx_aload_n C dX10_versions_0 0 rfl ?_
  obtain ⟨k1, i2, hm⟩ := ckO_e hm
  obtain ⟨a3, h4, hm⟩ := osm_e hm
  refine zx_get (j := 0) C tC_10 k1 i2 ⟨by decide, Or.inl W_2_213⟩ dX10_versions_1 (.ref a3) (rf_s h4) ?_
  refine zx_iload_n C dX10_versions_4 1 rfl ?_
  obtain ⟨k5, i6, hm⟩ := ckO_e hm
  obtain ⟨v7, ρ8, h9, hm⟩ := cll_e hm
  refine zx_callV (σ := σ) C [.int (p0)] tC_0 k5 i6 Y_X0_countOf W_3_46 W_3_47 W_3_48 (c_X0_countOf h9) (by decide) (by decide) rfl (Nat.le_of_ble_eq_true rfl) dX10_versions_5 rfl ?_
  refine zx_istore_n C [(2, .int (v7)), (0, .ref (a0)), (1, .int (p0))] dX10_versions_8 rfl (by decide) rfl ?_
  refine zx_iload_n C dX10_versions_9 0 rfl ?_
  refine zx_if_ge C 18 dX10_versions_10 (by decide) (fun c10 => ?_) (fun c10 => ?_)
  · replace hm := ip_e hm c10
    refine zx_iload_n C dX10_versions_18 0 rfl ?_
    exact zx_lv [] [] rfl (j_X10_versions_19 C htab hin    hm)
  · replace hm := in_e hm c10
    refine zx_bipush (v := (-9)) C dX10_versions_13 (by decide) ?_
    refine zx_goto C 19 dX10_versions_15 (by decide) ?_
    exact zx_lv [] [] rfl (j_X10_versions_19 C htab hin    hm)
abbrev cX10_total : ByteArray := prog_1_method_47_code
def yX10_total : MethodName := ⟨"SyncTree", "total", "(I)I"⟩
theorem Y_X10_total : tY yX10_total cX10_total 2 (some .int) 1 := ⟨W_3_70, W_1_1, ⟨by decide +kernel, by decide +kernel⟩, by decide +kernel⟩
theorem dX10_total_0 : decode cX10_total 0 = .ok (.iload_n 1, 1) := by decide +kernel
theorem dX10_total_1 : decode cX10_total 1 = .ok (.ifCond .lt 9, 3) := by decide +kernel
theorem dX10_total_4 : decode cX10_total 4 = .ok (.iload_n 1, 1) := by decide +kernel
theorem dX10_total_5 : decode cX10_total 5 = .ok (.bipush 18, 2) := by decide +kernel
theorem dX10_total_7 : decode cX10_total 7 = .ok (.if_icmp .le 6, 3) := by decide +kernel
theorem dX10_total_10 : decode cX10_total 10 = .ok (.bipush (-9), 2) := by decide +kernel
theorem dX10_total_12 : decode cX10_total 12 = .ok (.ireturn, 1) := by decide +kernel
theorem dX10_total_13 : decode cX10_total 13 = .ok (.iload_n 1, 1) := by decide +kernel
theorem dX10_total_14 : decode cX10_total 14 = .ok (.iconst 5, 1) := by decide +kernel
theorem dX10_total_15 : decode cX10_total 15 = .ok (.if_icmp .ge 12, 3) := by decide +kernel
theorem dX10_total_18 : decode cX10_total 18 = .ok (.aload_n 0, 1) := by decide +kernel
theorem dX10_total_19 : decode cX10_total 19 = .ok (.getfield 12, 3) := by decide +kernel
theorem dX10_total_22 : decode cX10_total 22 = .ok (.iload_n 1, 1) := by decide +kernel
theorem dX10_total_23 : decode cX10_total 23 = .ok (.invokevirtual 374, 3) := by decide +kernel
theorem dX10_total_26 : decode cX10_total 26 = .ok (.ireturn, 1) := by decide +kernel
theorem dX10_total_27 : decode cX10_total 27 = .ok (.aload_n 0, 1) := by decide +kernel
theorem dX10_total_28 : decode cX10_total 28 = .ok (.getfield 12, 3) := by decide +kernel
theorem dX10_total_31 : decode cX10_total 31 = .ok (.getfield 352, 3) := by decide +kernel
theorem dX10_total_34 : decode cX10_total 34 = .ok (.ifCond .ne 5, 3) := by decide +kernel
theorem dX10_total_37 : decode cX10_total 37 = .ok (.iconst (-1), 1) := by decide +kernel
theorem dX10_total_38 : decode cX10_total 38 = .ok (.ireturn, 1) := by decide +kernel
theorem dX10_total_39 : decode cX10_total 39 = .ok (.iload_n 1, 1) := by decide +kernel
theorem dX10_total_40 : decode cX10_total 40 = .ok (.bipush 8, 2) := by decide +kernel
theorem dX10_total_42 : decode cX10_total 42 = .ok (.if_icmp .ne 11, 3) := by decide +kernel
theorem dX10_total_45 : decode cX10_total 45 = .ok (.aload_n 0, 1) := by decide +kernel
theorem dX10_total_46 : decode cX10_total 46 = .ok (.getfield 28, 3) := by decide +kernel
theorem dX10_total_49 : decode cX10_total 49 = .ok (.invokevirtual 377, 3) := by decide +kernel
theorem dX10_total_52 : decode cX10_total 52 = .ok (.ireturn, 1) := by decide +kernel
theorem dX10_total_53 : decode cX10_total 53 = .ok (.iload_n 1, 1) := by decide +kernel
theorem dX10_total_54 : decode cX10_total 54 = .ok (.bipush 12, 2) := by decide +kernel
theorem dX10_total_56 : decode cX10_total 56 = .ok (.if_icmp .ge 14, 3) := by decide +kernel
theorem dX10_total_59 : decode cX10_total 59 = .ok (.aload_n 0, 1) := by decide +kernel
theorem dX10_total_60 : decode cX10_total 60 = .ok (.getfield 19, 3) := by decide +kernel
theorem dX10_total_63 : decode cX10_total 63 = .ok (.iload_n 1, 1) := by decide +kernel
theorem dX10_total_64 : decode cX10_total 64 = .ok (.invokevirtual 380, 3) := by decide +kernel
theorem dX10_total_67 : decode cX10_total 67 = .ok (.goto 11, 3) := by decide +kernel
theorem dX10_total_70 : decode cX10_total 70 = .ok (.aload_n 0, 1) := by decide +kernel
theorem dX10_total_71 : decode cX10_total 71 = .ok (.getfield 37, 3) := by decide +kernel
theorem dX10_total_74 : decode cX10_total 74 = .ok (.iload_n 1, 1) := by decide +kernel
theorem dX10_total_75 : decode cX10_total 75 = .ok (.invokevirtual 381, 3) := by decide +kernel
theorem dX10_total_78 : decode cX10_total 78 = .ok (.ireturn, 1) := by decide +kernel
set_option maxRecDepth 100000 in
set_option maxHeartbeats 1000000 in
theorem j_X10_total_10 {p : Program} {l : Launch} {e : Env} {s : State} {m : MethodId} {args : Array Value} {below : List Frame} {meth : Method} {c : Code} {D : va_G} {aC : Nat → ClassId} {b0 fu : Nat} {σ0 τ : tM} {v : Int32}  (C : tCx p l s m args meth c yX10_total.cls cX10_total 2 (some .int) D aC b0 σ0) (htab : ∀ x ∈ c.exceptionTable.toList, False) (hin : meth.name = yX10_total.name)   {σ : tM} (hm : J_X10_total_10 b0 fu   σ = some (v, τ)) : tX p l e s m args below meth c 2 3 65 D aC b0 σ0 (.inl (some (.int v))) τ 10 [] [] σ := by
  unfold J_X10_total_10 at hm
  refine zx_bipush (v := (-9)) C dX10_total_10 (by decide) ?_
  obtain ⟨rfl, rfl⟩ := ret_e hm
  exact zx_iret C rfl rfl rfl dX10_total_12
set_option maxRecDepth 100000 in
set_option maxHeartbeats 1000000 in
theorem j_X10_total_78 {p : Program} {l : Launch} {e : Env} {s : State} {m : MethodId} {args : Array Value} {below : List Frame} {meth : Method} {c : Code} {D : va_G} {aC : Nat → ClassId} {b0 fu : Nat} {σ0 τ : tM} {v : Int32}  (C : tCx p l s m args meth c yX10_total.cls cX10_total 2 (some .int) D aC b0 σ0) (htab : ∀ x ∈ c.exceptionTable.toList, False) (hin : meth.name = yX10_total.name)  {s0 : Int32} {σ : tM} (hm : J_X10_total_78 b0 fu  s0 σ = some (v, τ)) : tX p l e s m args below meth c 2 3 65 D aC b0 σ0 (.inl (some (.int v))) τ 78 [] [.int (s0)] σ := by
  unfold J_X10_total_78 at hm
  obtain ⟨rfl, rfl⟩ := ret_e hm
  exact zx_iret C rfl rfl rfl dX10_total_78
set_option maxRecDepth 100000 in
set_option maxHeartbeats 1000000 in
theorem c_X10_total {l : Launch} {D : va_G} {aC : Nat → ClassId} {b0 fu : Nat} {a0 : Nat} {p0 : Int32} {σ τ : tM} {v : Int32} (hm : m_X10_total b0 fu a0 p0 σ = some (v, τ)) : tMt l D aC b0 yX10_total (Cond.code yX10_total cX10_total 2 (some .int)) 3 65 [.ref (a0), .int (p0)] σ (.inl (some (.int v))) τ := by
  unfold m_X10_total at hm
  obtain ⟨hg, hm⟩ := grw_e hm
  refine tMt_of (n := 0) rfl (Nat.le_of_ble_eq_true rfl) hg ?_
  intro p e s m below meth c C htab hin
  refine zx_lv [0, 1] [(0, .ref (a0)), (1, .int (p0))] rfl ?_
  refine zx_iload_n C dX10_total_0 1 rfl ?_
  refine zx_if_lt C 10 dX10_total_1 (by decide) (fun c1 => ?_) (fun c1 => ?_)
  · replace hm := ip_e hm c1
    exact zx_lv [] [] rfl (j_X10_total_10 C htab hin    hm)
  · replace hm := in_e hm c1
    refine zx_iload_n C dX10_total_4 1 rfl ?_
    refine zx_bipush (v := 18) C dX10_total_5 (by decide) ?_
    refine zx_icmp_le C 13 dX10_total_7 (by decide) (fun c2 => ?_) (fun c2 => ?_)
    · replace hm := ip_e hm c2
      refine zx_iload_n C dX10_total_13 1 rfl ?_
      refine zx_iconst (v := 5) C dX10_total_14 (by decide) ?_
      refine zx_icmp_ge C 27 dX10_total_15 (by decide) (fun c3 => ?_) (fun c3 => ?_)
      · replace hm := ip_e hm c3
        refine zx_aload_n C dX10_total_27 0 rfl ?_
        obtain ⟨k4, i5, hm⟩ := ckO_e hm
        obtain ⟨a6, h7, hm⟩ := osm_e hm
        refine zx_get (j := 0) C tC_10 k4 i5 ⟨by decide, Or.inl W_2_213⟩ dX10_total_28 (.ref a6) (rf_s h7) ?_
        obtain ⟨k8, i9, hm⟩ := ckO_e hm
        refine zx_get (j := 14) C tC_0 k8 i9 ⟨by decide, Or.inr ⟨_, W_1_53⟩⟩ dX10_total_31 (.int (tI (σ) (a6) 14)) rfl ?_
        refine zx_if_ne C 39 dX10_total_34 (by decide) (fun c10 => ?_) (fun c10 => ?_)
        · replace hm := in_e hm c10
          refine zx_iload_n C dX10_total_39 1 rfl ?_
          refine zx_bipush (v := 8) C dX10_total_40 (by decide) ?_
          refine zx_icmp_ne C 53 dX10_total_42 (by decide) (fun c11 => ?_) (fun c11 => ?_)
          · replace hm := in_e hm c11
            refine zx_iload_n C dX10_total_53 1 rfl ?_
            refine zx_bipush (v := 12) C dX10_total_54 (by decide) ?_
            refine zx_icmp_ge C 70 dX10_total_56 (by decide) (fun c12 => ?_) (fun c12 => ?_)
            · replace hm := ip_e hm c12
              refine zx_aload_n C dX10_total_70 0 rfl ?_
              obtain ⟨a13, h14, hm⟩ := osm_e hm
              refine zx_get (j := 3) C tC_10 k4 i5 ⟨by decide, Or.inl W_2_216⟩ dX10_total_71 (.ref a13) (rf_s h14) ?_
              refine zx_iload_n C dX10_total_74 1 rfl ?_
              obtain ⟨k15, i16, hm⟩ := ckO_e hm
              obtain ⟨v17, ρ18, h19, hm⟩ := cll_e hm
              refine zx_callV (σ := σ) C [.int (p0)] tC_1 k15 i16 Y_X1_figure W_3_96 W_3_97 W_3_98 (c_X1_figure h19) (by decide) (by decide) rfl (Nat.le_of_ble_eq_true rfl) dX10_total_75 rfl ?_
              exact zx_lv [] [] rfl (j_X10_total_78 C htab hin    hm)
            · replace hm := in_e hm c12
              refine zx_aload_n C dX10_total_59 0 rfl ?_
              obtain ⟨a20, h21, hm⟩ := osm_e hm
              refine zx_get (j := 1) C tC_10 k4 i5 ⟨by decide, Or.inl W_2_214⟩ dX10_total_60 (.ref a20) (rf_s h21) ?_
              refine zx_iload_n C dX10_total_63 1 rfl ?_
              obtain ⟨k22, i23, hm⟩ := ckO_e hm
              obtain ⟨v24, ρ25, h26, hm⟩ := cll_e hm
              refine zx_callV (σ := σ) C [.int (p0)] tC_5 k22 i23 Y_X5_figure W_3_88 W_3_89 W_3_90 (c_X5_figure h26) (by decide) (by decide) rfl (Nat.le_of_ble_eq_true rfl) dX10_total_64 rfl ?_
              refine zx_goto C 78 dX10_total_67 (by decide) ?_
              exact zx_lv [] [] rfl (j_X10_total_78 C htab hin    hm)
          · replace hm := ip_e hm c11
            refine zx_aload_n C dX10_total_45 0 rfl ?_
            obtain ⟨a27, h28, hm⟩ := osm_e hm
            refine zx_get (j := 2) C tC_10 k4 i5 ⟨by decide, Or.inl W_2_215⟩ dX10_total_46 (.ref a27) (rf_s h28) ?_
            obtain ⟨k29, i30, hm⟩ := ckO_e hm
            obtain ⟨v31, ρ32, h33, hm⟩ := cll_e hm
            refine zx_callV (σ := σ) C [] tC_8 k29 i30 Y_X8_countUnused W_3_75 W_3_76 W_3_77 (c_X8_countUnused h33) (by decide) (by decide) rfl (Nat.le_of_ble_eq_true rfl) dX10_total_49 rfl ?_
            obtain ⟨rfl, rfl⟩ := ret_e hm
            exact zx_iret C rfl rfl rfl dX10_total_52
        · replace hm := ip_e hm c10
          refine zx_iconst (v := (-1)) C dX10_total_37 (by decide) ?_
          obtain ⟨rfl, rfl⟩ := ret_e hm
          exact zx_iret C rfl rfl rfl dX10_total_38
      · replace hm := in_e hm c3
        refine zx_aload_n C dX10_total_18 0 rfl ?_
        obtain ⟨k34, i35, hm⟩ := ckO_e hm
        obtain ⟨a36, h37, hm⟩ := osm_e hm
        refine zx_get (j := 0) C tC_10 k34 i35 ⟨by decide, Or.inl W_2_213⟩ dX10_total_19 (.ref a36) (rf_s h37) ?_
        refine zx_iload_n C dX10_total_22 1 rfl ?_
        obtain ⟨k38, i39, hm⟩ := ckO_e hm
        obtain ⟨v40, ρ41, h42, hm⟩ := cll_e hm
        refine zx_callV (σ := σ) C [.int (p0)] tC_0 k38 i39 Y_X0_figure W_3_71 W_3_72 W_3_73 (c_X0_figure h42) (by decide) (by decide) rfl (Nat.le_of_ble_eq_true rfl) dX10_total_23 rfl ?_
        obtain ⟨rfl, rfl⟩ := ret_e hm
        exact zx_iret C rfl rfl rfl dX10_total_26
    · replace hm := in_e hm c2
      exact zx_lv [] [] rfl (j_X10_total_10 C htab hin    hm)
abbrev cJ7_fill_53178 : ByteArray := prog_22_method_103_code
def yJ7_fill_53178 : MethodName := ⟨"java/util/Arrays", "fill", "([II)V"⟩
theorem Y_J7_fill_53178 : tY yJ7_fill_53178 cJ7_fill_53178 4 none 2 := ⟨W_2_212, W_1_12, ⟨by decide +kernel, by decide +kernel⟩, by decide +kernel⟩
theorem dJ7_fill_53178_0 : decode cJ7_fill_53178 0 = .ok (.iconst 0, 1) := by decide +kernel
theorem dJ7_fill_53178_1 : decode cJ7_fill_53178 1 = .ok (.istore_n 2, 1) := by decide +kernel
theorem dJ7_fill_53178_2 : decode cJ7_fill_53178 2 = .ok (.aload_n 0, 1) := by decide +kernel
theorem dJ7_fill_53178_3 : decode cJ7_fill_53178 3 = .ok (.arraylength, 1) := by decide +kernel
theorem dJ7_fill_53178_4 : decode cJ7_fill_53178 4 = .ok (.istore_n 3, 1) := by decide +kernel
theorem dJ7_fill_53178_5 : decode cJ7_fill_53178 5 = .ok (.iload_n 2, 1) := by decide +kernel
theorem dJ7_fill_53178_6 : decode cJ7_fill_53178 6 = .ok (.iload_n 3, 1) := by decide +kernel
theorem dJ7_fill_53178_7 : decode cJ7_fill_53178 7 = .ok (.if_icmp .ge 13, 3) := by decide +kernel
theorem dJ7_fill_53178_10 : decode cJ7_fill_53178 10 = .ok (.aload_n 0, 1) := by decide +kernel
theorem dJ7_fill_53178_11 : decode cJ7_fill_53178 11 = .ok (.iload_n 2, 1) := by decide +kernel
theorem dJ7_fill_53178_12 : decode cJ7_fill_53178 12 = .ok (.iload_n 1, 1) := by decide +kernel
theorem dJ7_fill_53178_13 : decode cJ7_fill_53178 13 = .ok (.iastore, 1) := by decide +kernel
theorem dJ7_fill_53178_14 : decode cJ7_fill_53178 14 = .ok (.iinc 2 1, 3) := by decide +kernel
theorem dJ7_fill_53178_17 : decode cJ7_fill_53178 17 = .ok (.goto (-12), 3) := by decide +kernel
theorem dJ7_fill_53178_20 : decode cJ7_fill_53178 20 = .ok (.return_, 1) := by decide +kernel
set_option maxRecDepth 100000 in
set_option maxHeartbeats 1000000 in
theorem l_J7_fill_53178_5 {p : Program} {l : Launch} {e : Env} {s : State} {m : MethodId} {args : Array Value} {below : List Frame} {meth : Method} {c : Code} {D : va_G} {aC : Nat → ClassId} {b0 fu : Nat} {σ0 τ : tM} {v : Unit}  (C : tCx p l s m args meth c yJ7_fill_53178.cls cJ7_fill_53178 4 none D aC b0 σ0) (htab : ∀ x ∈ c.exceptionTable.toList, False) (hin : meth.name = yJ7_fill_53178.name)  : ∀ (n : Nat) (x0 : Nat) (x1 : Int32) (x2 : Int32) (x3 : Int32) (σ : tM), L_J7_fill_53178_5 b0 fu  n x0 x1 x2 x3 σ = some (v, τ) → tX p l e s m args below meth c 4 0 0 D aC b0 σ0 (.inl none) τ 5 [(0, .ref (x0)), (1, .int (x1)), (2, .int (x2)), (3, .int (x3))] [] σ := by
  intro n
  induction n with
  | zero => intro x0 x1 x2 x3 σ hm; unfold L_J7_fill_53178_5 at hm; cases hm
  | succ n ih =>
    intro x0 x1 x2 x3 σ hm
    unfold L_J7_fill_53178_5 at hm
    obtain ⟨rc5, hrc⟩ : ∃ z, z = L_J7_fill_53178_5 b0 fu  n := ⟨_, rfl⟩
    replace hm := ltb_e hm hrc
    rw [← hrc] at ih
    have hrc5 := ih
    clear ih hrc
    refine zx_iload_n C dJ7_fill_53178_5 2 rfl ?_
    refine zx_iload_n C dJ7_fill_53178_6 3 rfl ?_
    refine zx_icmp_ge C 20 dJ7_fill_53178_7 (by decide) (fun c5 => ?_) (fun c5 => ?_)
    · replace hm := ip_e hm c5
      obtain ⟨rfl, rfl⟩ := ret_e hm
      exact zx_vret C rfl rfl rfl dJ7_fill_53178_20
    · replace hm := in_e hm c5
      refine zx_aload_n C dJ7_fill_53178_10 0 rfl ?_
      refine zx_iload_n C dJ7_fill_53178_11 2 rfl ?_
      refine zx_iload_n C dJ7_fill_53178_12 1 rfl ?_
      obtain ⟨n8, k6, i7, hm⟩ := ckR_e hm
      obtain ⟨h9, hm⟩ := ckI_e hm
      refine zx_iast C k6 i7 h9 dJ7_fill_53178_13 ?_
      obtain ⟨y10, hy10⟩ : ∃ z : Int32, z = (x2) + Int32.ofInt 1 := ⟨_, rfl⟩
      replace hm := ltb_e hm hy10
      refine zx_iinc C [(2, .int (y10)), (0, .ref (x0)), (1, .int (x1)), (3, .int (x3))] dJ7_fill_53178_14 2 rfl hy10.symm (by decide) rfl ?_
      refine zx_goto C 5 dJ7_fill_53178_17 (by decide) ?_
      exact zx_lv [1, 2, 0, 3] [(0, .ref (x0)), (1, .int (x1)), (2, .int (y10)), (3, .int (x3))] rfl (hrc5 _ _ _ _ _ hm)
set_option maxRecDepth 100000 in
set_option maxHeartbeats 1000000 in
theorem c_J7_fill_53178 {l : Launch} {D : va_G} {aC : Nat → ClassId} {b0 fu : Nat} {p0 : Nat} {p1 : Int32} {σ τ : tM} {v : Unit} (hm : m_J7_fill_53178 b0 fu p0 p1 σ = some (v, τ)) : tMt l D aC b0 yJ7_fill_53178 (Cond.code yJ7_fill_53178 cJ7_fill_53178 4 none) 0 0 [.ref (p0), .int (p1)] σ (.inl none) τ := by
  unfold m_J7_fill_53178 at hm
  obtain ⟨hg, hm⟩ := grw_e hm
  refine tMt_of (n := 0) rfl (Nat.le_of_ble_eq_true rfl) hg ?_
  intro p e s m below meth c C htab hin
  refine zx_lv [0, 1] [(0, .ref (p0)), (1, .int (p1))] rfl ?_
  refine zx_iconst (v := 0) C dJ7_fill_53178_0 (by decide) ?_
  refine zx_istore_n C [(2, .int (0)), (0, .ref (p0)), (1, .int (p1))] dJ7_fill_53178_1 rfl (by decide) rfl ?_
  refine zx_aload_n C dJ7_fill_53178_2 1 rfl ?_
  obtain ⟨n3, k1, i2, hm⟩ := ckR_e hm
  refine zx_alen C k1 (by decide) i2 dJ7_fill_53178_3 ?_
  refine zx_topi (fun y4 hy4 => ?_)
  replace hm := ltb_e hm hy4
  refine zx_istore_n C [(3, .int (y4)), (2, .int (0)), (0, .ref (p0)), (1, .int (p1))] dJ7_fill_53178_4 rfl (by decide) rfl ?_
  exact zx_lv [2, 3, 1, 0] [(0, .ref (p0)), (1, .int (p1)), (2, .int (0)), (3, .int (y4))] rfl (l_J7_fill_53178_5 C htab hin  _ _ _ _ _ _ hm)
abbrev cJ7_fill_031fb : ByteArray := prog_22_method_109_code
def yJ7_fill_031fb : MethodName := ⟨"java/util/Arrays", "fill", "([BB)V"⟩
theorem Y_J7_fill_031fb : tY yJ7_fill_031fb cJ7_fill_031fb 4 none 2 := ⟨W_2_179, W_1_12, ⟨by decide +kernel, by decide +kernel⟩, by decide +kernel⟩
theorem dJ7_fill_031fb_0 : decode cJ7_fill_031fb 0 = .ok (.iconst 0, 1) := by decide +kernel
theorem dJ7_fill_031fb_1 : decode cJ7_fill_031fb 1 = .ok (.istore_n 2, 1) := by decide +kernel
theorem dJ7_fill_031fb_2 : decode cJ7_fill_031fb 2 = .ok (.aload_n 0, 1) := by decide +kernel
theorem dJ7_fill_031fb_3 : decode cJ7_fill_031fb 3 = .ok (.arraylength, 1) := by decide +kernel
theorem dJ7_fill_031fb_4 : decode cJ7_fill_031fb 4 = .ok (.istore_n 3, 1) := by decide +kernel
theorem dJ7_fill_031fb_5 : decode cJ7_fill_031fb 5 = .ok (.iload_n 2, 1) := by decide +kernel
theorem dJ7_fill_031fb_6 : decode cJ7_fill_031fb 6 = .ok (.iload_n 3, 1) := by decide +kernel
theorem dJ7_fill_031fb_7 : decode cJ7_fill_031fb 7 = .ok (.if_icmp .ge 13, 3) := by decide +kernel
theorem dJ7_fill_031fb_10 : decode cJ7_fill_031fb 10 = .ok (.aload_n 0, 1) := by decide +kernel
theorem dJ7_fill_031fb_11 : decode cJ7_fill_031fb 11 = .ok (.iload_n 2, 1) := by decide +kernel
theorem dJ7_fill_031fb_12 : decode cJ7_fill_031fb 12 = .ok (.iload_n 1, 1) := by decide +kernel
theorem dJ7_fill_031fb_13 : decode cJ7_fill_031fb 13 = .ok (.bastore, 1) := by decide +kernel
theorem dJ7_fill_031fb_14 : decode cJ7_fill_031fb 14 = .ok (.iinc 2 1, 3) := by decide +kernel
theorem dJ7_fill_031fb_17 : decode cJ7_fill_031fb 17 = .ok (.goto (-12), 3) := by decide +kernel
theorem dJ7_fill_031fb_20 : decode cJ7_fill_031fb 20 = .ok (.return_, 1) := by decide +kernel
set_option maxRecDepth 100000 in
set_option maxHeartbeats 1000000 in
theorem l_J7_fill_031fb_5 {p : Program} {l : Launch} {e : Env} {s : State} {m : MethodId} {args : Array Value} {below : List Frame} {meth : Method} {c : Code} {D : va_G} {aC : Nat → ClassId} {b0 fu : Nat} {σ0 τ : tM} {v : Unit}  (C : tCx p l s m args meth c yJ7_fill_031fb.cls cJ7_fill_031fb 4 none D aC b0 σ0) (htab : ∀ x ∈ c.exceptionTable.toList, False) (hin : meth.name = yJ7_fill_031fb.name)  : ∀ (n : Nat) (x0 : Nat) (x1 : Int32) (x2 : Int32) (x3 : Int32) (σ : tM), L_J7_fill_031fb_5 b0 fu  n x0 x1 x2 x3 σ = some (v, τ) → tX p l e s m args below meth c 4 0 0 D aC b0 σ0 (.inl none) τ 5 [(0, .ref (x0)), (1, .int (x1)), (2, .int (x2)), (3, .int (x3))] [] σ := by
  intro n
  induction n with
  | zero => intro x0 x1 x2 x3 σ hm; unfold L_J7_fill_031fb_5 at hm; cases hm
  | succ n ih =>
    intro x0 x1 x2 x3 σ hm
    unfold L_J7_fill_031fb_5 at hm
    obtain ⟨rc5, hrc⟩ : ∃ z, z = L_J7_fill_031fb_5 b0 fu  n := ⟨_, rfl⟩
    replace hm := ltb_e hm hrc
    rw [← hrc] at ih
    have hrc5 := ih
    clear ih hrc
    refine zx_iload_n C dJ7_fill_031fb_5 2 rfl ?_
    refine zx_iload_n C dJ7_fill_031fb_6 3 rfl ?_
    refine zx_icmp_ge C 20 dJ7_fill_031fb_7 (by decide) (fun c5 => ?_) (fun c5 => ?_)
    · replace hm := ip_e hm c5
      obtain ⟨rfl, rfl⟩ := ret_e hm
      exact zx_vret C rfl rfl rfl dJ7_fill_031fb_20
    · replace hm := in_e hm c5
      refine zx_aload_n C dJ7_fill_031fb_10 0 rfl ?_
      refine zx_iload_n C dJ7_fill_031fb_11 2 rfl ?_
      refine zx_iload_n C dJ7_fill_031fb_12 1 rfl ?_
      obtain ⟨n8, k6, i7, hm⟩ := ckR_e hm
      obtain ⟨h9, hm⟩ := ckI_e hm
      refine zx_bast C k6 i7 h9 dJ7_fill_031fb_13 ?_
      obtain ⟨y10, hy10⟩ : ∃ z : Int32, z = (x2) + Int32.ofInt 1 := ⟨_, rfl⟩
      replace hm := ltb_e hm hy10
      refine zx_iinc C [(2, .int (y10)), (0, .ref (x0)), (1, .int (x1)), (3, .int (x3))] dJ7_fill_031fb_14 2 rfl hy10.symm (by decide) rfl ?_
      refine zx_goto C 5 dJ7_fill_031fb_17 (by decide) ?_
      exact zx_lv [1, 2, 0, 3] [(0, .ref (x0)), (1, .int (x1)), (2, .int (y10)), (3, .int (x3))] rfl (hrc5 _ _ _ _ _ hm)
set_option maxRecDepth 100000 in
set_option maxHeartbeats 1000000 in
theorem c_J7_fill_031fb {l : Launch} {D : va_G} {aC : Nat → ClassId} {b0 fu : Nat} {p0 : Nat} {p1 : Int32} {σ τ : tM} {v : Unit} (hm : m_J7_fill_031fb b0 fu p0 p1 σ = some (v, τ)) : tMt l D aC b0 yJ7_fill_031fb (Cond.code yJ7_fill_031fb cJ7_fill_031fb 4 none) 0 0 [.ref (p0), .int (p1)] σ (.inl none) τ := by
  unfold m_J7_fill_031fb at hm
  obtain ⟨hg, hm⟩ := grw_e hm
  refine tMt_of (n := 0) rfl (Nat.le_of_ble_eq_true rfl) hg ?_
  intro p e s m below meth c C htab hin
  refine zx_lv [0, 1] [(0, .ref (p0)), (1, .int (p1))] rfl ?_
  refine zx_iconst (v := 0) C dJ7_fill_031fb_0 (by decide) ?_
  refine zx_istore_n C [(2, .int (0)), (0, .ref (p0)), (1, .int (p1))] dJ7_fill_031fb_1 rfl (by decide) rfl ?_
  refine zx_aload_n C dJ7_fill_031fb_2 1 rfl ?_
  obtain ⟨n3, k1, i2, hm⟩ := ckR_e hm
  refine zx_alen C k1 (by decide) i2 dJ7_fill_031fb_3 ?_
  refine zx_topi (fun y4 hy4 => ?_)
  replace hm := ltb_e hm hy4
  refine zx_istore_n C [(3, .int (y4)), (2, .int (0)), (0, .ref (p0)), (1, .int (p1))] dJ7_fill_031fb_4 rfl (by decide) rfl ?_
  exact zx_lv [2, 3, 1, 0] [(0, .ref (p0)), (1, .int (p1)), (2, .int (0)), (3, .int (y4))] rfl (l_J7_fill_031fb_5 C htab hin  _ _ _ _ _ _ hm)
abbrev cX0_act : ByteArray := prog_2_method_4_code
def yX0_act : MethodName := ⟨"SyncTree$Disk", "act", "()V"⟩
theorem Y_X0_act : tY yX0_act cX0_act 1 none 0 := ⟨W_3_202, W_1_2, ⟨by decide +kernel, by decide +kernel⟩, by decide +kernel⟩
theorem dX0_act_0 : decode cX0_act 0 = .ok (.aload_n 0, 1) := by decide +kernel
theorem dX0_act_1 : decode cX0_act 1 = .ok (.getfield 65, 3) := by decide +kernel
theorem dX0_act_4 : decode cX0_act 4 = .ok (.ifCond .ne 17, 3) := by decide +kernel
theorem dX0_act_7 : decode cX0_act 7 = .ok (.aload_n 0, 1) := by decide +kernel
theorem dX0_act_8 : decode cX0_act 8 = .ok (.invokevirtual 79, 3) := by decide +kernel
theorem dX0_act_11 : decode cX0_act 11 = .ok (.new 72, 3) := by decide +kernel
theorem dX0_act_14 : decode cX0_act 14 = .ok (.dup, 1) := by decide +kernel
theorem dX0_act_15 : decode cX0_act 15 = .ok (.ldc 82, 2) := by decide +kernel
theorem dX0_act_17 : decode cX0_act 17 = .ok (.invokespecial 76, 3) := by decide +kernel
theorem dX0_act_20 : decode cX0_act 20 = .ok (.athrow, 1) := by decide +kernel
theorem dX0_act_21 : decode cX0_act 21 = .ok (.aload_n 0, 1) := by decide +kernel
theorem dX0_act_22 : decode cX0_act 22 = .ok (.getfield 65, 3) := by decide +kernel
theorem dX0_act_25 : decode cX0_act 25 = .ok (.ifCond .le 13, 3) := by decide +kernel
theorem dX0_act_28 : decode cX0_act 28 = .ok (.aload_n 0, 1) := by decide +kernel
theorem dX0_act_29 : decode cX0_act 29 = .ok (.dup, 1) := by decide +kernel
theorem dX0_act_30 : decode cX0_act 30 = .ok (.getfield 65, 3) := by decide +kernel
theorem dX0_act_33 : decode cX0_act 33 = .ok (.iconst 1, 1) := by decide +kernel
theorem dX0_act_34 : decode cX0_act 34 = .ok (.isub, 1) := by decide +kernel
theorem dX0_act_35 : decode cX0_act 35 = .ok (.putfield 65, 3) := by decide +kernel
theorem dX0_act_38 : decode cX0_act 38 = .ok (.aload_n 0, 1) := by decide +kernel
theorem dX0_act_39 : decode cX0_act 39 = .ok (.dup, 1) := by decide +kernel
theorem dX0_act_40 : decode cX0_act 40 = .ok (.getfield 59, 3) := by decide +kernel
theorem dX0_act_43 : decode cX0_act 43 = .ok (.iconst 1, 1) := by decide +kernel
theorem dX0_act_44 : decode cX0_act 44 = .ok (.iadd, 1) := by decide +kernel
theorem dX0_act_45 : decode cX0_act 45 = .ok (.putfield 59, 3) := by decide +kernel
theorem dX0_act_48 : decode cX0_act 48 = .ok (.return_, 1) := by decide +kernel
set_option maxRecDepth 100000 in
set_option maxHeartbeats 1000000 in
theorem j_X0_act_38 {p : Program} {l : Launch} {e : Env} {s : State} {m : MethodId} {args : Array Value} {below : List Frame} {meth : Method} {c : Code} {D : va_G} {aC : Nat → ClassId} {b0 fu : Nat} {σ0 τ : tM} {v : (Unit) ⊕ Unit}  (C : tCx p l s m args meth c yX0_act.cls cX0_act 1 none D aC b0 σ0) (htab : ∀ x ∈ c.exceptionTable.toList, False) (hin : meth.name = yX0_act.name)  {x0 : Nat} {σ : tM} (hm : J_X0_act_38 b0 fu  x0 σ = some (v, τ)) : tX p l e s m args below meth c 1 6 90 D aC b0 σ0 (rxV "java/lang/IllegalStateException" v) τ 38 [(0, .ref (x0))] [] σ := by
  unfold J_X0_act_38 at hm
  refine zx_aload_n C dX0_act_38 0 rfl ?_
  refine zx_dup C dX0_act_39 rfl ?_
  obtain ⟨k5, i6, hm⟩ := ckO_e hm
  refine zx_get (j := 11) C tC_0 k5 i6 ⟨by decide, Or.inl W_1_48⟩ dX0_act_40 (.int (tI (σ) (x0) 11)) rfl ?_
  refine zx_iconst (v := 1) C dX0_act_43 (by decide) ?_
  refine zx_iadd C dX0_act_44 ?_
  refine zx_put (j := 11) (ρ := sI (σ) (x0) 11 ((tI (σ) (x0) 11) + (1))) C tC_0 k5 i6 ⟨by decide, Or.inl W_1_48⟩ rfl rfl rfl (sI_ok (fun _ => rfl)) dX0_act_45 ?_
  obtain ⟨rfl, rfl⟩ := ret_e hm
  exact zx_vret C rfl rfl rfl dX0_act_48
set_option maxRecDepth 100000 in
set_option maxHeartbeats 1000000 in
theorem c_X0_act {l : Launch} {D : va_G} {aC : Nat → ClassId} {b0 fu : Nat} {a0 : Nat} {σ τ : tM} {v : (Unit) ⊕ Unit} (hm : m_X0_act b0 fu a0 σ = some (v, τ)) : tMt l D aC b0 yX0_act (Cond.code yX0_act cX0_act 1 none) 6 90 [.ref (a0)] σ (rxV "java/lang/IllegalStateException" v) τ := by
  unfold m_X0_act at hm
  obtain ⟨hg, hm⟩ := grw_e hm
  refine tMt_of (n := 0) rfl (Nat.le_of_ble_eq_true rfl) hg ?_
  intro p e s m below meth c C htab hin
  refine zx_lv [0] [(0, .ref (a0))] rfl ?_
  refine zx_aload_n C dX0_act_0 0 rfl ?_
  obtain ⟨k1, i2, hm⟩ := ckO_e hm
  refine zx_get (j := 13) C tC_0 k1 i2 ⟨by decide, Or.inl W_1_50⟩ dX0_act_1 (.int (tI (σ) (a0) 13)) rfl ?_
  refine zx_if_ne C 21 dX0_act_4 (by decide) (fun c3 => ?_) (fun c3 => ?_)
  · replace hm := in_e hm c3
    refine zx_aload_n C dX0_act_21 0 rfl ?_
    refine zx_get (j := 13) C tC_0 k1 i2 ⟨by decide, Or.inl W_1_50⟩ dX0_act_22 (.int (tI (σ) (a0) 13)) rfl ?_
    refine zx_if_le C 38 dX0_act_25 (by decide) (fun c4 => ?_) (fun c4 => ?_)
    · replace hm := ip_e hm c4
      exact zx_lv [0] [(0, .ref (a0))] rfl (j_X0_act_38 C htab hin    hm)
    · replace hm := in_e hm c4
      refine zx_aload_n C dX0_act_28 0 rfl ?_
      refine zx_dup C dX0_act_29 rfl ?_
      refine zx_get (j := 13) C tC_0 k1 i2 ⟨by decide, Or.inl W_1_50⟩ dX0_act_30 (.int (tI (σ) (a0) 13)) rfl ?_
      refine zx_iconst (v := 1) C dX0_act_33 (by decide) ?_
      refine zx_isub C dX0_act_34 ?_
      refine zx_put (j := 13) (ρ := sI (σ) (a0) 13 ((tI (σ) (a0) 13) - (1))) C tC_0 k1 i2 ⟨by decide, Or.inl W_1_50⟩ rfl rfl rfl (sI_ok (fun _ => rfl)) dX0_act_35 ?_
      exact zx_lv [0] [(0, .ref (a0))] rfl (j_X0_act_38 C htab hin    hm)
  · replace hm := ip_e hm c3
    refine zx_aload_n C dX0_act_7 0 rfl ?_
    obtain ⟨v7, ρ8, h9, hm⟩ := cll_e hm
    refine zx_callV (σ := σ) C [] tC_0 k1 i2 Y_X0_losePower W_3_203 W_3_204 W_3_205 (c_X0_losePower h9) (by decide) (by decide) rfl (Nat.le_of_ble_eq_true rfl) dX0_act_8 rfl ?_
    obtain ⟨rfl, rfl⟩ := ret_e hm
    exact zx_throw C htab (Or.inr ⟨rfl, rfl⟩) dX0_act_11 dX0_act_14 dX0_act_15 dX0_act_17 dX0_act_20 rfl rfl (by decide) (by decide) (Nat.le_of_ble_eq_true rfl)
abbrev cX0_giveBytes : ByteArray := prog_2_method_7_code
def yX0_giveBytes : MethodName := ⟨"SyncTree$Disk", "giveBytes", "([JI)V"⟩
theorem Y_X0_giveBytes : tY yX0_giveBytes cX0_giveBytes 4 none 2 := ⟨W_6_56, W_1_2, ⟨by decide +kernel, by decide +kernel⟩, by decide +kernel⟩
theorem dX0_giveBytes_0 : decode cX0_giveBytes 0 = .ok (.aload_n 0, 1) := by decide +kernel
theorem dX0_giveBytes_1 : decode cX0_giveBytes 1 = .ok (.getfield 56, 3) := by decide +kernel
theorem dX0_giveBytes_4 : decode cX0_giveBytes 4 = .ok (.iconst 1, 1) := by decide +kernel
theorem dX0_giveBytes_5 : decode cX0_giveBytes 5 = .ok (.if_icmp .lt 16, 3) := by decide +kernel
theorem dX0_giveBytes_8 : decode cX0_giveBytes 8 = .ok (.iload_n 2, 1) := by decide +kernel
theorem dX0_giveBytes_9 : decode cX0_giveBytes 9 = .ok (.ifCond .lt 12, 3) := by decide +kernel
theorem dX0_giveBytes_12 : decode cX0_giveBytes 12 = .ok (.iload_n 2, 1) := by decide +kernel
theorem dX0_giveBytes_13 : decode cX0_giveBytes 13 = .ok (.aload_n 1, 1) := by decide +kernel
theorem dX0_giveBytes_14 : decode cX0_giveBytes 14 = .ok (.arraylength, 1) := by decide +kernel
theorem dX0_giveBytes_15 : decode cX0_giveBytes 15 = .ok (.bipush 32, 2) := by decide +kernel
theorem dX0_giveBytes_17 : decode cX0_giveBytes 17 = .ok (.isub, 1) := by decide +kernel
theorem dX0_giveBytes_18 : decode cX0_giveBytes 18 = .ok (.if_icmp .le 4, 3) := by decide +kernel
theorem dX0_giveBytes_21 : decode cX0_giveBytes 21 = .ok (.return_, 1) := by decide +kernel
theorem dX0_giveBytes_22 : decode cX0_giveBytes 22 = .ok (.aload_n 0, 1) := by decide +kernel
theorem dX0_giveBytes_23 : decode cX0_giveBytes 23 = .ok (.getfield 53, 3) := by decide +kernel
theorem dX0_giveBytes_26 : decode cX0_giveBytes 26 = .ok (.aload_n 0, 1) := by decide +kernel
theorem dX0_giveBytes_27 : decode cX0_giveBytes 27 = .ok (.getfield 56, 3) := by decide +kernel
theorem dX0_giveBytes_30 : decode cX0_giveBytes 30 = .ok (.iadd, 1) := by decide +kernel
theorem dX0_giveBytes_31 : decode cX0_giveBytes 31 = .ok (.iconst 1, 1) := by decide +kernel
theorem dX0_giveBytes_32 : decode cX0_giveBytes 32 = .ok (.isub, 1) := by decide +kernel
theorem dX0_giveBytes_33 : decode cX0_giveBytes 33 = .ok (.sipush 256, 3) := by decide +kernel
theorem dX0_giveBytes_36 : decode cX0_giveBytes 36 = .ok (.irem, 1) := by decide +kernel
theorem dX0_giveBytes_37 : decode cX0_giveBytes 37 = .ok (.istore_n 3, 1) := by decide +kernel
theorem dX0_giveBytes_38 : decode cX0_giveBytes 38 = .ok (.aload_n 0, 1) := by decide +kernel
theorem dX0_giveBytes_39 : decode cX0_giveBytes 39 = .ok (.getfield 33, 3) := by decide +kernel
theorem dX0_giveBytes_42 : decode cX0_giveBytes 42 = .ok (.iload_n 3, 1) := by decide +kernel
theorem dX0_giveBytes_43 : decode cX0_giveBytes 43 = .ok (.aaload, 1) := by decide +kernel
theorem dX0_giveBytes_44 : decode cX0_giveBytes 44 = .ok (.ifnonnull 16, 3) := by decide +kernel
theorem dX0_giveBytes_47 : decode cX0_giveBytes 47 = .ok (.aload_n 0, 1) := by decide +kernel
theorem dX0_giveBytes_48 : decode cX0_giveBytes 48 = .ok (.getfield 33, 3) := by decide +kernel
theorem dX0_giveBytes_51 : decode cX0_giveBytes 51 = .ok (.iload_n 3, 1) := by decide +kernel
theorem dX0_giveBytes_52 : decode cX0_giveBytes 52 = .ok (.new 15, 3) := by decide +kernel
theorem dX0_giveBytes_55 : decode cX0_giveBytes 55 = .ok (.dup, 1) := by decide +kernel
theorem dX0_giveBytes_56 : decode cX0_giveBytes 56 = .ok (.invokespecial 90, 3) := by decide +kernel
theorem dX0_giveBytes_59 : decode cX0_giveBytes 59 = .ok (.aastore, 1) := by decide +kernel
theorem dX0_giveBytes_60 : decode cX0_giveBytes 60 = .ok (.aload_n 1, 1) := by decide +kernel
theorem dX0_giveBytes_61 : decode cX0_giveBytes 61 = .ok (.iload_n 2, 1) := by decide +kernel
theorem dX0_giveBytes_62 : decode cX0_giveBytes 62 = .ok (.aload_n 0, 1) := by decide +kernel
theorem dX0_giveBytes_63 : decode cX0_giveBytes 63 = .ok (.getfield 33, 3) := by decide +kernel
theorem dX0_giveBytes_66 : decode cX0_giveBytes 66 = .ok (.iload_n 3, 1) := by decide +kernel
theorem dX0_giveBytes_67 : decode cX0_giveBytes 67 = .ok (.aaload, 1) := by decide +kernel
theorem dX0_giveBytes_68 : decode cX0_giveBytes 68 = .ok (.getfield 91, 3) := by decide +kernel
theorem dX0_giveBytes_71 : decode cX0_giveBytes 71 = .ok (.iconst 0, 1) := by decide +kernel
theorem dX0_giveBytes_72 : decode cX0_giveBytes 72 = .ok (.bipush 32, 2) := by decide +kernel
theorem dX0_giveBytes_74 : decode cX0_giveBytes 74 = .ok (.invokestatic 95, 3) := by decide +kernel
theorem dX0_giveBytes_77 : decode cX0_giveBytes 77 = .ok (.aload_n 0, 1) := by decide +kernel
theorem dX0_giveBytes_78 : decode cX0_giveBytes 78 = .ok (.getfield 36, 3) := by decide +kernel
theorem dX0_giveBytes_81 : decode cX0_giveBytes 81 = .ok (.iload_n 3, 1) := by decide +kernel
theorem dX0_giveBytes_82 : decode cX0_giveBytes 82 = .ok (.iconst 1, 1) := by decide +kernel
theorem dX0_giveBytes_83 : decode cX0_giveBytes 83 = .ok (.bastore, 1) := by decide +kernel
theorem dX0_giveBytes_84 : decode cX0_giveBytes 84 = .ok (.return_, 1) := by decide +kernel
set_option maxRecDepth 100000 in
set_option maxHeartbeats 1000000 in
theorem j_X0_giveBytes_21 {p : Program} {l : Launch} {e : Env} {s : State} {m : MethodId} {args : Array Value} {below : List Frame} {meth : Method} {c : Code} {D : va_G} {aC : Nat → ClassId} {b0 fu : Nat} {σ0 τ : tM} {v : Unit}  (C : tCx p l s m args meth c yX0_giveBytes.cls cX0_giveBytes 4 none D aC b0 σ0) (htab : ∀ x ∈ c.exceptionTable.toList, False) (hin : meth.name = yX0_giveBytes.name)   {σ : tM} (hm : J_X0_giveBytes_21 b0 fu   σ = some (v, τ)) : tX p l e s m args below meth c 4 2 40 D aC b0 σ0 (.inl none) τ 21 [] [] σ := by
  unfold J_X0_giveBytes_21 at hm
  obtain ⟨rfl, rfl⟩ := ret_e hm
  exact zx_vret C rfl rfl rfl dX0_giveBytes_21
set_option maxRecDepth 100000 in
set_option maxHeartbeats 1000000 in
theorem j_X0_giveBytes_60 {p : Program} {l : Launch} {e : Env} {s : State} {m : MethodId} {args : Array Value} {below : List Frame} {meth : Method} {c : Code} {D : va_G} {aC : Nat → ClassId} {b0 fu : Nat} {σ0 τ : tM} {v : Unit}  (C : tCx p l s m args meth c yX0_giveBytes.cls cX0_giveBytes 4 none D aC b0 σ0) (htab : ∀ x ∈ c.exceptionTable.toList, False) (hin : meth.name = yX0_giveBytes.name)  {x0 : Nat} {x1 : Nat} {x2 : Int32} {x3 : Int32} {σ : tM} (hm : J_X0_giveBytes_60 b0 fu  x0 x1 x2 x3 σ = some (v, τ)) : tX p l e s m args below meth c 4 2 40 D aC b0 σ0 (.inl none) τ 60 [(0, .ref (x0)), (1, .ref (x1)), (2, .int (x2)), (3, .int (x3))] [] σ := by
  unfold J_X0_giveBytes_60 at hm
  refine zx_aload_n C dX0_giveBytes_60 1 rfl ?_
  refine zx_iload_n C dX0_giveBytes_61 2 rfl ?_
  refine zx_aload_n C dX0_giveBytes_62 0 rfl ?_
  obtain ⟨k18, i19, hm⟩ := ckO_e hm
  obtain ⟨a20, h21, hm⟩ := osm_e hm
  refine zx_get (j := 6) C tC_0 k18 i19 ⟨by decide, Or.inl W_1_42⟩ dX0_giveBytes_63 (.ref a20) (rf_s h21) ?_
  refine zx_iload_n C dX0_giveBytes_66 3 rfl ?_
  obtain ⟨n24, k22, i23, hm⟩ := ckR_e hm
  obtain ⟨h25, hm⟩ := ckI_e hm
  rcases omt_e hm with ⟨a26, h27, hm⟩ | ⟨h27, hm⟩
  · refine zx_aald C k22 i23 h25 dX0_giveBytes_67 (.ref a26) (rf_s h27) ?_
    obtain ⟨k28, i29, hm⟩ := ckO_e hm
    obtain ⟨a30, h31, hm⟩ := osm_e hm
    refine zx_get (j := 0) C tC_4 k28 i29 ⟨by decide, Or.inr ⟨_, W_2_190⟩⟩ dX0_giveBytes_68 (.ref a30) (rf_s h31) ?_
    refine zx_iconst (v := 0) C dX0_giveBytes_71 (by decide) ?_
    refine zx_bipush (v := 32) C dX0_giveBytes_72 (by decide) ?_
    obtain ⟨n34, k32, i33, hm⟩ := ckR_e hm
    obtain ⟨n37, k35, i36, hm⟩ := ckR_e hm
    obtain ⟨h38, hm⟩ := ckC_e hm
    refine zx_copyJ (σ := σ) C W_6_58 W_2_135 W_2_134 W_1_11 k32 i33 k35 i36 h38  (by decide) (by decide) (Nat.le_of_ble_eq_true rfl) dX0_giveBytes_74 ?_
    refine zx_aload_n C dX0_giveBytes_77 0 rfl ?_
    obtain ⟨a40, h41, hm⟩ := osm_e hm
    refine zx_get (j := 7) C tC_0 k18 i19 ⟨by decide, Or.inl W_1_43⟩ dX0_giveBytes_78 (.ref a40) (rf_s h41) ?_
    refine zx_iload_n C dX0_giveBytes_81 3 rfl ?_
    refine zx_iconst (v := 1) C dX0_giveBytes_82 (by decide) ?_
    obtain ⟨n44, k42, i43, hm⟩ := ckR_e hm
    obtain ⟨h45, hm⟩ := ckI_e hm
    refine zx_zast C k42 i43 h45 dX0_giveBytes_83 ?_
    obtain ⟨rfl, rfl⟩ := ret_e hm
    exact zx_vret C rfl rfl rfl dX0_giveBytes_84
  · refine zx_aald C k22 i23 h25 dX0_giveBytes_67 .null (rf_n h27) ?_
    cases hm
set_option maxRecDepth 100000 in
set_option maxHeartbeats 1000000 in
theorem c_X0_giveBytes {l : Launch} {D : va_G} {aC : Nat → ClassId} {b0 fu : Nat} {a0 : Nat} {p0 : Nat} {p1 : Int32} {σ τ : tM} {v : Unit} (hm : m_X0_giveBytes b0 fu a0 p0 p1 σ = some (v, τ)) : tMt l D aC b0 yX0_giveBytes (Cond.code yX0_giveBytes cX0_giveBytes 4 none) 2 40 [.ref (a0), .ref (p0), .int (p1)] σ (.inl none) τ := by
  unfold m_X0_giveBytes at hm
  obtain ⟨hg, hm⟩ := grw_e hm
  refine tMt_of (n := 0) rfl (Nat.le_of_ble_eq_true rfl) hg ?_
  intro p e s m below meth c C htab hin
  refine zx_lv [0, 1, 2] [(0, .ref (a0)), (1, .ref (p0)), (2, .int (p1))] rfl ?_
  refine zx_aload_n C dX0_giveBytes_0 0 rfl ?_
  obtain ⟨k1, i2, hm⟩ := ckO_e hm
  refine zx_get (j := 10) C tC_0 k1 i2 ⟨by decide, Or.inl W_1_46⟩ dX0_giveBytes_1 (.int (tI (σ) (a0) 10)) rfl ?_
  refine zx_iconst (v := 1) C dX0_giveBytes_4 (by decide) ?_
  refine zx_icmp_lt C 21 dX0_giveBytes_5 (by decide) (fun c3 => ?_) (fun c3 => ?_)
  · replace hm := ip_e hm c3
    exact zx_lv [] [] rfl (j_X0_giveBytes_21 C htab hin    hm)
  · replace hm := in_e hm c3
    refine zx_iload_n C dX0_giveBytes_8 2 rfl ?_
    refine zx_if_lt C 21 dX0_giveBytes_9 (by decide) (fun c4 => ?_) (fun c4 => ?_)
    · replace hm := ip_e hm c4
      exact zx_lv [] [] rfl (j_X0_giveBytes_21 C htab hin    hm)
    · replace hm := in_e hm c4
      refine zx_iload_n C dX0_giveBytes_12 2 rfl ?_
      refine zx_aload_n C dX0_giveBytes_13 1 rfl ?_
      obtain ⟨n7, k5, i6, hm⟩ := ckR_e hm
      refine zx_alen C k5 (by decide) i6 dX0_giveBytes_14 ?_
      refine zx_bipush (v := 32) C dX0_giveBytes_15 (by decide) ?_
      refine zx_isub C dX0_giveBytes_17 ?_
      refine zx_icmp_le C 22 dX0_giveBytes_18 (by decide) (fun c8 => ?_) (fun c8 => ?_)
      · replace hm := ip_e hm c8
        refine zx_aload_n C dX0_giveBytes_22 0 rfl ?_
        refine zx_get (j := 9) C tC_0 k1 i2 ⟨by decide, Or.inl W_1_45⟩ dX0_giveBytes_23 (.int (tI (σ) (a0) 9)) rfl ?_
        refine zx_aload_n C dX0_giveBytes_26 0 rfl ?_
        refine zx_get (j := 10) C tC_0 k1 i2 ⟨by decide, Or.inl W_1_46⟩ dX0_giveBytes_27 (.int (tI (σ) (a0) 10)) rfl ?_
        refine zx_iadd C dX0_giveBytes_30 ?_
        refine zx_iconst (v := 1) C dX0_giveBytes_31 (by decide) ?_
        refine zx_isub C dX0_giveBytes_32 ?_
        refine zx_sipush (v := 256) C dX0_giveBytes_33 (by decide) ?_
        refine zx_irem C dX0_giveBytes_36 (by decide) ?_
        refine zx_topi (fun y9 hy9 => ?_)
        replace hm := ltb_e hm hy9
        refine zx_istore_n C [(3, .int (y9)), (0, .ref (a0)), (1, .ref (p0)), (2, .int (p1))] dX0_giveBytes_37 rfl (by decide) rfl ?_
        refine zx_aload_n C dX0_giveBytes_38 1 rfl ?_
        obtain ⟨a10, h11, hm⟩ := osm_e hm
        refine zx_get (j := 6) C tC_0 k1 i2 ⟨by decide, Or.inl W_1_42⟩ dX0_giveBytes_39 (.ref a10) (rf_s h11) ?_
        refine zx_iload_n C dX0_giveBytes_42 0 rfl ?_
        obtain ⟨n14, k12, i13, hm⟩ := ckR_e hm
        obtain ⟨h15, hm⟩ := ckI_e hm
        rcases omt_e hm with ⟨a16, h17, hm⟩ | ⟨h17, hm⟩
        · refine zx_aald C k12 i13 h15 dX0_giveBytes_43 (.ref a16) (rf_s h17) ?_
          refine zx_ifnonnull C 60 dX0_giveBytes_44 (by decide) ?_
          exact zx_lv [1, 2, 3, 0] [(0, .ref (a0)), (1, .ref (p0)), (2, .int (p1)), (3, .int (y9))] rfl (j_X0_giveBytes_60 C htab hin    hm)
        · refine zx_aald C k12 i13 h15 dX0_giveBytes_43 .null (rf_n h17) ?_
          refine zx_ifnonnullN C dX0_giveBytes_44 ?_
          refine zx_aload_n C dX0_giveBytes_47 1 rfl ?_
          obtain ⟨a46, h47, hm⟩ := osm_e hm
          refine zx_get (j := 6) C tC_0 k1 i2 ⟨by decide, Or.inl W_1_42⟩ dX0_giveBytes_48 (.ref a46) (rf_s h47) ?_
          refine zx_iload_n C dX0_giveBytes_51 0 rfl ?_
          refine zx_new C tC_4 W_1_34 W_2_184 W_1_13 dX0_giveBytes_52 ?_
          refine zx_mem (fun ρ48 hρ48 => ?_)
          replace hm := ltb_e hm hρ48
          have k49 : tk ρ48 (b0 + tn σ) = .inl 4 := by rw [hρ48]; exact sN_k _ _ _ _
          have i50 : tIn b0 ρ48 (b0 + tn σ) := by rw [hρ48]; exact sN_i _ _ _ _
          refine zx_dup C dX0_giveBytes_55 rfl ?_
          obtain ⟨v51, ρ52, h53, hm⟩ := cll_e hm
          refine zx_callIN (σ := ρ48) C [] Y_X4_init W_6_57 W_2_186 rfl (c_X4_init h53) (by decide) (by decide) rfl (Nat.le_of_ble_eq_true rfl) dX0_giveBytes_56 rfl ?_
          obtain ⟨n56, k54, i55, hm⟩ := ckR_e hm
          obtain ⟨h57, hm⟩ := ckI_e hm
          obtain ⟨k58, i59, hm⟩ := ckO_e hm
          refine zx_ast C k54 i55 k58 i59 h57 dX0_giveBytes_59 ?_
          exact zx_lv [1, 2, 3, 0] [(0, .ref (a0)), (1, .ref (p0)), (2, .int (p1)), (3, .int (y9))] rfl (j_X0_giveBytes_60 C htab hin    hm)
      · replace hm := in_e hm c8
        exact zx_lv [] [] rfl (j_X0_giveBytes_21 C htab hin    hm)
abbrev cX0_keepOldest : ByteArray := prog_2_method_9_code
def yX0_keepOldest : MethodName := ⟨"SyncTree$Disk", "keepOldest", "()V"⟩
theorem Y_X0_keepOldest : tY yX0_keepOldest cX0_keepOldest 1 none 0 := ⟨W_3_211, W_1_2, ⟨by decide +kernel, by decide +kernel⟩, by decide +kernel⟩
theorem dX0_keepOldest_0 : decode cX0_keepOldest 0 = .ok (.aload_n 0, 1) := by decide +kernel
theorem dX0_keepOldest_1 : decode cX0_keepOldest 1 = .ok (.aload_n 0, 1) := by decide +kernel
theorem dX0_keepOldest_2 : decode cX0_keepOldest 2 = .ok (.getfield 53, 3) := by decide +kernel
theorem dX0_keepOldest_5 : decode cX0_keepOldest 5 = .ok (.invokevirtual 101, 3) := by decide +kernel
theorem dX0_keepOldest_8 : decode cX0_keepOldest 8 = .ok (.aload_n 0, 1) := by decide +kernel
theorem dX0_keepOldest_9 : decode cX0_keepOldest 9 = .ok (.getfield 21, 3) := by decide +kernel
theorem dX0_keepOldest_12 : decode cX0_keepOldest 12 = .ok (.aload_n 0, 1) := by decide +kernel
theorem dX0_keepOldest_13 : decode cX0_keepOldest 13 = .ok (.getfield 27, 3) := by decide +kernel
theorem dX0_keepOldest_16 : decode cX0_keepOldest 16 = .ok (.aload_n 0, 1) := by decide +kernel
theorem dX0_keepOldest_17 : decode cX0_keepOldest 17 = .ok (.getfield 53, 3) := by decide +kernel
theorem dX0_keepOldest_20 : decode cX0_keepOldest 20 = .ok (.iaload, 1) := by decide +kernel
theorem dX0_keepOldest_21 : decode cX0_keepOldest 21 = .ok (.dup2, 1) := by decide +kernel
theorem dX0_keepOldest_22 : decode cX0_keepOldest 22 = .ok (.iaload, 1) := by decide +kernel
theorem dX0_keepOldest_23 : decode cX0_keepOldest 23 = .ok (.iconst 1, 1) := by decide +kernel
theorem dX0_keepOldest_24 : decode cX0_keepOldest 24 = .ok (.isub, 1) := by decide +kernel
theorem dX0_keepOldest_25 : decode cX0_keepOldest 25 = .ok (.iastore, 1) := by decide +kernel
theorem dX0_keepOldest_26 : decode cX0_keepOldest 26 = .ok (.aload_n 0, 1) := by decide +kernel
theorem dX0_keepOldest_27 : decode cX0_keepOldest 27 = .ok (.aload_n 0, 1) := by decide +kernel
theorem dX0_keepOldest_28 : decode cX0_keepOldest 28 = .ok (.getfield 53, 3) := by decide +kernel
theorem dX0_keepOldest_31 : decode cX0_keepOldest 31 = .ok (.iconst 1, 1) := by decide +kernel
theorem dX0_keepOldest_32 : decode cX0_keepOldest 32 = .ok (.iadd, 1) := by decide +kernel
theorem dX0_keepOldest_33 : decode cX0_keepOldest 33 = .ok (.sipush 256, 3) := by decide +kernel
theorem dX0_keepOldest_36 : decode cX0_keepOldest 36 = .ok (.irem, 1) := by decide +kernel
theorem dX0_keepOldest_37 : decode cX0_keepOldest 37 = .ok (.putfield 53, 3) := by decide +kernel
theorem dX0_keepOldest_40 : decode cX0_keepOldest 40 = .ok (.aload_n 0, 1) := by decide +kernel
theorem dX0_keepOldest_41 : decode cX0_keepOldest 41 = .ok (.dup, 1) := by decide +kernel
theorem dX0_keepOldest_42 : decode cX0_keepOldest 42 = .ok (.getfield 56, 3) := by decide +kernel
theorem dX0_keepOldest_45 : decode cX0_keepOldest 45 = .ok (.iconst 1, 1) := by decide +kernel
theorem dX0_keepOldest_46 : decode cX0_keepOldest 46 = .ok (.isub, 1) := by decide +kernel
theorem dX0_keepOldest_47 : decode cX0_keepOldest 47 = .ok (.putfield 56, 3) := by decide +kernel
theorem dX0_keepOldest_50 : decode cX0_keepOldest 50 = .ok (.return_, 1) := by decide +kernel
set_option maxRecDepth 100000 in
set_option maxHeartbeats 1000000 in
theorem c_X0_keepOldest {l : Launch} {D : va_G} {aC : Nat → ClassId} {b0 fu : Nat} {a0 : Nat} {σ τ : tM} {v : Unit} (hm : m_X0_keepOldest b0 fu a0 σ = some (v, τ)) : tMt l D aC b0 yX0_keepOldest (Cond.code yX0_keepOldest cX0_keepOldest 1 none) 1 23 [.ref (a0)] σ (.inl none) τ := by
  unfold m_X0_keepOldest at hm
  obtain ⟨hg, hm⟩ := grw_e hm
  refine tMt_of (n := 0) rfl (Nat.le_of_ble_eq_true rfl) hg ?_
  intro p e s m below meth c C htab hin
  refine zx_lv [0] [(0, .ref (a0))] rfl ?_
  refine zx_aload_n C dX0_keepOldest_0 0 rfl ?_
  refine zx_aload_n C dX0_keepOldest_1 0 rfl ?_
  obtain ⟨k1, i2, hm⟩ := ckO_e hm
  refine zx_get (j := 9) C tC_0 k1 i2 ⟨by decide, Or.inl W_1_45⟩ dX0_keepOldest_2 (.int (tI (σ) (a0) 9)) rfl ?_
  obtain ⟨v3, ρ4, h5, hm⟩ := cll_e hm
  refine zx_callV (σ := σ) C [.int (tI (σ) (a0) 9)] tC_0 k1 i2 Y_X0_keep W_3_212 W_3_214 Wp_14 (c_X0_keep h5) (by decide) (by decide) rfl (Nat.le_of_ble_eq_true rfl) dX0_keepOldest_5 rfl ?_
  refine zx_aload_n C dX0_keepOldest_8 0 rfl ?_
  obtain ⟨k6, i7, hm⟩ := ckO_e hm
  obtain ⟨a8, h9, hm⟩ := osm_e hm
  refine zx_get (j := 2) C tC_0 k6 i7 ⟨by decide, Or.inl W_1_38⟩ dX0_keepOldest_9 (.ref a8) (rf_s h9) ?_
  refine zx_aload_n C dX0_keepOldest_12 0 rfl ?_
  obtain ⟨a10, h11, hm⟩ := osm_e hm
  refine zx_get (j := 4) C tC_0 k6 i7 ⟨by decide, Or.inl W_1_40⟩ dX0_keepOldest_13 (.ref a10) (rf_s h11) ?_
  refine zx_aload_n C dX0_keepOldest_16 0 rfl ?_
  refine zx_get (j := 9) C tC_0 k6 i7 ⟨by decide, Or.inl W_1_45⟩ dX0_keepOldest_17 (.int (tI (ρ4) (a0) 9)) rfl ?_
  obtain ⟨n14, k12, i13, hm⟩ := ckR_e hm
  obtain ⟨h15, hm⟩ := ckI_e hm
  refine zx_iald C k12 i13 h15 dX0_keepOldest_20 ?_
  refine zx_dup2_11 C dX0_keepOldest_21 rfl rfl ?_
  obtain ⟨n18, k16, i17, hm⟩ := ckR_e hm
  obtain ⟨h19, hm⟩ := ckI_e hm
  refine zx_iald C k16 i17 h19 dX0_keepOldest_22 ?_
  refine zx_iconst (v := 1) C dX0_keepOldest_23 (by decide) ?_
  refine zx_isub C dX0_keepOldest_24 ?_
  obtain ⟨h20, hm⟩ := ckI_e hm
  refine zx_iast C k16 i17 h20 dX0_keepOldest_25 ?_
  refine zx_aload_n C dX0_keepOldest_26 0 rfl ?_
  refine zx_aload_n C dX0_keepOldest_27 0 rfl ?_
  refine zx_get (j := 9) C tC_0 k6 i7 ⟨by decide, Or.inl W_1_45⟩ dX0_keepOldest_28 (.int (tI (sI (ρ4) (a8) ((tI (ρ4) (a10) ((tI (ρ4) (a0) 9).toNatClampNeg)).toNatClampNeg) ((tI (ρ4) (a8) ((tI (ρ4) (a10) ((tI (ρ4) (a0) 9).toNatClampNeg)).toNatClampNeg)) - (1))) (a0) 9)) rfl ?_
  refine zx_iconst (v := 1) C dX0_keepOldest_31 (by decide) ?_
  refine zx_iadd C dX0_keepOldest_32 ?_
  refine zx_sipush (v := 256) C dX0_keepOldest_33 (by decide) ?_
  refine zx_irem C dX0_keepOldest_36 (by decide) ?_
  refine zx_put (j := 9) (ρ := sI (sI (ρ4) (a8) ((tI (ρ4) (a10) ((tI (ρ4) (a0) 9).toNatClampNeg)).toNatClampNeg) ((tI (ρ4) (a8) ((tI (ρ4) (a10) ((tI (ρ4) (a0) 9).toNatClampNeg)).toNatClampNeg)) - (1))) (a0) 9 (((tI (sI (ρ4) (a8) ((tI (ρ4) (a10) ((tI (ρ4) (a0) 9).toNatClampNeg)).toNatClampNeg) ((tI (ρ4) (a8) ((tI (ρ4) (a10) ((tI (ρ4) (a0) 9).toNatClampNeg)).toNatClampNeg)) - (1))) (a0) 9) + (1)) - ((tI (sI (ρ4) (a8) ((tI (ρ4) (a10) ((tI (ρ4) (a0) 9).toNatClampNeg)).toNatClampNeg) ((tI (ρ4) (a8) ((tI (ρ4) (a10) ((tI (ρ4) (a0) 9).toNatClampNeg)).toNatClampNeg)) - (1))) (a0) 9) + (1)) / (256) * (256))) C tC_0 k6 i7 ⟨by decide, Or.inl W_1_45⟩ rfl rfl rfl (sI_ok (fun _ => rfl)) dX0_keepOldest_37 ?_
  refine zx_mem (fun ρ21 hρ21 => ?_)
  replace hm := ltb_e hm hρ21
  have k22 : tk ρ21 (a0) = .inl 0 := by rw [hρ21]; exact k6
  have i23 : tIn b0 ρ21 (a0) := by rw [hρ21]; exact i7
  have k24 : tk ρ21 (a10) = .inr (0, n14) := by rw [hρ21]; exact k12
  have i25 : tIn b0 ρ21 (a10) := by rw [hρ21]; exact i13
  have k26 : tk ρ21 (a8) = .inr (0, n18) := by rw [hρ21]; exact k16
  have i27 : tIn b0 ρ21 (a8) := by rw [hρ21]; exact i17
  refine zx_aload_n C dX0_keepOldest_40 0 rfl ?_
  refine zx_dup C dX0_keepOldest_41 rfl ?_
  refine zx_get (j := 10) C tC_0 k22 i23 ⟨by decide, Or.inl W_1_46⟩ dX0_keepOldest_42 (.int (tI (ρ21) (a0) 10)) rfl ?_
  refine zx_iconst (v := 1) C dX0_keepOldest_45 (by decide) ?_
  refine zx_isub C dX0_keepOldest_46 ?_
  refine zx_put (j := 10) (ρ := sI (ρ21) (a0) 10 ((tI (ρ21) (a0) 10) - (1))) C tC_0 k22 i23 ⟨by decide, Or.inl W_1_46⟩ rfl rfl rfl (sI_ok (fun _ => rfl)) dX0_keepOldest_47 ?_
  obtain ⟨rfl, rfl⟩ := ret_e hm
  exact zx_vret C rfl rfl rfl dX0_keepOldest_50
abbrev cX1_forget : ByteArray := prog_3_method_2_code
def yX1_forget : MethodName := ⟨"SyncTree$Journal", "forget", "()V"⟩
theorem Y_X1_forget : tY yX1_forget cX1_forget 2 none 0 := ⟨W_2_88, W_1_5, ⟨by decide +kernel, by decide +kernel⟩, by decide +kernel⟩
theorem dX1_forget_0 : decode cX1_forget 0 = .ok (.aload_n 0, 1) := by decide +kernel
theorem dX1_forget_1 : decode cX1_forget 1 = .ok (.invokevirtual 33, 3) := by decide +kernel
theorem dX1_forget_4 : decode cX1_forget 4 = .ok (.iconst 0, 1) := by decide +kernel
theorem dX1_forget_5 : decode cX1_forget 5 = .ok (.istore_n 1, 1) := by decide +kernel
theorem dX1_forget_6 : decode cX1_forget 6 = .ok (.iload_n 1, 1) := by decide +kernel
theorem dX1_forget_7 : decode cX1_forget 7 = .ok (.aload_n 0, 1) := by decide +kernel
theorem dX1_forget_8 : decode cX1_forget 8 = .ok (.getfield 25, 3) := by decide +kernel
theorem dX1_forget_11 : decode cX1_forget 11 = .ok (.getfield 36, 3) := by decide +kernel
theorem dX1_forget_14 : decode cX1_forget 14 = .ok (.if_icmp .ge 15, 3) := by decide +kernel
theorem dX1_forget_17 : decode cX1_forget 17 = .ok (.aload_n 0, 1) := by decide +kernel
theorem dX1_forget_18 : decode cX1_forget 18 = .ok (.iload_n 1, 1) := by decide +kernel
theorem dX1_forget_19 : decode cX1_forget 19 = .ok (.aconst_null, 1) := by decide +kernel
theorem dX1_forget_20 : decode cX1_forget 20 = .ok (.invokevirtual 42, 3) := by decide +kernel
theorem dX1_forget_23 : decode cX1_forget 23 = .ok (.iinc 1 1, 3) := by decide +kernel
theorem dX1_forget_26 : decode cX1_forget 26 = .ok (.goto (-20), 3) := by decide +kernel
theorem dX1_forget_29 : decode cX1_forget 29 = .ok (.return_, 1) := by decide +kernel
set_option maxRecDepth 100000 in
set_option maxHeartbeats 1000000 in
theorem l_X1_forget_6 {p : Program} {l : Launch} {e : Env} {s : State} {m : MethodId} {args : Array Value} {below : List Frame} {meth : Method} {c : Code} {D : va_G} {aC : Nat → ClassId} {b0 fu : Nat} {σ0 τ : tM} {v : Unit}  (C : tCx p l s m args meth c yX1_forget.cls cX1_forget 2 none D aC b0 σ0) (htab : ∀ x ∈ c.exceptionTable.toList, False) (hin : meth.name = yX1_forget.name)  : ∀ (n : Nat) (x0 : Nat) (x1 : Int32) (σ : tM), L_X1_forget_6 b0 fu  n x0 x1 σ = some (v, τ) → tX p l e s m args below meth c 2 2 43 D aC b0 σ0 (.inl none) τ 6 [(0, .ref (x0)), (1, .int (x1))] [] σ := by
  intro n
  induction n with
  | zero => intro x0 x1 σ hm; unfold L_X1_forget_6 at hm; cases hm
  | succ n ih =>
    intro x0 x1 σ hm
    unfold L_X1_forget_6 at hm
    obtain ⟨rc6, hrc⟩ : ∃ z, z = L_X1_forget_6 b0 fu  n := ⟨_, rfl⟩
    replace hm := ltb_e hm hrc
    rw [← hrc] at ih
    have hrc6 := ih
    clear ih hrc
    refine zx_iload_n C dX1_forget_6 1 rfl ?_
    refine zx_aload_n C dX1_forget_7 0 rfl ?_
    obtain ⟨k6, i7, hm⟩ := ckO_e hm
    obtain ⟨a8, h9, hm⟩ := osm_e hm
    refine zx_get (j := 1) C tC_1 k6 i7 ⟨by decide, Or.inl W_1_181⟩ dX1_forget_8 (.ref a8) (rf_s h9) ?_
    obtain ⟨k10, i11, hm⟩ := ckO_e hm
    refine zx_get (j := 7) C tC_5 k10 i11 ⟨by decide, Or.inr ⟨_, W_1_103⟩⟩ dX1_forget_11 (.int (tI (σ) (a8) 7)) rfl ?_
    refine zx_icmp_ge C 29 dX1_forget_14 (by decide) (fun c12 => ?_) (fun c12 => ?_)
    · replace hm := ip_e hm c12
      obtain ⟨rfl, rfl⟩ := ret_e hm
      exact zx_vret C rfl rfl rfl dX1_forget_29
    · replace hm := in_e hm c12
      refine zx_aload_n C dX1_forget_17 0 rfl ?_
      refine zx_iload_n C dX1_forget_18 1 rfl ?_
      refine zx_null C dX1_forget_19 ?_
      obtain ⟨v13, ρ14, h15, hm⟩ := cll_e hm
      refine zx_callV (σ := σ) C [.int (x1), va_rf (none)] tC_1 k6 i7 Y_X1_setBase W_2_97 W_2_99 Wp_3 (c_X1_setBase h15) (by decide) (by decide) rfl (Nat.le_of_ble_eq_true rfl) dX1_forget_20 rfl ?_
      obtain ⟨y16, hy16⟩ : ∃ z : Int32, z = (x1) + Int32.ofInt 1 := ⟨_, rfl⟩
      replace hm := ltb_e hm hy16
      refine zx_iinc C [(1, .int (y16)), (0, .ref (x0))] dX1_forget_23 1 rfl hy16.symm (by decide) rfl ?_
      refine zx_goto C 6 dX1_forget_26 (by decide) ?_
      exact zx_lv [1, 0] [(0, .ref (x0)), (1, .int (y16))] rfl (hrc6 _ _ _ hm)
set_option maxRecDepth 100000 in
set_option maxHeartbeats 1000000 in
theorem c_X1_forget {l : Launch} {D : va_G} {aC : Nat → ClassId} {b0 fu : Nat} {a0 : Nat} {σ τ : tM} {v : Unit} (hm : m_X1_forget b0 fu a0 σ = some (v, τ)) : tMt l D aC b0 yX1_forget (Cond.code yX1_forget cX1_forget 2 none) 2 43 [.ref (a0)] σ (.inl none) τ := by
  unfold m_X1_forget at hm
  obtain ⟨hg, hm⟩ := grw_e hm
  refine tMt_of (n := 0) rfl (Nat.le_of_ble_eq_true rfl) hg ?_
  intro p e s m below meth c C htab hin
  refine zx_lv [0] [(0, .ref (a0))] rfl ?_
  refine zx_aload_n C dX1_forget_0 0 rfl ?_
  obtain ⟨k1, i2, hm⟩ := ckO_e hm
  obtain ⟨v3, ρ4, h5, hm⟩ := cll_e hm
  refine zx_callV (σ := σ) C [] tC_1 k1 i2 Y_X1_dropAll W_2_89 W_2_91 Wp_1 (c_X1_dropAll h5) (by decide) (by decide) rfl (Nat.le_of_ble_eq_true rfl) dX1_forget_1 rfl ?_
  refine zx_iconst (v := 0) C dX1_forget_4 (by decide) ?_
  refine zx_istore_n C [(1, .int (0)), (0, .ref (a0))] dX1_forget_5 rfl (by decide) rfl ?_
  exact zx_lv [1, 0] [(0, .ref (a0)), (1, .int (0))] rfl (l_X1_forget_6 C htab hin  _ _ _ _ hm)
abbrev cX1_takeRow : ByteArray := prog_3_method_5_code
def yX1_takeRow : MethodName := ⟨"SyncTree$Journal", "takeRow", "()LSyncTree$Row;"⟩
theorem Y_X1_takeRow : tY yX1_takeRow cX1_takeRow 2 (some (.object "SyncTree$Row")) 0 := ⟨W_2_183, W_1_5, ⟨by decide +kernel, by decide +kernel⟩, by decide +kernel⟩
theorem dX1_takeRow_0 : decode cX1_takeRow 0 = .ok (.aload_n 0, 1) := by decide +kernel
theorem dX1_takeRow_1 : decode cX1_takeRow 1 = .ok (.getfield 95, 3) := by decide +kernel
theorem dX1_takeRow_4 : decode cX1_takeRow 4 = .ok (.astore_n 1, 1) := by decide +kernel
theorem dX1_takeRow_5 : decode cX1_takeRow 5 = .ok (.aload_n 1, 1) := by decide +kernel
theorem dX1_takeRow_6 : decode cX1_takeRow 6 = .ok (.ifnonnull 11, 3) := by decide +kernel
theorem dX1_takeRow_9 : decode cX1_takeRow 9 = .ok (.new 9, 3) := by decide +kernel
theorem dX1_takeRow_12 : decode cX1_takeRow 12 = .ok (.dup, 1) := by decide +kernel
theorem dX1_takeRow_13 : decode cX1_takeRow 13 = .ok (.invokespecial 99, 3) := by decide +kernel
theorem dX1_takeRow_16 : decode cX1_takeRow 16 = .ok (.areturn, 1) := by decide +kernel
theorem dX1_takeRow_17 : decode cX1_takeRow 17 = .ok (.aload_n 0, 1) := by decide +kernel
theorem dX1_takeRow_18 : decode cX1_takeRow 18 = .ok (.aload_n 1, 1) := by decide +kernel
theorem dX1_takeRow_19 : decode cX1_takeRow 19 = .ok (.getfield 100, 3) := by decide +kernel
theorem dX1_takeRow_22 : decode cX1_takeRow 22 = .ok (.putfield 95, 3) := by decide +kernel
theorem dX1_takeRow_25 : decode cX1_takeRow 25 = .ok (.aload_n 1, 1) := by decide +kernel
theorem dX1_takeRow_26 : decode cX1_takeRow 26 = .ok (.aconst_null, 1) := by decide +kernel
theorem dX1_takeRow_27 : decode cX1_takeRow 27 = .ok (.putfield 100, 3) := by decide +kernel
theorem dX1_takeRow_30 : decode cX1_takeRow 30 = .ok (.aload_n 1, 1) := by decide +kernel
theorem dX1_takeRow_31 : decode cX1_takeRow 31 = .ok (.areturn, 1) := by decide +kernel
set_option maxRecDepth 100000 in
set_option maxHeartbeats 1000000 in
theorem c_X1_takeRow {l : Launch} {D : va_G} {aC : Nat → ClassId} {b0 fu : Nat} {a0 : Nat} {σ τ : tM} {v : Option Nat} (hm : m_X1_takeRow b0 fu a0 σ = some (v, τ)) : tMt l D aC b0 yX1_takeRow (Cond.code yX1_takeRow cX1_takeRow 2 (some (.object "SyncTree$Row"))) 2 40 [.ref (a0)] σ (.inl (some (va_rf v))) τ := by
  unfold m_X1_takeRow at hm
  obtain ⟨hg, hm⟩ := grw_e hm
  refine tMt_of (n := 0) rfl (Nat.le_of_ble_eq_true rfl) hg ?_
  intro p e s m below meth c C htab hin
  refine zx_lv [0] [(0, .ref (a0))] rfl ?_
  refine zx_aload_n C dX1_takeRow_0 0 rfl ?_
  obtain ⟨k1, i2, hm⟩ := ckO_e hm
  rcases omt_e hm with ⟨a3, h4, hm⟩ | ⟨h4, hm⟩
  · refine zx_get (j := 7) C tC_1 k1 i2 ⟨by decide, Or.inl W_1_187⟩ dX1_takeRow_1 (.ref a3) (rf_s h4) ?_
    refine zx_astore_n C [(1, .ref (a3)), (0, .ref (a0))] dX1_takeRow_4 rfl (by decide) rfl ?_
    refine zx_aload_n C dX1_takeRow_5 0 rfl ?_
    refine zx_ifnonnull C 17 dX1_takeRow_6 (by decide) ?_
    refine zx_aload_n C dX1_takeRow_17 1 rfl ?_
    refine zx_aload_n C dX1_takeRow_18 0 rfl ?_
    obtain ⟨k5, i6, hm⟩ := ckO_e hm
    rcases omt_e hm with ⟨a7, h8, hm⟩ | ⟨h8, hm⟩
    · refine zx_get (j := 1) C tC_4 k5 i6 ⟨by decide, Or.inr ⟨_, W_2_192⟩⟩ dX1_takeRow_19 (.ref a7) (rf_s h8) ?_
      refine zx_put (j := 7) (ρ := sA (σ) (a0) 7 (some (a7))) C tC_1 k1 i2 ⟨by decide, Or.inl W_1_187⟩ rfl rfl rfl (sA_ok (fun _ => rfl)) dX1_takeRow_22 ?_
      refine zx_aload_n C dX1_takeRow_25 0 rfl ?_
      refine zx_null C dX1_takeRow_26 ?_
      refine zx_put (j := 1) (ρ := sA (sA (σ) (a0) 7 (some (a7))) (a3) 1 (none)) C tC_4 k5 i6 ⟨by decide, Or.inr ⟨_, W_2_192⟩⟩ rfl rfl rfl (sA_ok (fun _ => rfl)) dX1_takeRow_27 ?_
      refine zx_aload_n C dX1_takeRow_30 0 rfl ?_
      obtain ⟨rfl, rfl⟩ := ret_e hm
      exact zx_aret (x := some (a3)) C rfl (Or.inl ⟨_, rfl⟩) rfl rfl dX1_takeRow_31
    · refine zx_get (j := 1) C tC_4 k5 i6 ⟨by decide, Or.inr ⟨_, W_2_192⟩⟩ dX1_takeRow_19 .null (rf_n h8) ?_
      refine zx_put (j := 7) (ρ := sA (σ) (a0) 7 (none)) C tC_1 k1 i2 ⟨by decide, Or.inl W_1_187⟩ rfl rfl rfl (sA_ok (fun _ => rfl)) dX1_takeRow_22 ?_
      refine zx_aload_n C dX1_takeRow_25 0 rfl ?_
      refine zx_null C dX1_takeRow_26 ?_
      refine zx_put (j := 1) (ρ := sA (sA (σ) (a0) 7 (none)) (a3) 1 (none)) C tC_4 k5 i6 ⟨by decide, Or.inr ⟨_, W_2_192⟩⟩ rfl rfl rfl (sA_ok (fun _ => rfl)) dX1_takeRow_27 ?_
      refine zx_aload_n C dX1_takeRow_30 0 rfl ?_
      obtain ⟨rfl, rfl⟩ := ret_e hm
      exact zx_aret (x := some (a3)) C rfl (Or.inl ⟨_, rfl⟩) rfl rfl dX1_takeRow_31
  · refine zx_get (j := 7) C tC_1 k1 i2 ⟨by decide, Or.inl W_1_187⟩ dX1_takeRow_1 .null (rf_n h4) ?_
    refine zx_astore_nN C [(1, .null), (0, .ref (a0))] dX1_takeRow_4 rfl (by decide) rfl ?_
    refine zx_aload_nN C dX1_takeRow_5 0 rfl ?_
    refine zx_ifnonnullN C dX1_takeRow_6 ?_
    refine zx_new C tC_4 W_1_179 W_2_184 W_1_13 dX1_takeRow_9 ?_
    refine zx_mem (fun ρ9 hρ9 => ?_)
    replace hm := ltb_e hm hρ9
    have k10 : tk ρ9 (b0 + tn σ) = .inl 4 := by rw [hρ9]; exact sN_k _ _ _ _
    have i11 : tIn b0 ρ9 (b0 + tn σ) := by rw [hρ9]; exact sN_i _ _ _ _
    refine zx_dup C dX1_takeRow_12 rfl ?_
    obtain ⟨v12, ρ13, h14, hm⟩ := cll_e hm
    refine zx_callIN (σ := ρ9) C [] Y_X4_init W_2_185 W_2_186 rfl (c_X4_init h14) (by decide) (by decide) rfl (Nat.le_of_ble_eq_true rfl) dX1_takeRow_13 rfl ?_
    obtain ⟨rfl, rfl⟩ := ret_e hm
    exact zx_aret (x := some (b0 + tn σ)) C rfl (Or.inl ⟨_, rfl⟩) rfl rfl dX1_takeRow_16
