abbrev cX10_fill : ByteArray := prog_1_method_24_code
def yX10_fill : MethodName := ⟨"SyncTree", "fill", "(IIII)I"⟩
theorem Y_X10_fill : tY yX10_fill cX10_fill 7 (some .int) 4 := ⟨W_5_169, W_1_1, ⟨by decide +kernel, by decide +kernel⟩, by decide +kernel⟩
theorem dX10_fill_0 : decode cX10_fill 0 = .ok (.aload_n 0, 1) := by decide +kernel
theorem dX10_fill_1 : decode cX10_fill 1 = .ok (.getfield 37, 3) := by decide +kernel
theorem dX10_fill_4 : decode cX10_fill 4 = .ok (.invokevirtual 127, 3) := by decide +kernel
theorem dX10_fill_7 : decode cX10_fill 7 = .ok (.aload_n 0, 1) := by decide +kernel
theorem dX10_fill_8 : decode cX10_fill 8 = .ok (.iload_n 1, 1) := by decide +kernel
theorem dX10_fill_9 : decode cX10_fill 9 = .ok (.invokevirtual 224, 3) := by decide +kernel
theorem dX10_fill_12 : decode cX10_fill 12 = .ok (.istore 5, 2) := by decide +kernel
theorem dX10_fill_14 : decode cX10_fill 14 = .ok (.iload_n 3, 1) := by decide +kernel
theorem dX10_fill_15 : decode cX10_fill 15 = .ok (.sipush 16384, 3) := by decide +kernel
theorem dX10_fill_18 : decode cX10_fill 18 = .ok (.if_icmp .gt 16, 3) := by decide +kernel
theorem dX10_fill_21 : decode cX10_fill 21 = .ok (.iload 4, 2) := by decide +kernel
theorem dX10_fill_23 : decode cX10_fill 23 = .ok (.ifCond .lt 11, 3) := by decide +kernel
theorem dX10_fill_26 : decode cX10_fill 26 = .ok (.iload 4, 2) := by decide +kernel
theorem dX10_fill_28 : decode cX10_fill 28 = .ok (.sipush 255, 3) := by decide +kernel
theorem dX10_fill_31 : decode cX10_fill 31 = .ok (.if_icmp .le 6, 3) := by decide +kernel
theorem dX10_fill_34 : decode cX10_fill 34 = .ok (.bipush (-9), 2) := by decide +kernel
theorem dX10_fill_36 : decode cX10_fill 36 = .ok (.ireturn, 1) := by decide +kernel
theorem dX10_fill_37 : decode cX10_fill 37 = .ok (.aload_n 0, 1) := by decide +kernel
theorem dX10_fill_38 : decode cX10_fill 38 = .ok (.iload 5, 2) := by decide +kernel
theorem dX10_fill_40 : decode cX10_fill 40 = .ok (.iload_n 2, 1) := by decide +kernel
theorem dX10_fill_41 : decode cX10_fill 41 = .ok (.iload_n 3, 1) := by decide +kernel
theorem dX10_fill_42 : decode cX10_fill 42 = .ok (.invokevirtual 227, 3) := by decide +kernel
theorem dX10_fill_45 : decode cX10_fill 45 = .ok (.istore 6, 2) := by decide +kernel
theorem dX10_fill_47 : decode cX10_fill 47 = .ok (.iload 6, 2) := by decide +kernel
theorem dX10_fill_49 : decode cX10_fill 49 = .ok (.ifCond .le 16, 3) := by decide +kernel
theorem dX10_fill_52 : decode cX10_fill 52 = .ok (.aload_n 0, 1) := by decide +kernel
theorem dX10_fill_53 : decode cX10_fill 53 = .ok (.getfield 28, 3) := by decide +kernel
theorem dX10_fill_56 : decode cX10_fill 56 = .ok (.iload 5, 2) := by decide +kernel
theorem dX10_fill_58 : decode cX10_fill 58 = .ok (.iload_n 2, 1) := by decide +kernel
theorem dX10_fill_59 : decode cX10_fill 59 = .ok (.iload_n 3, 1) := by decide +kernel
theorem dX10_fill_60 : decode cX10_fill 60 = .ok (.iload 4, 2) := by decide +kernel
theorem dX10_fill_62 : decode cX10_fill 62 = .ok (.invokevirtual 234, 3) := by decide +kernel
theorem dX10_fill_65 : decode cX10_fill 65 = .ok (.iload 6, 2) := by decide +kernel
theorem dX10_fill_67 : decode cX10_fill 67 = .ok (.ireturn, 1) := by decide +kernel
def J_X10_fill_34 (b0 fu : Nat)   (σ : tM) : Option (((Int32) ⊕ Unit) × tM) := some (.inl ((-9)), σ)
def J_X10_fill_65 (b0 fu : Nat)  (x6 : Int32) (σ : tM) : Option (((Int32) ⊕ Unit) × tM) := some (.inl (x6), σ)
def m_X10_fill (b0 fu : Nat) (a0 : Nat) (p0 : Int32) (p1 : Int32) (p2 : Int32) (p3 : Int32) (σ : tM) : Option (((Int32) ⊕ Unit) × tM) := grw σ (ckO b0 (σ) (a0) 10 (osm (tA (σ) (a0) 3) (fun a3 => ckO b0 (σ) (a3) 1 (clx (m_X1_postAhead b0 fu (a3) (σ)) (fun v7 ρ8 => ckO b0 (ρ8) (a0) 10 (cll (m_X10_fileOf b0 fu (a0) (p0) (ρ8)) (fun v12 ρ13 => if (16384) < (p2) then J_X10_fill_34 b0 fu    (ρ13) else if (p3) < (0) then J_X10_fill_34 b0 fu    (ρ13) else if (p3) ≤ (255) then ckO b0 (ρ13) (a0) 10 (cll (m_X10_makeReady b0 fu (a0) (v12) (p1) (p2) (ρ13)) (fun v20 ρ21 => if (v20) ≤ (0) then J_X10_fill_65 b0 fu   (v20) (ρ21) else ckO b0 (ρ21) (a0) 10 (osm (tA (ρ21) (a0) 2) (fun a26 => ckO b0 (ρ21) (a26) 8 (cll (m_X8_storeSame b0 fu (a26) (v12) (p1) (p2) (p3) (ρ21)) (fun v30 ρ31 => J_X10_fill_65 b0 fu   (v20) (ρ31))))))) else J_X10_fill_34 b0 fu    (ρ13))))))))
set_option maxRecDepth 100000 in
set_option maxHeartbeats 1000000 in
theorem j_X10_fill_34 {p : Program} {l : Launch} {e : Env} {s : State} {m : MethodId} {args : Array Value} {below : List Frame} {meth : Method} {c : Code} {D : va_G} {aC : Nat → ClassId} {b0 fu : Nat} {σ0 τ : tM} {v : (Int32) ⊕ Unit}  (C : tCx p l s m args meth c yX10_fill.cls cX10_fill 7 (some .int) D aC b0 σ0) (htab : ∀ x ∈ c.exceptionTable.toList, False) (hin : meth.name = yX10_fill.name)   {σ : tM} (hm : J_X10_fill_34 b0 fu   σ = some (v, τ)) : tX p l e s m args below meth c 7 12 219 D aC b0 σ0 (rxI "java/lang/IllegalStateException" v) τ 34 [] [] σ := by
  unfold J_X10_fill_34 at hm
  refine zx_bipush (v := (-9)) C dX10_fill_34 (by decide) ?_
  obtain ⟨rfl, rfl⟩ := ret_e hm
  exact zx_iret C rfl rfl rfl dX10_fill_36
set_option maxRecDepth 100000 in
set_option maxHeartbeats 1000000 in
theorem j_X10_fill_65 {p : Program} {l : Launch} {e : Env} {s : State} {m : MethodId} {args : Array Value} {below : List Frame} {meth : Method} {c : Code} {D : va_G} {aC : Nat → ClassId} {b0 fu : Nat} {σ0 τ : tM} {v : (Int32) ⊕ Unit}  (C : tCx p l s m args meth c yX10_fill.cls cX10_fill 7 (some .int) D aC b0 σ0) (htab : ∀ x ∈ c.exceptionTable.toList, False) (hin : meth.name = yX10_fill.name)  {x6 : Int32} {σ : tM} (hm : J_X10_fill_65 b0 fu  x6 σ = some (v, τ)) : tX p l e s m args below meth c 7 12 219 D aC b0 σ0 (rxI "java/lang/IllegalStateException" v) τ 65 [(6, .int (x6))] [] σ := by
  unfold J_X10_fill_65 at hm
  refine zx_iload C dX10_fill_65 0 rfl ?_
  obtain ⟨rfl, rfl⟩ := ret_e hm
  exact zx_iret C rfl rfl rfl dX10_fill_67
set_option maxRecDepth 100000 in
set_option maxHeartbeats 1000000 in
theorem c_X10_fill {l : Launch} {D : va_G} {aC : Nat → ClassId} {b0 fu : Nat} {a0 : Nat} {p0 : Int32} {p1 : Int32} {p2 : Int32} {p3 : Int32} {σ τ : tM} {v : (Int32) ⊕ Unit} (hm : m_X10_fill b0 fu a0 p0 p1 p2 p3 σ = some (v, τ)) : tMt l D aC b0 yX10_fill (Cond.code yX10_fill cX10_fill 7 (some .int)) 12 219 [.ref (a0), .int (p0), .int (p1), .int (p2), .int (p3)] σ (rxI "java/lang/IllegalStateException" v) τ := by
  unfold m_X10_fill at hm
  obtain ⟨hg, hm⟩ := grw_e hm
  refine tMt_of (n := 0) rfl (Nat.le_of_ble_eq_true rfl) hg ?_
  intro p e s m below meth c C htab hin
  refine zx_lv [0, 1, 2, 3, 4] [(0, .ref (a0)), (1, .int (p0)), (2, .int (p1)), (3, .int (p2)), (4, .int (p3))] rfl ?_
  refine zx_aload_n C dX10_fill_0 0 rfl ?_
  obtain ⟨k1, i2, hm⟩ := ckO_e hm
  obtain ⟨a3, h4, hm⟩ := osm_e hm
  refine zx_get (j := 3) C tC_10 k1 i2 ⟨by decide, Or.inl W_2_216⟩ dX10_fill_1 (.ref a3) (rf_s h4) ?_
  obtain ⟨k5, i6, hm⟩ := ckO_e hm
  rcases clx_e hm with ⟨v7, ρ8, h9, hm⟩ | ⟨ρ8, h9, hm⟩
  · refine zx_callV (σ := σ) C [] tC_1 k5 i6 Y_X1_postAhead W_3_108 W_3_109 W_3_110 (c_X1_postAhead h9) (by decide) (by decide) rfl (Nat.le_of_ble_eq_true rfl) dX10_fill_4 rfl ?_
    refine zx_aload_n C dX10_fill_7 0 rfl ?_
    refine zx_iload_n C dX10_fill_8 1 rfl ?_
    obtain ⟨k10, i11, hm⟩ := ckO_e hm
    obtain ⟨v12, ρ13, h14, hm⟩ := cll_e hm
    refine zx_callV (σ := ρ8) C [.int (p0)] tC_10 k10 i11 Y_X10_fileOf W_5_138 W_5_140 Wp_41 (c_X10_fileOf h14) (by decide) (by decide) rfl (Nat.le_of_ble_eq_true rfl) dX10_fill_9 rfl ?_
    refine zx_istore C [(5, .int (v12)), (0, .ref (a0)), (1, .int (p0)), (2, .int (p1)), (3, .int (p2)), (4, .int (p3))] dX10_fill_12 (by decide) rfl ?_
    refine zx_iload_n C dX10_fill_14 4 rfl ?_
    refine zx_sipush (v := 16384) C dX10_fill_15 (by decide) ?_
    refine zx_icmp_gt C 34 dX10_fill_18 (by decide) (fun c15 => ?_) (fun c15 => ?_)
    · replace hm := ip_e hm c15
      exact zx_lv [] [] rfl (j_X10_fill_34 C htab hin    hm)
    · replace hm := in_e hm c15
      refine zx_iload C dX10_fill_21 5 rfl ?_
      refine zx_if_lt C 34 dX10_fill_23 (by decide) (fun c16 => ?_) (fun c16 => ?_)
      · replace hm := ip_e hm c16
        exact zx_lv [] [] rfl (j_X10_fill_34 C htab hin    hm)
      · replace hm := in_e hm c16
        refine zx_iload C dX10_fill_26 5 rfl ?_
        refine zx_sipush (v := 255) C dX10_fill_28 (by decide) ?_
        refine zx_icmp_le C 37 dX10_fill_31 (by decide) (fun c17 => ?_) (fun c17 => ?_)
        · replace hm := ip_e hm c17
          refine zx_aload_n C dX10_fill_37 1 rfl ?_
          refine zx_iload C dX10_fill_38 0 rfl ?_
          refine zx_iload_n C dX10_fill_40 3 rfl ?_
          refine zx_iload_n C dX10_fill_41 4 rfl ?_
          obtain ⟨k18, i19, hm⟩ := ckO_e hm
          obtain ⟨v20, ρ21, h22, hm⟩ := cll_e hm
          refine zx_callV (σ := ρ13) C [.int (v12), .int (p1), .int (p2)] tC_10 k18 i19 Y_X10_makeReady W_5_149 W_5_151 Wp_42 (c_X10_makeReady h22) (by decide) (by decide) rfl (Nat.le_of_ble_eq_true rfl) dX10_fill_42 rfl ?_
          refine zx_istore C [(6, .int (v20)), (5, .int (v12)), (0, .ref (a0)), (1, .int (p0)), (2, .int (p1)), (3, .int (p2)), (4, .int (p3))] dX10_fill_45 (by decide) rfl ?_
          refine zx_iload C dX10_fill_47 0 rfl ?_
          refine zx_if_le C 65 dX10_fill_49 (by decide) (fun c23 => ?_) (fun c23 => ?_)
          · replace hm := ip_e hm c23
            exact zx_lv [0] [(6, .int (v20))] rfl (j_X10_fill_65 C htab hin    hm)
          · replace hm := in_e hm c23
            refine zx_aload_n C dX10_fill_52 2 rfl ?_
            obtain ⟨k24, i25, hm⟩ := ckO_e hm
            obtain ⟨a26, h27, hm⟩ := osm_e hm
            refine zx_get (j := 2) C tC_10 k24 i25 ⟨by decide, Or.inl W_2_215⟩ dX10_fill_53 (.ref a26) (rf_s h27) ?_
            refine zx_iload C dX10_fill_56 1 rfl ?_
            refine zx_iload_n C dX10_fill_58 4 rfl ?_
            refine zx_iload_n C dX10_fill_59 5 rfl ?_
            refine zx_iload C dX10_fill_60 6 rfl ?_
            obtain ⟨k28, i29, hm⟩ := ckO_e hm
            obtain ⟨v30, ρ31, h32, hm⟩ := cll_e hm
            refine zx_callV (σ := ρ21) C [.int (v12), .int (p1), .int (p2), .int (p3)] tC_8 k28 i29 Y_X8_storeSame W_5_170 W_5_171 W_5_172 (c_X8_storeSame h32) (by decide) (by decide) rfl (Nat.le_of_ble_eq_true rfl) dX10_fill_62 rfl ?_
            exact zx_lv [0] [(6, .int (v20))] rfl (j_X10_fill_65 C htab hin    hm)
        · replace hm := in_e hm c17
          exact zx_lv [] [] rfl (j_X10_fill_34 C htab hin    hm)
  · cases hm
    exact zx_outV (σ := σ) C htab [] tC_1 k5 i6 Y_X1_postAhead W_3_108 W_3_109 W_3_110 (c_X1_postAhead h9) rfl (by decide) (by decide) rfl (Nat.le_of_ble_eq_true rfl) dX10_fill_4 rfl
abbrev cX10_truncate : ByteArray := prog_1_method_26_code
def yX10_truncate : MethodName := ⟨"SyncTree", "truncate", "(II)I"⟩
theorem Y_X10_truncate : tY yX10_truncate cX10_truncate 4 (some .int) 2 := ⟨W_5_180, W_1_1, ⟨by decide +kernel, by decide +kernel⟩, by decide +kernel⟩
theorem dX10_truncate_0 : decode cX10_truncate 0 = .ok (.aload_n 0, 1) := by decide +kernel
theorem dX10_truncate_1 : decode cX10_truncate 1 = .ok (.getfield 37, 3) := by decide +kernel
theorem dX10_truncate_4 : decode cX10_truncate 4 = .ok (.invokevirtual 127, 3) := by decide +kernel
theorem dX10_truncate_7 : decode cX10_truncate 7 = .ok (.aload_n 0, 1) := by decide +kernel
theorem dX10_truncate_8 : decode cX10_truncate 8 = .ok (.iload_n 1, 1) := by decide +kernel
theorem dX10_truncate_9 : decode cX10_truncate 9 = .ok (.invokevirtual 224, 3) := by decide +kernel
theorem dX10_truncate_12 : decode cX10_truncate 12 = .ok (.istore_n 3, 1) := by decide +kernel
theorem dX10_truncate_13 : decode cX10_truncate 13 = .ok (.iload_n 3, 1) := by decide +kernel
theorem dX10_truncate_14 : decode cX10_truncate 14 = .ok (.ifCond .lt 7, 3) := by decide +kernel
theorem dX10_truncate_17 : decode cX10_truncate 17 = .ok (.iload_n 2, 1) := by decide +kernel
theorem dX10_truncate_18 : decode cX10_truncate 18 = .ok (.ifCond .ge 6, 3) := by decide +kernel
theorem dX10_truncate_21 : decode cX10_truncate 21 = .ok (.bipush (-9), 2) := by decide +kernel
theorem dX10_truncate_23 : decode cX10_truncate 23 = .ok (.ireturn, 1) := by decide +kernel
theorem dX10_truncate_24 : decode cX10_truncate 24 = .ok (.iload_n 2, 1) := by decide +kernel
theorem dX10_truncate_25 : decode cX10_truncate 25 = .ok (.ldc 254, 2) := by decide +kernel
theorem dX10_truncate_27 : decode cX10_truncate 27 = .ok (.if_icmp .le 6, 3) := by decide +kernel
theorem dX10_truncate_30 : decode cX10_truncate 30 = .ok (.bipush (-7), 2) := by decide +kernel
theorem dX10_truncate_32 : decode cX10_truncate 32 = .ok (.ireturn, 1) := by decide +kernel
theorem dX10_truncate_33 : decode cX10_truncate 33 = .ok (.aload_n 0, 1) := by decide +kernel
theorem dX10_truncate_34 : decode cX10_truncate 34 = .ok (.getfield 28, 3) := by decide +kernel
theorem dX10_truncate_37 : decode cX10_truncate 37 = .ok (.iload_n 3, 1) := by decide +kernel
theorem dX10_truncate_38 : decode cX10_truncate 38 = .ok (.iload_n 2, 1) := by decide +kernel
theorem dX10_truncate_39 : decode cX10_truncate 39 = .ok (.invokevirtual 248, 3) := by decide +kernel
theorem dX10_truncate_42 : decode cX10_truncate 42 = .ok (.iconst 0, 1) := by decide +kernel
theorem dX10_truncate_43 : decode cX10_truncate 43 = .ok (.ireturn, 1) := by decide +kernel
def J_X10_truncate_21 (b0 fu : Nat)   (σ : tM) : Option (((Int32) ⊕ Unit) × tM) := some (.inl ((-9)), σ)
def m_X10_truncate (b0 fu : Nat) (a0 : Nat) (p0 : Int32) (p1 : Int32) (σ : tM) : Option (((Int32) ⊕ Unit) × tM) := grw σ (ckO b0 (σ) (a0) 10 (osm (tA (σ) (a0) 3) (fun a3 => ckO b0 (σ) (a3) 1 (clx (m_X1_postAhead b0 fu (a3) (σ)) (fun v7 ρ8 => ckO b0 (ρ8) (a0) 10 (cll (m_X10_fileOf b0 fu (a0) (p0) (ρ8)) (fun v12 ρ13 => if (v12) < (0) then J_X10_truncate_21 b0 fu    (ρ13) else if (0) ≤ (p1) then if (p1) ≤ (272384) then ckO b0 (ρ13) (a0) 10 (osm (tA (ρ13) (a0) 2) (fun a20 => ckO b0 (ρ13) (a20) 8 (cll (m_X8_resize b0 fu (a20) (v12) (p1) (ρ13)) (fun v24 ρ25 => some (.inl (0), ρ25))))) else some (.inl ((-7)), ρ13) else J_X10_truncate_21 b0 fu    (ρ13))))))))
set_option maxRecDepth 100000 in
set_option maxHeartbeats 1000000 in
theorem j_X10_truncate_21 {p : Program} {l : Launch} {e : Env} {s : State} {m : MethodId} {args : Array Value} {below : List Frame} {meth : Method} {c : Code} {D : va_G} {aC : Nat → ClassId} {b0 fu : Nat} {σ0 τ : tM} {v : (Int32) ⊕ Unit}  (C : tCx p l s m args meth c yX10_truncate.cls cX10_truncate 4 (some .int) D aC b0 σ0) (htab : ∀ x ∈ c.exceptionTable.toList, False) (hin : meth.name = yX10_truncate.name)   {σ : tM} (hm : J_X10_truncate_21 b0 fu   σ = some (v, τ)) : tX p l e s m args below meth c 4 12 219 D aC b0 σ0 (rxI "java/lang/IllegalStateException" v) τ 21 [] [] σ := by
  unfold J_X10_truncate_21 at hm
  refine zx_bipush (v := (-9)) C dX10_truncate_21 (by decide) ?_
  obtain ⟨rfl, rfl⟩ := ret_e hm
  exact zx_iret C rfl rfl rfl dX10_truncate_23
set_option maxRecDepth 100000 in
set_option maxHeartbeats 1000000 in
theorem c_X10_truncate {l : Launch} {D : va_G} {aC : Nat → ClassId} {b0 fu : Nat} {a0 : Nat} {p0 : Int32} {p1 : Int32} {σ τ : tM} {v : (Int32) ⊕ Unit} (hm : m_X10_truncate b0 fu a0 p0 p1 σ = some (v, τ)) : tMt l D aC b0 yX10_truncate (Cond.code yX10_truncate cX10_truncate 4 (some .int)) 12 219 [.ref (a0), .int (p0), .int (p1)] σ (rxI "java/lang/IllegalStateException" v) τ := by
  unfold m_X10_truncate at hm
  obtain ⟨hg, hm⟩ := grw_e hm
  refine tMt_of (n := 0) rfl (Nat.le_of_ble_eq_true rfl) hg ?_
  intro p e s m below meth c C htab hin
  refine zx_lv [0, 1, 2] [(0, .ref (a0)), (1, .int (p0)), (2, .int (p1))] rfl ?_
  refine zx_aload_n C dX10_truncate_0 0 rfl ?_
  obtain ⟨k1, i2, hm⟩ := ckO_e hm
  obtain ⟨a3, h4, hm⟩ := osm_e hm
  refine zx_get (j := 3) C tC_10 k1 i2 ⟨by decide, Or.inl W_2_216⟩ dX10_truncate_1 (.ref a3) (rf_s h4) ?_
  obtain ⟨k5, i6, hm⟩ := ckO_e hm
  rcases clx_e hm with ⟨v7, ρ8, h9, hm⟩ | ⟨ρ8, h9, hm⟩
  · refine zx_callV (σ := σ) C [] tC_1 k5 i6 Y_X1_postAhead W_3_108 W_3_109 W_3_110 (c_X1_postAhead h9) (by decide) (by decide) rfl (Nat.le_of_ble_eq_true rfl) dX10_truncate_4 rfl ?_
    refine zx_aload_n C dX10_truncate_7 0 rfl ?_
    refine zx_iload_n C dX10_truncate_8 1 rfl ?_
    obtain ⟨k10, i11, hm⟩ := ckO_e hm
    obtain ⟨v12, ρ13, h14, hm⟩ := cll_e hm
    refine zx_callV (σ := ρ8) C [.int (p0)] tC_10 k10 i11 Y_X10_fileOf W_5_138 W_5_140 Wp_41 (c_X10_fileOf h14) (by decide) (by decide) rfl (Nat.le_of_ble_eq_true rfl) dX10_truncate_9 rfl ?_
    refine zx_istore_n C [(3, .int (v12)), (0, .ref (a0)), (1, .int (p0)), (2, .int (p1))] dX10_truncate_12 rfl (by decide) rfl ?_
    refine zx_iload_n C dX10_truncate_13 0 rfl ?_
    refine zx_if_lt C 21 dX10_truncate_14 (by decide) (fun c15 => ?_) (fun c15 => ?_)
    · replace hm := ip_e hm c15
      exact zx_lv [] [] rfl (j_X10_truncate_21 C htab hin    hm)
    · replace hm := in_e hm c15
      refine zx_iload_n C dX10_truncate_17 3 rfl ?_
      refine zx_if_ge C 24 dX10_truncate_18 (by decide) (fun c16 => ?_) (fun c16 => ?_)
      · replace hm := ip_e hm c16
        refine zx_iload_n C dX10_truncate_24 3 rfl ?_
        refine zx_ldc (v := 272384) C W_5_181 dX10_truncate_25 ?_
        refine zx_icmp_le C 33 dX10_truncate_27 (by decide) (fun c17 => ?_) (fun c17 => ?_)
        · replace hm := ip_e hm c17
          refine zx_aload_n C dX10_truncate_33 1 rfl ?_
          obtain ⟨k18, i19, hm⟩ := ckO_e hm
          obtain ⟨a20, h21, hm⟩ := osm_e hm
          refine zx_get (j := 2) C tC_10 k18 i19 ⟨by decide, Or.inl W_2_215⟩ dX10_truncate_34 (.ref a20) (rf_s h21) ?_
          refine zx_iload_n C dX10_truncate_37 0 rfl ?_
          refine zx_iload_n C dX10_truncate_38 3 rfl ?_
          obtain ⟨k22, i23, hm⟩ := ckO_e hm
          obtain ⟨v24, ρ25, h26, hm⟩ := cll_e hm
          refine zx_callV (σ := ρ13) C [.int (v12), .int (p1)] tC_8 k22 i23 Y_X8_resize W_5_156 W_5_67 W_5_68 (c_X8_resize h26) (by decide) (by decide) rfl (Nat.le_of_ble_eq_true rfl) dX10_truncate_39 rfl ?_
          refine zx_iconst (v := 0) C dX10_truncate_42 (by decide) ?_
          obtain ⟨rfl, rfl⟩ := ret_e hm
          exact zx_iret C rfl rfl rfl dX10_truncate_43
        · replace hm := in_e hm c17
          refine zx_bipush (v := (-7)) C dX10_truncate_30 (by decide) ?_
          obtain ⟨rfl, rfl⟩ := ret_e hm
          exact zx_iret C rfl rfl rfl dX10_truncate_32
      · replace hm := in_e hm c16
        exact zx_lv [] [] rfl (j_X10_truncate_21 C htab hin    hm)
  · cases hm
    exact zx_outV (σ := σ) C htab [] tC_1 k5 i6 Y_X1_postAhead W_3_108 W_3_109 W_3_110 (c_X1_postAhead h9) rfl (by decide) (by decide) rfl (Nat.le_of_ble_eq_true rfl) dX10_truncate_4 rfl
abbrev cX10_recover : ByteArray := prog_1_method_45_code
def yX10_recover : MethodName := ⟨"SyncTree", "recover", "()I"⟩
theorem Y_X10_recover : tY yX10_recover cX10_recover 2 (some .int) 0 := ⟨W_6_116, W_1_1, ⟨by decide +kernel, by decide +kernel⟩, by decide +kernel⟩
theorem dX10_recover_0 : decode cX10_recover 0 = .ok (.aload_n 0, 1) := by decide +kernel
theorem dX10_recover_1 : decode cX10_recover 1 = .ok (.getfield 12, 3) := by decide +kernel
theorem dX10_recover_4 : decode cX10_recover 4 = .ok (.getfield 352, 3) := by decide +kernel
theorem dX10_recover_7 : decode cX10_recover 7 = .ok (.ifCond .eq 6, 3) := by decide +kernel
theorem dX10_recover_10 : decode cX10_recover 10 = .ok (.bipush (-9), 2) := by decide +kernel
theorem dX10_recover_12 : decode cX10_recover 12 = .ok (.ireturn, 1) := by decide +kernel
theorem dX10_recover_13 : decode cX10_recover 13 = .ok (.aload_n 0, 1) := by decide +kernel
theorem dX10_recover_14 : decode cX10_recover 14 = .ok (.getfield 37, 3) := by decide +kernel
theorem dX10_recover_17 : decode cX10_recover 17 = .ok (.invokevirtual 365, 3) := by decide +kernel
theorem dX10_recover_20 : decode cX10_recover 20 = .ok (.istore_n 1, 1) := by decide +kernel
theorem dX10_recover_21 : decode cX10_recover 21 = .ok (.aload_n 0, 1) := by decide +kernel
theorem dX10_recover_22 : decode cX10_recover 22 = .ok (.getfield 46, 3) := by decide +kernel
theorem dX10_recover_25 : decode cX10_recover 25 = .ok (.invokevirtual 368, 3) := by decide +kernel
theorem dX10_recover_28 : decode cX10_recover 28 = .ok (.aload_n 0, 1) := by decide +kernel
theorem dX10_recover_29 : decode cX10_recover 29 = .ok (.getfield 76, 3) := by decide +kernel
theorem dX10_recover_32 : decode cX10_recover 32 = .ok (.iconst (-1), 1) := by decide +kernel
theorem dX10_recover_33 : decode cX10_recover 33 = .ok (.invokestatic 102, 3) := by decide +kernel
theorem dX10_recover_36 : decode cX10_recover 36 = .ok (.aload_n 0, 1) := by decide +kernel
theorem dX10_recover_37 : decode cX10_recover 37 = .ok (.getfield 28, 3) := by decide +kernel
theorem dX10_recover_40 : decode cX10_recover 40 = .ok (.invokevirtual 371, 3) := by decide +kernel
theorem dX10_recover_43 : decode cX10_recover 43 = .ok (.iload_n 1, 1) := by decide +kernel
theorem dX10_recover_44 : decode cX10_recover 44 = .ok (.ireturn, 1) := by decide +kernel
def m_X10_recover (b0 fu : Nat) (a0 : Nat) (σ : tM) : Option (((Int32) ⊕ Unit) × tM) := grw σ (ckO b0 (σ) (a0) 10 (osm (tA (σ) (a0) 0) (fun a3 => ckO b0 (σ) (a3) 0 (if (tI (σ) (a3) 14) = (0) then osm (tA (σ) (a0) 3) (fun a8 => ckO b0 (σ) (a8) 1 (clx (m_X1_replay b0 fu (a8) (σ)) (fun v12 ρ13 => ckO b0 (ρ13) (a0) 10 (osm (tA (ρ13) (a0) 4) (fun a17 => ckO b0 (ρ13) (a17) 2 (cll (m_X2_loadAll b0 fu (a17) (ρ13)) (fun v21 ρ22 => ckO b0 (ρ22) (a0) 10 (osm (tA (ρ22) (a0) 9) (fun a26 => cll (m_J7_fill_53178 b0 fu (a26) ((-1)) (ρ22)) (fun v28 ρ29 => ckO b0 (ρ29) (a0) 10 (osm (tA (ρ29) (a0) 2) (fun a33 => ckO b0 (ρ29) (a33) 8 (cll (m_X8_discardNameless b0 fu (a33) (ρ29)) (fun v37 ρ38 => some (.inl (v12), ρ38))))))))))))))) else some (.inl ((-9)), σ)))))
set_option maxRecDepth 100000 in
set_option maxHeartbeats 1000000 in
theorem c_X10_recover {l : Launch} {D : va_G} {aC : Nat → ClassId} {b0 fu : Nat} {a0 : Nat} {σ τ : tM} {v : (Int32) ⊕ Unit} (hm : m_X10_recover b0 fu a0 σ = some (v, τ)) : tMt l D aC b0 yX10_recover (Cond.code yX10_recover cX10_recover 2 (some .int)) 9 168 [.ref (a0)] σ (rxI "java/lang/IllegalStateException" v) τ := by
  unfold m_X10_recover at hm
  obtain ⟨hg, hm⟩ := grw_e hm
  refine tMt_of (n := 0) rfl (Nat.le_of_ble_eq_true rfl) hg ?_
  intro p e s m below meth c C htab hin
  refine zx_lv [0] [(0, .ref (a0))] rfl ?_
  refine zx_aload_n C dX10_recover_0 0 rfl ?_
  obtain ⟨k1, i2, hm⟩ := ckO_e hm
  obtain ⟨a3, h4, hm⟩ := osm_e hm
  refine zx_get (j := 0) C tC_10 k1 i2 ⟨by decide, Or.inl W_2_213⟩ dX10_recover_1 (.ref a3) (rf_s h4) ?_
  obtain ⟨k5, i6, hm⟩ := ckO_e hm
  refine zx_get (j := 14) C tC_0 k5 i6 ⟨by decide, Or.inr ⟨_, W_1_53⟩⟩ dX10_recover_4 (.int (tI (σ) (a3) 14)) rfl ?_
  refine zx_if_eq C 13 dX10_recover_7 (by decide) (fun c7 => ?_) (fun c7 => ?_)
  · replace hm := ip_e hm c7
    refine zx_aload_n C dX10_recover_13 0 rfl ?_
    obtain ⟨a8, h9, hm⟩ := osm_e hm
    refine zx_get (j := 3) C tC_10 k1 i2 ⟨by decide, Or.inl W_2_216⟩ dX10_recover_14 (.ref a8) (rf_s h9) ?_
    obtain ⟨k10, i11, hm⟩ := ckO_e hm
    rcases clx_e hm with ⟨v12, ρ13, h14, hm⟩ | ⟨ρ13, h14, hm⟩
    · refine zx_callV (σ := σ) C [] tC_1 k10 i11 Y_X1_replay W_6_117 W_6_118 W_6_119 (c_X1_replay h14) (by decide) (by decide) rfl (Nat.le_of_ble_eq_true rfl) dX10_recover_17 rfl ?_
      refine zx_istore_n C [(1, .int (v12)), (0, .ref (a0))] dX10_recover_20 rfl (by decide) rfl ?_
      refine zx_aload_n C dX10_recover_21 1 rfl ?_
      obtain ⟨k15, i16, hm⟩ := ckO_e hm
      obtain ⟨a17, h18, hm⟩ := osm_e hm
      refine zx_get (j := 4) C tC_10 k15 i16 ⟨by decide, Or.inl W_2_217⟩ dX10_recover_22 (.ref a17) (rf_s h18) ?_
      obtain ⟨k19, i20, hm⟩ := ckO_e hm
      obtain ⟨v21, ρ22, h23, hm⟩ := cll_e hm
      refine zx_callV (σ := ρ13) C [] tC_2 k19 i20 Y_X2_loadAll W_6_146 W_6_147 W_6_148 (c_X2_loadAll h23) (by decide) (by decide) rfl (Nat.le_of_ble_eq_true rfl) dX10_recover_25 rfl ?_
      refine zx_aload_n C dX10_recover_28 1 rfl ?_
      obtain ⟨k24, i25, hm⟩ := ckO_e hm
      obtain ⟨a26, h27, hm⟩ := osm_e hm
      refine zx_get (j := 9) C tC_10 k24 i25 ⟨by decide, Or.inl W_2_222⟩ dX10_recover_29 (.ref a26) (rf_s h27) ?_
      refine zx_iconst (v := (-1)) C dX10_recover_32 (by decide) ?_
      obtain ⟨v28, ρ29, h30, hm⟩ := cll_e hm
      refine zx_callS (σ := ρ22) C [.ref (a26), .int ((-1))] Y_J7_fill_53178 W_2_210 W_2_211 (c_J7_fill_53178 h30) (by decide) (by decide) rfl (Nat.le_of_ble_eq_true rfl) dX10_recover_33 rfl ?_
      refine zx_aload_n C dX10_recover_36 1 rfl ?_
      obtain ⟨k31, i32, hm⟩ := ckO_e hm
      obtain ⟨a33, h34, hm⟩ := osm_e hm
      refine zx_get (j := 2) C tC_10 k31 i32 ⟨by decide, Or.inl W_2_215⟩ dX10_recover_37 (.ref a33) (rf_s h34) ?_
      obtain ⟨k35, i36, hm⟩ := ckO_e hm
      obtain ⟨v37, ρ38, h39, hm⟩ := cll_e hm
      refine zx_callV (σ := ρ29) C [] tC_8 k35 i36 Y_X8_discardNameless W_6_185 W_6_186 W_6_187 (c_X8_discardNameless h39) (by decide) (by decide) rfl (Nat.le_of_ble_eq_true rfl) dX10_recover_40 rfl ?_
      refine zx_iload_n C dX10_recover_43 0 rfl ?_
      obtain ⟨rfl, rfl⟩ := ret_e hm
      exact zx_iret C rfl rfl rfl dX10_recover_44
    · cases hm
      exact zx_outV (σ := σ) C htab [] tC_1 k10 i11 Y_X1_replay W_6_117 W_6_118 W_6_119 (c_X1_replay h14) rfl (by decide) (by decide) rfl (Nat.le_of_ble_eq_true rfl) dX10_recover_17 rfl
  · replace hm := in_e hm c7
    refine zx_bipush (v := (-9)) C dX10_recover_10 (by decide) ?_
    obtain ⟨rfl, rfl⟩ := ret_e hm
    exact zx_iret C rfl rfl rfl dX10_recover_12
