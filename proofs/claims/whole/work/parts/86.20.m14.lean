abbrev cX10_finishMove : ByteArray := prog_1_method_17_code
def yX10_finishMove : MethodName := ⟨"SyncTree", "finishMove", "(IIII)V"⟩
theorem Y_X10_finishMove : tY yX10_finishMove cX10_finishMove 5 none 4 := ⟨W_5_118, W_1_1, ⟨by decide +kernel, by decide +kernel⟩, by decide +kernel⟩
theorem dX10_finishMove_0 : decode cX10_finishMove 0 = .ok (.aload_n 0, 1) := by decide +kernel
theorem dX10_finishMove_1 : decode cX10_finishMove 1 = .ok (.getfield 28, 3) := by decide +kernel
theorem dX10_finishMove_4 : decode cX10_finishMove 4 = .ok (.iload_n 1, 1) := by decide +kernel
theorem dX10_finishMove_5 : decode cX10_finishMove 5 = .ok (.invokevirtual 168, 3) := by decide +kernel
theorem dX10_finishMove_8 : decode cX10_finishMove 8 = .ok (.iconst 2, 1) := by decide +kernel
theorem dX10_finishMove_9 : decode cX10_finishMove 9 = .ok (.if_icmp .ne 12, 3) := by decide +kernel
theorem dX10_finishMove_12 : decode cX10_finishMove 12 = .ok (.aload_n 0, 1) := by decide +kernel
theorem dX10_finishMove_13 : decode cX10_finishMove 13 = .ok (.getfield 28, 3) := by decide +kernel
theorem dX10_finishMove_16 : decode cX10_finishMove 16 = .ok (.iload_n 1, 1) := by decide +kernel
theorem dX10_finishMove_17 : decode cX10_finishMove 17 = .ok (.iload_n 2, 1) := by decide +kernel
theorem dX10_finishMove_18 : decode cX10_finishMove 18 = .ok (.invokevirtual 215, 3) := by decide +kernel
theorem dX10_finishMove_21 : decode cX10_finishMove 21 = .ok (.aload_n 0, 1) := by decide +kernel
theorem dX10_finishMove_22 : decode cX10_finishMove 22 = .ok (.getfield 28, 3) := by decide +kernel
theorem dX10_finishMove_25 : decode cX10_finishMove 25 = .ok (.iload_n 3, 1) := by decide +kernel
theorem dX10_finishMove_26 : decode cX10_finishMove 26 = .ok (.iload 4, 2) := by decide +kernel
theorem dX10_finishMove_28 : decode cX10_finishMove 28 = .ok (.invokevirtual 187, 3) := by decide +kernel
theorem dX10_finishMove_31 : decode cX10_finishMove 31 = .ok (.return_, 1) := by decide +kernel
set_option maxRecDepth 100000 in
set_option maxHeartbeats 1000000 in
theorem j_X10_finishMove_21 {p : Program} {l : Launch} {e : Env} {s : State} {m : MethodId} {args : Array Value} {below : List Frame} {meth : Method} {c : Code} {D : va_G} {aC : Nat → ClassId} {b0 fu : Nat} {σ0 τ : tM} {v : Unit}  (C : tCx p l s m args meth c yX10_finishMove.cls cX10_finishMove 5 none D aC b0 σ0) (htab : ∀ x ∈ c.exceptionTable.toList, False) (hin : meth.name = yX10_finishMove.name)  {x0 : Nat} {x3 : Int32} {x4 : Int32} {σ : tM} (hm : J_X10_finishMove_21 b0 fu  x0 x3 x4 σ = some (v, τ)) : tX p l e s m args below meth c 5 5 120 D aC b0 σ0 (.inl none) τ 21 [(0, .ref (x0)), (3, .int (x3)), (4, .int (x4))] [] σ := by
  unfold J_X10_finishMove_21 at hm
  refine zx_aload_n C dX10_finishMove_21 0 rfl ?_
  obtain ⟨k11, i12, hm⟩ := ckO_e hm
  obtain ⟨a13, h14, hm⟩ := osm_e hm
  refine zx_get (j := 2) C tC_10 k11 i12 ⟨by decide, Or.inl W_2_215⟩ dX10_finishMove_22 (.ref a13) (rf_s h14) ?_
  refine zx_iload_n C dX10_finishMove_25 1 rfl ?_
  refine zx_iload C dX10_finishMove_26 2 rfl ?_
  obtain ⟨k15, i16, hm⟩ := ckO_e hm
  obtain ⟨v17, ρ18, h19, hm⟩ := cll_e hm
  refine zx_callV (σ := σ) C [.int (x3), .int (x4)] tC_8 k15 i16 Y_X8_removeEntry W_5_33 W_5_34 W_5_35 (c_X8_removeEntry h19) (by decide) (by decide) rfl (Nat.le_of_ble_eq_true rfl) dX10_finishMove_28 rfl ?_
  obtain ⟨rfl, rfl⟩ := ret_e hm
  exact zx_vret C rfl rfl rfl dX10_finishMove_31
set_option maxRecDepth 100000 in
set_option maxHeartbeats 1000000 in
theorem c_X10_finishMove {l : Launch} {D : va_G} {aC : Nat → ClassId} {b0 fu : Nat} {a0 : Nat} {p0 : Int32} {p1 : Int32} {p2 : Int32} {p3 : Int32} {σ τ : tM} {v : Unit} (hm : m_X10_finishMove b0 fu a0 p0 p1 p2 p3 σ = some (v, τ)) : tMt l D aC b0 yX10_finishMove (Cond.code yX10_finishMove cX10_finishMove 5 none) 5 120 [.ref (a0), .int (p0), .int (p1), .int (p2), .int (p3)] σ (.inl none) τ := by
  unfold m_X10_finishMove at hm
  obtain ⟨hg, hm⟩ := grw_e hm
  refine tMt_of (n := 0) rfl (Nat.le_of_ble_eq_true rfl) hg ?_
  intro p e s m below meth c C htab hin
  refine zx_lv [0, 1, 2, 3, 4] [(0, .ref (a0)), (1, .int (p0)), (2, .int (p1)), (3, .int (p2)), (4, .int (p3))] rfl ?_
  refine zx_aload_n C dX10_finishMove_0 0 rfl ?_
  obtain ⟨k1, i2, hm⟩ := ckO_e hm
  obtain ⟨a3, h4, hm⟩ := osm_e hm
  refine zx_get (j := 2) C tC_10 k1 i2 ⟨by decide, Or.inl W_2_215⟩ dX10_finishMove_1 (.ref a3) (rf_s h4) ?_
  refine zx_iload_n C dX10_finishMove_4 1 rfl ?_
  obtain ⟨k5, i6, hm⟩ := ckO_e hm
  obtain ⟨v7, ρ8, h9, hm⟩ := cll_e hm
  refine zx_callV (σ := σ) C [.int (p0)] tC_8 k5 i6 Y_X8_kind W_5_14 W_3_80 W_3_81 (c_X8_kind h9) (by decide) (by decide) rfl (Nat.le_of_ble_eq_true rfl) dX10_finishMove_5 rfl ?_
  refine zx_iconst (v := 2) C dX10_finishMove_8 (by decide) ?_
  refine zx_icmp_ne C 21 dX10_finishMove_9 (by decide) (fun c10 => ?_) (fun c10 => ?_)
  · replace hm := in_e hm c10
    exact zx_lv [0, 3, 4] [(0, .ref (a0)), (3, .int (p2)), (4, .int (p3))] rfl (j_X10_finishMove_21 C htab hin    hm)
  · replace hm := ip_e hm c10
    refine zx_aload_n C dX10_finishMove_12 0 rfl ?_
    obtain ⟨k20, i21, hm⟩ := ckO_e hm
    obtain ⟨a22, h23, hm⟩ := osm_e hm
    refine zx_get (j := 2) C tC_10 k20 i21 ⟨by decide, Or.inl W_2_215⟩ dX10_finishMove_13 (.ref a22) (rf_s h23) ?_
    refine zx_iload_n C dX10_finishMove_16 1 rfl ?_
    refine zx_iload_n C dX10_finishMove_17 2 rfl ?_
    obtain ⟨k24, i25, hm⟩ := ckO_e hm
    obtain ⟨v26, ρ27, h28, hm⟩ := cll_e hm
    refine zx_callV (σ := ρ8) C [.int (p0), .int (p1)] tC_8 k24 i25 Y_X8_setParent W_5_119 W_5_120 W_5_121 (c_X8_setParent h28) (by decide) (by decide) rfl (Nat.le_of_ble_eq_true rfl) dX10_finishMove_18 rfl ?_
    exact zx_lv [0, 3, 4] [(0, .ref (a0)), (3, .int (p2)), (4, .int (p3))] rfl (j_X10_finishMove_21 C htab hin    hm)
abbrev cX10_open : ByteArray := prog_1_method_20_code
def yX10_open : MethodName := ⟨"SyncTree", "open", "()I"⟩
theorem Y_X10_open : tY yX10_open cX10_open 3 (some .int) 0 := ⟨W_5_129, W_1_1, ⟨by decide +kernel, by decide +kernel⟩, by decide +kernel⟩
theorem dX10_open_0 : decode cX10_open 0 = .ok (.aload_n 0, 1) := by decide +kernel
theorem dX10_open_1 : decode cX10_open 1 = .ok (.getfield 12, 3) := by decide +kernel
theorem dX10_open_4 : decode cX10_open 4 = .ok (.invokevirtual 221, 3) := by decide +kernel
theorem dX10_open_7 : decode cX10_open 7 = .ok (.aload_n 0, 1) := by decide +kernel
theorem dX10_open_8 : decode cX10_open 8 = .ok (.getfield 55, 3) := by decide +kernel
theorem dX10_open_11 : decode cX10_open 11 = .ok (.aload_n 0, 1) := by decide +kernel
theorem dX10_open_12 : decode cX10_open 12 = .ok (.getfield 69, 3) := by decide +kernel
theorem dX10_open_15 : decode cX10_open 15 = .ok (.iconst 1, 1) := by decide +kernel
theorem dX10_open_16 : decode cX10_open 16 = .ok (.invokevirtual 164, 3) := by decide +kernel
theorem dX10_open_19 : decode cX10_open 19 = .ok (.istore_n 1, 1) := by decide +kernel
theorem dX10_open_20 : decode cX10_open 20 = .ok (.iload_n 1, 1) := by decide +kernel
theorem dX10_open_21 : decode cX10_open 21 = .ok (.ifCond .ge 5, 3) := by decide +kernel
theorem dX10_open_24 : decode cX10_open 24 = .ok (.iload_n 1, 1) := by decide +kernel
theorem dX10_open_25 : decode cX10_open 25 = .ok (.ireturn, 1) := by decide +kernel
theorem dX10_open_26 : decode cX10_open 26 = .ok (.aload_n 0, 1) := by decide +kernel
theorem dX10_open_27 : decode cX10_open 27 = .ok (.getfield 28, 3) := by decide +kernel
theorem dX10_open_30 : decode cX10_open 30 = .ok (.iload_n 1, 1) := by decide +kernel
theorem dX10_open_31 : decode cX10_open 31 = .ok (.invokevirtual 168, 3) := by decide +kernel
theorem dX10_open_34 : decode cX10_open 34 = .ok (.iconst 2, 1) := by decide +kernel
theorem dX10_open_35 : decode cX10_open 35 = .ok (.if_icmp .ne 6, 3) := by decide +kernel
theorem dX10_open_38 : decode cX10_open 38 = .ok (.bipush (-4), 2) := by decide +kernel
theorem dX10_open_40 : decode cX10_open 40 = .ok (.ireturn, 1) := by decide +kernel
theorem dX10_open_41 : decode cX10_open 41 = .ok (.iconst 0, 1) := by decide +kernel
theorem dX10_open_42 : decode cX10_open 42 = .ok (.istore_n 2, 1) := by decide +kernel
theorem dX10_open_43 : decode cX10_open 43 = .ok (.iload_n 2, 1) := by decide +kernel
theorem dX10_open_44 : decode cX10_open 44 = .ok (.bipush 16, 2) := by decide +kernel
theorem dX10_open_46 : decode cX10_open 46 = .ok (.if_icmp .ge 27, 3) := by decide +kernel
theorem dX10_open_49 : decode cX10_open 49 = .ok (.aload_n 0, 1) := by decide +kernel
theorem dX10_open_50 : decode cX10_open 50 = .ok (.getfield 76, 3) := by decide +kernel
theorem dX10_open_53 : decode cX10_open 53 = .ok (.iload_n 2, 1) := by decide +kernel
theorem dX10_open_54 : decode cX10_open 54 = .ok (.iaload, 1) := by decide +kernel
theorem dX10_open_55 : decode cX10_open 55 = .ok (.ifCond .ge 12, 3) := by decide +kernel
theorem dX10_open_58 : decode cX10_open 58 = .ok (.aload_n 0, 1) := by decide +kernel
theorem dX10_open_59 : decode cX10_open 59 = .ok (.getfield 76, 3) := by decide +kernel
theorem dX10_open_62 : decode cX10_open 62 = .ok (.iload_n 2, 1) := by decide +kernel
theorem dX10_open_63 : decode cX10_open 63 = .ok (.iload_n 1, 1) := by decide +kernel
theorem dX10_open_64 : decode cX10_open 64 = .ok (.iastore, 1) := by decide +kernel
theorem dX10_open_65 : decode cX10_open 65 = .ok (.iload_n 2, 1) := by decide +kernel
theorem dX10_open_66 : decode cX10_open 66 = .ok (.ireturn, 1) := by decide +kernel
theorem dX10_open_67 : decode cX10_open 67 = .ok (.iinc 2 1, 3) := by decide +kernel
theorem dX10_open_70 : decode cX10_open 70 = .ok (.goto (-27), 3) := by decide +kernel
theorem dX10_open_73 : decode cX10_open 73 = .ok (.bipush (-10), 2) := by decide +kernel
theorem dX10_open_75 : decode cX10_open 75 = .ok (.ireturn, 1) := by decide +kernel
set_option maxRecDepth 100000 in
set_option maxHeartbeats 1000000 in
theorem l_X10_open_43 {p : Program} {l : Launch} {e : Env} {s : State} {m : MethodId} {args : Array Value} {below : List Frame} {meth : Method} {c : Code} {D : va_G} {aC : Nat → ClassId} {b0 fu : Nat} {σ0 τ : tM} {v : (Int32) ⊕ Unit}  (C : tCx p l s m args meth c yX10_open.cls cX10_open 3 (some .int) D aC b0 σ0) (htab : ∀ x ∈ c.exceptionTable.toList, False) (hin : meth.name = yX10_open.name)  : ∀ (n : Nat) (x0 : Nat) (x1 : Int32) (x2 : Int32) (σ : tM), L_X10_open_43 b0 fu  n x0 x1 x2 σ = some (v, τ) → tX p l e s m args below meth c 3 7 150 D aC b0 σ0 (rxI "java/lang/IllegalStateException" v) τ 43 [(0, .ref (x0)), (1, .int (x1)), (2, .int (x2))] [] σ := by
  intro n
  induction n with
  | zero => intro x0 x1 x2 σ hm; unfold L_X10_open_43 at hm; cases hm
  | succ n ih =>
    intro x0 x1 x2 σ hm
    unfold L_X10_open_43 at hm
    obtain ⟨rc43, hrc⟩ : ∃ z, z = L_X10_open_43 b0 fu  n := ⟨_, rfl⟩
    replace hm := ltb_e hm hrc
    rw [← hrc] at ih
    have hrc43 := ih
    clear ih hrc
    refine zx_iload_n C dX10_open_43 2 rfl ?_
    refine zx_bipush (v := 16) C dX10_open_44 (by decide) ?_
    refine zx_icmp_ge C 73 dX10_open_46 (by decide) (fun c32 => ?_) (fun c32 => ?_)
    · replace hm := ip_e hm c32
      refine zx_bipush (v := (-10)) C dX10_open_73 (by decide) ?_
      obtain ⟨rfl, rfl⟩ := ret_e hm
      exact zx_iret C rfl rfl rfl dX10_open_75
    · replace hm := in_e hm c32
      refine zx_aload_n C dX10_open_49 0 rfl ?_
      obtain ⟨k33, i34, hm⟩ := ckO_e hm
      obtain ⟨a35, h36, hm⟩ := osm_e hm
      refine zx_get (j := 9) C tC_10 k33 i34 ⟨by decide, Or.inl W_2_222⟩ dX10_open_50 (.ref a35) (rf_s h36) ?_
      refine zx_iload_n C dX10_open_53 2 rfl ?_
      obtain ⟨n39, k37, i38, hm⟩ := ckR_e hm
      obtain ⟨h40, hm⟩ := ckI_e hm
      refine zx_iald C k37 i38 h40 dX10_open_54 ?_
      refine zx_if_ge C 67 dX10_open_55 (by decide) (fun c41 => ?_) (fun c41 => ?_)
      · replace hm := ip_e hm c41
        obtain ⟨y42, hy42⟩ : ∃ z : Int32, z = (x2) + Int32.ofInt 1 := ⟨_, rfl⟩
        replace hm := ltb_e hm hy42
        refine zx_iinc C [(2, .int (y42)), (0, .ref (x0)), (1, .int (x1))] dX10_open_67 2 rfl hy42.symm (by decide) rfl ?_
        refine zx_goto C 43 dX10_open_70 (by decide) ?_
        exact zx_lv [1, 2, 0] [(0, .ref (x0)), (1, .int (x1)), (2, .int (y42))] rfl (hrc43 _ _ _ _ hm)
      · replace hm := in_e hm c41
        refine zx_aload_n C dX10_open_58 0 rfl ?_
        obtain ⟨a43, h44, hm⟩ := osm_e hm
        refine zx_get (j := 9) C tC_10 k33 i34 ⟨by decide, Or.inl W_2_222⟩ dX10_open_59 (.ref a43) (rf_s h44) ?_
        refine zx_iload_n C dX10_open_62 2 rfl ?_
        refine zx_iload_n C dX10_open_63 1 rfl ?_
        obtain ⟨n47, k45, i46, hm⟩ := ckR_e hm
        obtain ⟨h48, hm⟩ := ckI_e hm
        refine zx_iast C k45 i46 h48 dX10_open_64 ?_
        refine zx_iload_n C dX10_open_65 2 rfl ?_
        obtain ⟨rfl, rfl⟩ := ret_e hm
        exact zx_iret C rfl rfl rfl dX10_open_66
set_option maxRecDepth 100000 in
set_option maxHeartbeats 1000000 in
theorem c_X10_open {l : Launch} {D : va_G} {aC : Nat → ClassId} {b0 fu : Nat} {a0 : Nat} {σ τ : tM} {v : (Int32) ⊕ Unit} (hm : m_X10_open b0 fu a0 σ = some (v, τ)) : tMt l D aC b0 yX10_open (Cond.code yX10_open cX10_open 3 (some .int)) 7 150 [.ref (a0)] σ (rxI "java/lang/IllegalStateException" v) τ := by
  unfold m_X10_open at hm
  obtain ⟨hg, hm⟩ := grw_e hm
  refine tMt_of (n := 0) rfl (Nat.le_of_ble_eq_true rfl) hg ?_
  intro p e s m below meth c C htab hin
  refine zx_lv [0] [(0, .ref (a0))] rfl ?_
  refine zx_aload_n C dX10_open_0 0 rfl ?_
  obtain ⟨k1, i2, hm⟩ := ckO_e hm
  obtain ⟨a3, h4, hm⟩ := osm_e hm
  refine zx_get (j := 0) C tC_10 k1 i2 ⟨by decide, Or.inl W_2_213⟩ dX10_open_1 (.ref a3) (rf_s h4) ?_
  obtain ⟨k5, i6, hm⟩ := ckO_e hm
  rcases clx_e hm with ⟨v7, ρ8, h9, hm⟩ | ⟨ρ8, h9, hm⟩
  · refine zx_callV (σ := σ) C [] tC_0 k5 i6 Y_X0_demandPower W_5_130 W_3_113 W_3_114 (c_X0_demandPower h9) (by decide) (by decide) rfl (Nat.le_of_ble_eq_true rfl) dX10_open_4 rfl ?_
    refine zx_aload_n C dX10_open_7 0 rfl ?_
    obtain ⟨k10, i11, hm⟩ := ckO_e hm
    obtain ⟨a12, h13, hm⟩ := osm_e hm
    refine zx_get (j := 5) C tC_10 k10 i11 ⟨by decide, Or.inl W_2_218⟩ dX10_open_8 (.ref a12) (rf_s h13) ?_
    refine zx_aload_n C dX10_open_11 0 rfl ?_
    obtain ⟨a14, h15, hm⟩ := osm_e hm
    refine zx_get (j := 7) C tC_10 k10 i11 ⟨by decide, Or.inl W_2_220⟩ dX10_open_12 (.ref a14) (rf_s h15) ?_
    refine zx_iconst (v := 1) C dX10_open_15 (by decide) ?_
    obtain ⟨k16, i17, hm⟩ := ckO_e hm
    obtain ⟨v18, ρ19, h20, hm⟩ := cll_e hm
    refine zx_callV (σ := ρ8) C [.ref (a14), .int (1)] tC_9 k16 i17 Y_X9_walkWhole W_5_10 W_5_11 W_5_12 (c_X9_walkWhole h20) (by decide) (by decide) rfl (Nat.le_of_ble_eq_true rfl) dX10_open_16 rfl ?_
    refine zx_istore_n C [(1, .int (v18)), (0, .ref (a0))] dX10_open_19 rfl (by decide) rfl ?_
    refine zx_iload_n C dX10_open_20 0 rfl ?_
    refine zx_if_ge C 26 dX10_open_21 (by decide) (fun c21 => ?_) (fun c21 => ?_)
    · replace hm := ip_e hm c21
      refine zx_aload_n C dX10_open_26 1 rfl ?_
      obtain ⟨k22, i23, hm⟩ := ckO_e hm
      obtain ⟨a24, h25, hm⟩ := osm_e hm
      refine zx_get (j := 2) C tC_10 k22 i23 ⟨by decide, Or.inl W_2_215⟩ dX10_open_27 (.ref a24) (rf_s h25) ?_
      refine zx_iload_n C dX10_open_30 0 rfl ?_
      obtain ⟨k26, i27, hm⟩ := ckO_e hm
      obtain ⟨v28, ρ29, h30, hm⟩ := cll_e hm
      refine zx_callV (σ := ρ19) C [.int (v18)] tC_8 k26 i27 Y_X8_kind W_5_14 W_3_80 W_3_81 (c_X8_kind h30) (by decide) (by decide) rfl (Nat.le_of_ble_eq_true rfl) dX10_open_31 rfl ?_
      refine zx_iconst (v := 2) C dX10_open_34 (by decide) ?_
      refine zx_icmp_ne C 41 dX10_open_35 (by decide) (fun c31 => ?_) (fun c31 => ?_)
      · replace hm := in_e hm c31
        refine zx_iconst (v := 0) C dX10_open_41 (by decide) ?_
        refine zx_istore_n C [(2, .int (0)), (1, .int (v18)), (0, .ref (a0))] dX10_open_42 rfl (by decide) rfl ?_
        exact zx_lv [2, 1, 0] [(0, .ref (a0)), (1, .int (v18)), (2, .int (0))] rfl (l_X10_open_43 C htab hin  _ _ _ _ _ hm)
      · replace hm := ip_e hm c31
        refine zx_bipush (v := (-4)) C dX10_open_38 (by decide) ?_
        obtain ⟨rfl, rfl⟩ := ret_e hm
        exact zx_iret C rfl rfl rfl dX10_open_40
    · replace hm := in_e hm c21
      refine zx_iload_n C dX10_open_24 0 rfl ?_
      obtain ⟨rfl, rfl⟩ := ret_e hm
      exact zx_iret C rfl rfl rfl dX10_open_25
  · cases hm
    exact zx_outV (σ := σ) C htab [] tC_0 k5 i6 Y_X0_demandPower W_5_130 W_3_113 W_3_114 (c_X0_demandPower h9) rfl (by decide) (by decide) rfl (Nat.le_of_ble_eq_true rfl) dX10_open_4 rfl
abbrev cX10_makeReady : ByteArray := prog_1_method_25_code
def yX10_makeReady : MethodName := ⟨"SyncTree", "makeReady", "(III)I"⟩
theorem Y_X10_makeReady : tY yX10_makeReady cX10_makeReady 7 (some .int) 3 := ⟨W_5_152, W_1_1, ⟨by decide +kernel, by decide +kernel⟩, by decide +kernel⟩
theorem dX10_makeReady_0 : decode cX10_makeReady 0 = .ok (.iload_n 1, 1) := by decide +kernel
theorem dX10_makeReady_1 : decode cX10_makeReady 1 = .ok (.ifCond .lt 11, 3) := by decide +kernel
theorem dX10_makeReady_4 : decode cX10_makeReady 4 = .ok (.iload_n 2, 1) := by decide +kernel
theorem dX10_makeReady_5 : decode cX10_makeReady 5 = .ok (.ifCond .lt 7, 3) := by decide +kernel
theorem dX10_makeReady_8 : decode cX10_makeReady 8 = .ok (.iload_n 3, 1) := by decide +kernel
theorem dX10_makeReady_9 : decode cX10_makeReady 9 = .ok (.ifCond .ge 6, 3) := by decide +kernel
theorem dX10_makeReady_12 : decode cX10_makeReady 12 = .ok (.bipush (-9), 2) := by decide +kernel
theorem dX10_makeReady_14 : decode cX10_makeReady 14 = .ok (.ireturn, 1) := by decide +kernel
theorem dX10_makeReady_15 : decode cX10_makeReady 15 = .ok (.iload_n 2, 1) := by decide +kernel
theorem dX10_makeReady_16 : decode cX10_makeReady 16 = .ok (.i2l, 1) := by decide +kernel
theorem dX10_makeReady_17 : decode cX10_makeReady 17 = .ok (.iload_n 3, 1) := by decide +kernel
theorem dX10_makeReady_18 : decode cX10_makeReady 18 = .ok (.i2l, 1) := by decide +kernel
theorem dX10_makeReady_19 : decode cX10_makeReady 19 = .ok (.ladd, 1) := by decide +kernel
theorem dX10_makeReady_20 : decode cX10_makeReady 20 = .ok (.ldc2_w 237, 3) := by decide +kernel
theorem dX10_makeReady_23 : decode cX10_makeReady 23 = .ok (.lcmp, 1) := by decide +kernel
theorem dX10_makeReady_24 : decode cX10_makeReady 24 = .ok (.ifCond .le 6, 3) := by decide +kernel
theorem dX10_makeReady_27 : decode cX10_makeReady 27 = .ok (.bipush (-7), 2) := by decide +kernel
theorem dX10_makeReady_29 : decode cX10_makeReady 29 = .ok (.ireturn, 1) := by decide +kernel
theorem dX10_makeReady_30 : decode cX10_makeReady 30 = .ok (.iload_n 3, 1) := by decide +kernel
theorem dX10_makeReady_31 : decode cX10_makeReady 31 = .ok (.ifCond .ne 5, 3) := by decide +kernel
theorem dX10_makeReady_34 : decode cX10_makeReady 34 = .ok (.iconst 0, 1) := by decide +kernel
theorem dX10_makeReady_35 : decode cX10_makeReady 35 = .ok (.ireturn, 1) := by decide +kernel
theorem dX10_makeReady_36 : decode cX10_makeReady 36 = .ok (.iload_n 2, 1) := by decide +kernel
theorem dX10_makeReady_37 : decode cX10_makeReady 37 = .ok (.sipush 256, 3) := by decide +kernel
theorem dX10_makeReady_40 : decode cX10_makeReady 40 = .ok (.idiv, 1) := by decide +kernel
theorem dX10_makeReady_41 : decode cX10_makeReady 41 = .ok (.istore 4, 2) := by decide +kernel
theorem dX10_makeReady_43 : decode cX10_makeReady 43 = .ok (.iload_n 2, 1) := by decide +kernel
theorem dX10_makeReady_44 : decode cX10_makeReady 44 = .ok (.iload_n 3, 1) := by decide +kernel
theorem dX10_makeReady_45 : decode cX10_makeReady 45 = .ok (.iadd, 1) := by decide +kernel
theorem dX10_makeReady_46 : decode cX10_makeReady 46 = .ok (.iconst 1, 1) := by decide +kernel
theorem dX10_makeReady_47 : decode cX10_makeReady 47 = .ok (.isub, 1) := by decide +kernel
theorem dX10_makeReady_48 : decode cX10_makeReady 48 = .ok (.sipush 256, 3) := by decide +kernel
theorem dX10_makeReady_51 : decode cX10_makeReady 51 = .ok (.idiv, 1) := by decide +kernel
theorem dX10_makeReady_52 : decode cX10_makeReady 52 = .ok (.istore 5, 2) := by decide +kernel
theorem dX10_makeReady_54 : decode cX10_makeReady 54 = .ok (.aload_n 0, 1) := by decide +kernel
theorem dX10_makeReady_55 : decode cX10_makeReady 55 = .ok (.getfield 28, 3) := by decide +kernel
theorem dX10_makeReady_58 : decode cX10_makeReady 58 = .ok (.iload_n 1, 1) := by decide +kernel
theorem dX10_makeReady_59 : decode cX10_makeReady 59 = .ok (.iload 4, 2) := by decide +kernel
theorem dX10_makeReady_61 : decode cX10_makeReady 61 = .ok (.iload 5, 2) := by decide +kernel
theorem dX10_makeReady_63 : decode cX10_makeReady 63 = .ok (.invokevirtual 239, 3) := by decide +kernel
theorem dX10_makeReady_66 : decode cX10_makeReady 66 = .ok (.aload_n 0, 1) := by decide +kernel
theorem dX10_makeReady_67 : decode cX10_makeReady 67 = .ok (.getfield 19, 3) := by decide +kernel
theorem dX10_makeReady_70 : decode cX10_makeReady 70 = .ok (.getfield 242, 3) := by decide +kernel
theorem dX10_makeReady_73 : decode cX10_makeReady 73 = .ok (.if_icmp .le 6, 3) := by decide +kernel
theorem dX10_makeReady_76 : decode cX10_makeReady 76 = .ok (.bipush (-6), 2) := by decide +kernel
theorem dX10_makeReady_78 : decode cX10_makeReady 78 = .ok (.ireturn, 1) := by decide +kernel
theorem dX10_makeReady_79 : decode cX10_makeReady 79 = .ok (.iload_n 2, 1) := by decide +kernel
theorem dX10_makeReady_80 : decode cX10_makeReady 80 = .ok (.iload_n 3, 1) := by decide +kernel
theorem dX10_makeReady_81 : decode cX10_makeReady 81 = .ok (.iadd, 1) := by decide +kernel
theorem dX10_makeReady_82 : decode cX10_makeReady 82 = .ok (.aload_n 0, 1) := by decide +kernel
theorem dX10_makeReady_83 : decode cX10_makeReady 83 = .ok (.getfield 28, 3) := by decide +kernel
theorem dX10_makeReady_86 : decode cX10_makeReady 86 = .ok (.iload_n 1, 1) := by decide +kernel
theorem dX10_makeReady_87 : decode cX10_makeReady 87 = .ok (.invokevirtual 245, 3) := by decide +kernel
theorem dX10_makeReady_90 : decode cX10_makeReady 90 = .ok (.if_icmp .le 14, 3) := by decide +kernel
theorem dX10_makeReady_93 : decode cX10_makeReady 93 = .ok (.aload_n 0, 1) := by decide +kernel
theorem dX10_makeReady_94 : decode cX10_makeReady 94 = .ok (.getfield 28, 3) := by decide +kernel
theorem dX10_makeReady_97 : decode cX10_makeReady 97 = .ok (.iload_n 1, 1) := by decide +kernel
theorem dX10_makeReady_98 : decode cX10_makeReady 98 = .ok (.iload_n 2, 1) := by decide +kernel
theorem dX10_makeReady_99 : decode cX10_makeReady 99 = .ok (.iload_n 3, 1) := by decide +kernel
theorem dX10_makeReady_100 : decode cX10_makeReady 100 = .ok (.iadd, 1) := by decide +kernel
theorem dX10_makeReady_101 : decode cX10_makeReady 101 = .ok (.invokevirtual 248, 3) := by decide +kernel
theorem dX10_makeReady_104 : decode cX10_makeReady 104 = .ok (.iload 4, 2) := by decide +kernel
theorem dX10_makeReady_106 : decode cX10_makeReady 106 = .ok (.istore 6, 2) := by decide +kernel
theorem dX10_makeReady_108 : decode cX10_makeReady 108 = .ok (.iload 6, 2) := by decide +kernel
theorem dX10_makeReady_110 : decode cX10_makeReady 110 = .ok (.iload 5, 2) := by decide +kernel
theorem dX10_makeReady_112 : decode cX10_makeReady 112 = .ok (.if_icmp .gt 19, 3) := by decide +kernel
theorem dX10_makeReady_115 : decode cX10_makeReady 115 = .ok (.aload_n 0, 1) := by decide +kernel
theorem dX10_makeReady_116 : decode cX10_makeReady 116 = .ok (.getfield 28, 3) := by decide +kernel
theorem dX10_makeReady_119 : decode cX10_makeReady 119 = .ok (.iload_n 1, 1) := by decide +kernel
theorem dX10_makeReady_120 : decode cX10_makeReady 120 = .ok (.iload 6, 2) := by decide +kernel
theorem dX10_makeReady_122 : decode cX10_makeReady 122 = .ok (.invokevirtual 251, 3) := by decide +kernel
theorem dX10_makeReady_125 : decode cX10_makeReady 125 = .ok (.iinc 6 1, 3) := by decide +kernel
theorem dX10_makeReady_128 : decode cX10_makeReady 128 = .ok (.goto (-20), 3) := by decide +kernel
theorem dX10_makeReady_131 : decode cX10_makeReady 131 = .ok (.iload_n 3, 1) := by decide +kernel
theorem dX10_makeReady_132 : decode cX10_makeReady 132 = .ok (.ireturn, 1) := by decide +kernel
set_option maxRecDepth 100000 in
set_option maxHeartbeats 1000000 in
theorem j_X10_makeReady_12 {p : Program} {l : Launch} {e : Env} {s : State} {m : MethodId} {args : Array Value} {below : List Frame} {meth : Method} {c : Code} {D : va_G} {aC : Nat → ClassId} {b0 fu : Nat} {σ0 τ : tM} {v : Int32}  (C : tCx p l s m args meth c yX10_makeReady.cls cX10_makeReady 7 (some .int) D aC b0 σ0) (htab : ∀ x ∈ c.exceptionTable.toList, False) (hin : meth.name = yX10_makeReady.name)   {σ : tM} (hm : J_X10_makeReady_12 b0 fu   σ = some (v, τ)) : tX p l e s m args below meth c 7 5 121 D aC b0 σ0 (.inl (some (.int v))) τ 12 [] [] σ := by
  unfold J_X10_makeReady_12 at hm
  refine zx_bipush (v := (-9)) C dX10_makeReady_12 (by decide) ?_
  obtain ⟨rfl, rfl⟩ := ret_e hm
  exact zx_iret C rfl rfl rfl dX10_makeReady_14
set_option maxRecDepth 100000 in
set_option maxHeartbeats 1000000 in
theorem l_X10_makeReady_108 {p : Program} {l : Launch} {e : Env} {s : State} {m : MethodId} {args : Array Value} {below : List Frame} {meth : Method} {c : Code} {D : va_G} {aC : Nat → ClassId} {b0 fu : Nat} {σ0 τ : tM} {v : Int32}  (C : tCx p l s m args meth c yX10_makeReady.cls cX10_makeReady 7 (some .int) D aC b0 σ0) (htab : ∀ x ∈ c.exceptionTable.toList, False) (hin : meth.name = yX10_makeReady.name)  : ∀ (n : Nat) (x0 : Nat) (x1 : Int32) (x3 : Int32) (x5 : Int32) (x6 : Int32) (σ : tM), L_X10_makeReady_108 b0 fu  n x0 x1 x3 x5 x6 σ = some (v, τ) → tX p l e s m args below meth c 7 5 121 D aC b0 σ0 (.inl (some (.int v))) τ 108 [(0, .ref (x0)), (1, .int (x1)), (3, .int (x3)), (5, .int (x5)), (6, .int (x6))] [] σ := by
  intro n
  induction n with
  | zero => intro x0 x1 x3 x5 x6 σ hm; unfold L_X10_makeReady_108 at hm; cases hm
  | succ n ih =>
    intro x0 x1 x3 x5 x6 σ hm
    unfold L_X10_makeReady_108 at hm
    obtain ⟨rc108, hrc⟩ : ∃ z, z = L_X10_makeReady_108 b0 fu  n := ⟨_, rfl⟩
    replace hm := ltb_e hm hrc
    rw [← hrc] at ih
    have hrc108 := ih
    clear ih hrc
    refine zx_iload C dX10_makeReady_108 4 rfl ?_
    refine zx_iload C dX10_makeReady_110 3 rfl ?_
    refine zx_icmp_gt C 131 dX10_makeReady_112 (by decide) (fun c32 => ?_) (fun c32 => ?_)
    · replace hm := ip_e hm c32
      refine zx_iload_n C dX10_makeReady_131 2 rfl ?_
      obtain ⟨rfl, rfl⟩ := ret_e hm
      exact zx_iret C rfl rfl rfl dX10_makeReady_132
    · replace hm := in_e hm c32
      refine zx_aload_n C dX10_makeReady_115 0 rfl ?_
      obtain ⟨k33, i34, hm⟩ := ckO_e hm
      obtain ⟨a35, h36, hm⟩ := osm_e hm
      refine zx_get (j := 2) C tC_10 k33 i34 ⟨by decide, Or.inl W_2_215⟩ dX10_makeReady_116 (.ref a35) (rf_s h36) ?_
      refine zx_iload_n C dX10_makeReady_119 1 rfl ?_
      refine zx_iload C dX10_makeReady_120 4 rfl ?_
      obtain ⟨k37, i38, hm⟩ := ckO_e hm
      obtain ⟨v39, ρ40, h41, hm⟩ := cll_e hm
      refine zx_callV (σ := σ) C [.int (x1), .int (x6)] tC_8 k37 i38 Y_X8_obtain W_5_157 W_4_200 W_4_201 (c_X8_obtain h41) (by decide) (by decide) rfl (Nat.le_of_ble_eq_true rfl) dX10_makeReady_122 rfl ?_
      obtain ⟨y42, hy42⟩ : ∃ z : Int32, z = (x6) + Int32.ofInt 1 := ⟨_, rfl⟩
      replace hm := ltb_e hm hy42
      refine zx_iinc C [(6, .int (y42)), (0, .ref (x0)), (1, .int (x1)), (3, .int (x3)), (5, .int (x5))] dX10_makeReady_125 4 rfl hy42.symm (by decide) rfl ?_
      refine zx_goto C 108 dX10_makeReady_128 (by decide) ?_
      exact zx_lv [1, 2, 3, 4, 0] [(0, .ref (x0)), (1, .int (x1)), (3, .int (x3)), (5, .int (x5)), (6, .int (y42))] rfl (hrc108 _ _ _ _ _ _ hm)
set_option maxRecDepth 100000 in
set_option maxHeartbeats 1000000 in
theorem j_X10_makeReady_104 {p : Program} {l : Launch} {e : Env} {s : State} {m : MethodId} {args : Array Value} {below : List Frame} {meth : Method} {c : Code} {D : va_G} {aC : Nat → ClassId} {b0 fu : Nat} {σ0 τ : tM} {v : Int32}  (C : tCx p l s m args meth c yX10_makeReady.cls cX10_makeReady 7 (some .int) D aC b0 σ0) (htab : ∀ x ∈ c.exceptionTable.toList, False) (hin : meth.name = yX10_makeReady.name)  {x0 : Nat} {x1 : Int32} {x3 : Int32} {x4 : Int32} {x5 : Int32} {σ : tM} (hm : J_X10_makeReady_104 b0 fu  x0 x1 x3 x4 x5 σ = some (v, τ)) : tX p l e s m args below meth c 7 5 121 D aC b0 σ0 (.inl (some (.int v))) τ 104 [(0, .ref (x0)), (1, .int (x1)), (3, .int (x3)), (4, .int (x4)), (5, .int (x5))] [] σ := by
  unfold J_X10_makeReady_104 at hm
  refine zx_iload C dX10_makeReady_104 3 rfl ?_
  refine zx_istore C [(6, .int (x4)), (0, .ref (x0)), (1, .int (x1)), (3, .int (x3)), (4, .int (x4)), (5, .int (x5))] dX10_makeReady_106 (by decide) rfl ?_
  exact zx_lv [1, 2, 3, 5, 0] [(0, .ref (x0)), (1, .int (x1)), (3, .int (x3)), (5, .int (x5)), (6, .int (x4))] rfl (l_X10_makeReady_108 C htab hin  _ _ _ _ _ _ _ hm)
set_option maxRecDepth 100000 in
set_option maxHeartbeats 1000000 in
theorem c_X10_makeReady {l : Launch} {D : va_G} {aC : Nat → ClassId} {b0 fu : Nat} {a0 : Nat} {p0 : Int32} {p1 : Int32} {p2 : Int32} {σ τ : tM} {v : Int32} (hm : m_X10_makeReady b0 fu a0 p0 p1 p2 σ = some (v, τ)) : tMt l D aC b0 yX10_makeReady (Cond.code yX10_makeReady cX10_makeReady 7 (some .int)) 5 121 [.ref (a0), .int (p0), .int (p1), .int (p2)] σ (.inl (some (.int v))) τ := by
  unfold m_X10_makeReady at hm
  obtain ⟨hg, hm⟩ := grw_e hm
  refine tMt_of (n := 0) rfl (Nat.le_of_ble_eq_true rfl) hg ?_
  intro p e s m below meth c C htab hin
  refine zx_lv [0, 1, 2, 3] [(0, .ref (a0)), (1, .int (p0)), (2, .int (p1)), (3, .int (p2))] rfl ?_
  refine zx_iload_n C dX10_makeReady_0 1 rfl ?_
  refine zx_if_lt C 12 dX10_makeReady_1 (by decide) (fun c1 => ?_) (fun c1 => ?_)
  · replace hm := ip_e hm c1
    exact zx_lv [] [] rfl (j_X10_makeReady_12 C htab hin    hm)
  · replace hm := in_e hm c1
    refine zx_iload_n C dX10_makeReady_4 2 rfl ?_
    refine zx_if_lt C 12 dX10_makeReady_5 (by decide) (fun c2 => ?_) (fun c2 => ?_)
    · replace hm := ip_e hm c2
      exact zx_lv [] [] rfl (j_X10_makeReady_12 C htab hin    hm)
    · replace hm := in_e hm c2
      refine zx_iload_n C dX10_makeReady_8 3 rfl ?_
      refine zx_if_ge C 15 dX10_makeReady_9 (by decide) (fun c3 => ?_) (fun c3 => ?_)
      · replace hm := ip_e hm c3
        refine zx_iload_n C dX10_makeReady_15 2 rfl ?_
        refine zx_i2l C dX10_makeReady_16 ?_
        refine zx_iload_n C dX10_makeReady_17 3 rfl ?_
        refine zx_i2l C dX10_makeReady_18 ?_
        refine zx_ladd C dX10_makeReady_19 ?_
        refine zx_ldc2 (v := 272384) C W_5_153 dX10_makeReady_20 ?_
        refine zx_lcmp C dX10_makeReady_23 ?_
        refine zx_if_le C 30 dX10_makeReady_24 (by decide) (fun c4 => ?_) (fun c4 => ?_)
        · replace hm := ip_e hm c4
          refine zx_iload_n C dX10_makeReady_30 3 rfl ?_
          refine zx_if_ne C 36 dX10_makeReady_31 (by decide) (fun c5 => ?_) (fun c5 => ?_)
          · replace hm := in_e hm c5
            refine zx_iload_n C dX10_makeReady_36 2 rfl ?_
            refine zx_sipush (v := 256) C dX10_makeReady_37 (by decide) ?_
            refine zx_idiv C dX10_makeReady_40 (by decide) ?_
            refine zx_topi (fun y6 hy6 => ?_)
            replace hm := ltb_e hm hy6
            refine zx_istore C [(4, .int (y6)), (0, .ref (a0)), (1, .int (p0)), (2, .int (p1)), (3, .int (p2))] dX10_makeReady_41 (by decide) rfl ?_
            refine zx_iload_n C dX10_makeReady_43 3 rfl ?_
            refine zx_iload_n C dX10_makeReady_44 4 rfl ?_
            refine zx_iadd C dX10_makeReady_45 ?_
            refine zx_iconst (v := 1) C dX10_makeReady_46 (by decide) ?_
            refine zx_isub C dX10_makeReady_47 ?_
            refine zx_sipush (v := 256) C dX10_makeReady_48 (by decide) ?_
            refine zx_idiv C dX10_makeReady_51 (by decide) ?_
            refine zx_topi (fun y7 hy7 => ?_)
            replace hm := ltb_e hm hy7
            refine zx_istore C [(5, .int (y7)), (4, .int (y6)), (0, .ref (a0)), (1, .int (p0)), (2, .int (p1)), (3, .int (p2))] dX10_makeReady_52 (by decide) rfl ?_
            refine zx_aload_n C dX10_makeReady_54 2 rfl ?_
            obtain ⟨k8, i9, hm⟩ := ckO_e hm
            obtain ⟨a10, h11, hm⟩ := osm_e hm
            refine zx_get (j := 2) C tC_10 k8 i9 ⟨by decide, Or.inl W_2_215⟩ dX10_makeReady_55 (.ref a10) (rf_s h11) ?_
            refine zx_iload_n C dX10_makeReady_58 3 rfl ?_
            refine zx_iload C dX10_makeReady_59 1 rfl ?_
            refine zx_iload C dX10_makeReady_61 0 rfl ?_
            obtain ⟨k12, i13, hm⟩ := ckO_e hm
            obtain ⟨v14, ρ15, h16, hm⟩ := cll_e hm
            refine zx_callV (σ := σ) C [.int (p0), .int (y6), .int (y7)] tC_8 k12 i13 Y_X8_needs W_5_154 W_4_171 W_4_172 (c_X8_needs h16) (by decide) (by decide) rfl (Nat.le_of_ble_eq_true rfl) dX10_makeReady_63 rfl ?_
            refine zx_aload_n C dX10_makeReady_66 2 rfl ?_
            obtain ⟨k17, i18, hm⟩ := ckO_e hm
            obtain ⟨a19, h20, hm⟩ := osm_e hm
            refine zx_get (j := 1) C tC_10 k17 i18 ⟨by decide, Or.inl W_2_214⟩ dX10_makeReady_67 (.ref a19) (rf_s h20) ?_
            obtain ⟨k21, i22, hm⟩ := ckO_e hm
            refine zx_get (j := 9) C tC_5 k21 i22 ⟨by decide, Or.inr ⟨_, W_1_108⟩⟩ dX10_makeReady_70 (.int (tI (ρ15) (a19) 9)) rfl ?_
            refine zx_icmp_le C 79 dX10_makeReady_73 (by decide) (fun c23 => ?_) (fun c23 => ?_)
            · replace hm := ip_e hm c23
              refine zx_iload_n C dX10_makeReady_79 4 rfl ?_
              refine zx_iload_n C dX10_makeReady_80 5 rfl ?_
              refine zx_iadd C dX10_makeReady_81 ?_
              refine zx_aload_n C dX10_makeReady_82 2 rfl ?_
              obtain ⟨a24, h25, hm⟩ := osm_e hm
              refine zx_get (j := 2) C tC_10 k17 i18 ⟨by decide, Or.inl W_2_215⟩ dX10_makeReady_83 (.ref a24) (rf_s h25) ?_
              refine zx_iload_n C dX10_makeReady_86 3 rfl ?_
              obtain ⟨k26, i27, hm⟩ := ckO_e hm
              obtain ⟨v28, ρ29, h30, hm⟩ := cll_e hm
              refine zx_callV (σ := ρ15) C [.int (p0)] tC_8 k26 i27 Y_X8_size W_5_155 W_4_133 W_4_134 (c_X8_size h30) (by decide) (by decide) rfl (Nat.le_of_ble_eq_true rfl) dX10_makeReady_87 rfl ?_
              refine zx_icmp_le C 104 dX10_makeReady_90 (by decide) (fun c31 => ?_) (fun c31 => ?_)
              · replace hm := ip_e hm c31
                exact zx_lv [2, 3, 5, 1, 0] [(0, .ref (a0)), (1, .int (p0)), (3, .int (p2)), (4, .int (y6)), (5, .int (y7))] rfl (j_X10_makeReady_104 C htab hin    hm)
              · replace hm := in_e hm c31
                refine zx_aload_n C dX10_makeReady_93 2 rfl ?_
                obtain ⟨k43, i44, hm⟩ := ckO_e hm
                obtain ⟨a45, h46, hm⟩ := osm_e hm
                refine zx_get (j := 2) C tC_10 k43 i44 ⟨by decide, Or.inl W_2_215⟩ dX10_makeReady_94 (.ref a45) (rf_s h46) ?_
                refine zx_iload_n C dX10_makeReady_97 3 rfl ?_
                refine zx_iload_n C dX10_makeReady_98 4 rfl ?_
                refine zx_iload_n C dX10_makeReady_99 5 rfl ?_
                refine zx_iadd C dX10_makeReady_100 ?_
                obtain ⟨k47, i48, hm⟩ := ckO_e hm
                obtain ⟨v49, ρ50, h51, hm⟩ := cll_e hm
                refine zx_callV (σ := ρ29) C [.int (p0), .int ((p1) + (p2))] tC_8 k47 i48 Y_X8_resize W_5_156 W_5_67 W_5_68 (c_X8_resize h51) (by decide) (by decide) rfl (Nat.le_of_ble_eq_true rfl) dX10_makeReady_101 rfl ?_
                exact zx_lv [2, 3, 5, 1, 0] [(0, .ref (a0)), (1, .int (p0)), (3, .int (p2)), (4, .int (y6)), (5, .int (y7))] rfl (j_X10_makeReady_104 C htab hin    hm)
            · replace hm := in_e hm c23
              refine zx_bipush (v := (-6)) C dX10_makeReady_76 (by decide) ?_
              obtain ⟨rfl, rfl⟩ := ret_e hm
              exact zx_iret C rfl rfl rfl dX10_makeReady_78
          · replace hm := ip_e hm c5
            refine zx_iconst (v := 0) C dX10_makeReady_34 (by decide) ?_
            obtain ⟨rfl, rfl⟩ := ret_e hm
            exact zx_iret C rfl rfl rfl dX10_makeReady_35
        · replace hm := in_e hm c4
          refine zx_bipush (v := (-7)) C dX10_makeReady_27 (by decide) ?_
          obtain ⟨rfl, rfl⟩ := ret_e hm
          exact zx_iret C rfl rfl rfl dX10_makeReady_29
      · replace hm := in_e hm c3
        exact zx_lv [] [] rfl (j_X10_makeReady_12 C htab hin    hm)
abbrev cX10_info : ByteArray := prog_1_method_29_code
def yX10_info : MethodName := ⟨"SyncTree", "info", "(IZ)I"⟩
theorem Y_X10_info : tY yX10_info cX10_info 4 (some .int) 2 := ⟨W_5_215, W_1_1, ⟨by decide +kernel, by decide +kernel⟩, by decide +kernel⟩
theorem dX10_info_0 : decode cX10_info 0 = .ok (.aload_n 0, 1) := by decide +kernel
theorem dX10_info_1 : decode cX10_info 1 = .ok (.getfield 12, 3) := by decide +kernel
theorem dX10_info_4 : decode cX10_info 4 = .ok (.invokevirtual 221, 3) := by decide +kernel
theorem dX10_info_7 : decode cX10_info 7 = .ok (.iload_n 1, 1) := by decide +kernel
theorem dX10_info_8 : decode cX10_info 8 = .ok (.ifCond .lt 9, 3) := by decide +kernel
theorem dX10_info_11 : decode cX10_info 11 = .ok (.iload_n 1, 1) := by decide +kernel
theorem dX10_info_12 : decode cX10_info 12 = .ok (.bipush 6, 2) := by decide +kernel
theorem dX10_info_14 : decode cX10_info 14 = .ok (.if_icmp .le 6, 3) := by decide +kernel
theorem dX10_info_17 : decode cX10_info 17 = .ok (.bipush (-9), 2) := by decide +kernel
theorem dX10_info_19 : decode cX10_info 19 = .ok (.ireturn, 1) := by decide +kernel
theorem dX10_info_20 : decode cX10_info 20 = .ok (.aload_n 0, 1) := by decide +kernel
theorem dX10_info_21 : decode cX10_info 21 = .ok (.getfield 55, 3) := by decide +kernel
theorem dX10_info_24 : decode cX10_info 24 = .ok (.aload_n 0, 1) := by decide +kernel
theorem dX10_info_25 : decode cX10_info 25 = .ok (.getfield 69, 3) := by decide +kernel
theorem dX10_info_28 : decode cX10_info 28 = .ok (.iload_n 2, 1) := by decide +kernel
theorem dX10_info_29 : decode cX10_info 29 = .ok (.invokevirtual 164, 3) := by decide +kernel
theorem dX10_info_32 : decode cX10_info 32 = .ok (.istore_n 3, 1) := by decide +kernel
theorem dX10_info_33 : decode cX10_info 33 = .ok (.iload_n 3, 1) := by decide +kernel
theorem dX10_info_34 : decode cX10_info 34 = .ok (.ifCond .ge 7, 3) := by decide +kernel
theorem dX10_info_37 : decode cX10_info 37 = .ok (.iload_n 3, 1) := by decide +kernel
theorem dX10_info_38 : decode cX10_info 38 = .ok (.goto 12, 3) := by decide +kernel
theorem dX10_info_41 : decode cX10_info 41 = .ok (.aload_n 0, 1) := by decide +kernel
theorem dX10_info_42 : decode cX10_info 42 = .ok (.getfield 28, 3) := by decide +kernel
theorem dX10_info_45 : decode cX10_info 45 = .ok (.iload_n 3, 1) := by decide +kernel
theorem dX10_info_46 : decode cX10_info 46 = .ok (.iload_n 1, 1) := by decide +kernel
theorem dX10_info_47 : decode cX10_info 47 = .ok (.invokevirtual 272, 3) := by decide +kernel
theorem dX10_info_50 : decode cX10_info 50 = .ok (.ireturn, 1) := by decide +kernel
set_option maxRecDepth 100000 in
set_option maxHeartbeats 1000000 in
theorem j_X10_info_17 {p : Program} {l : Launch} {e : Env} {s : State} {m : MethodId} {args : Array Value} {below : List Frame} {meth : Method} {c : Code} {D : va_G} {aC : Nat → ClassId} {b0 fu : Nat} {σ0 τ : tM} {v : (Int32) ⊕ Unit}  (C : tCx p l s m args meth c yX10_info.cls cX10_info 4 (some .int) D aC b0 σ0) (htab : ∀ x ∈ c.exceptionTable.toList, False) (hin : meth.name = yX10_info.name)   {σ : tM} (hm : J_X10_info_17 b0 fu   σ = some (v, τ)) : tX p l e s m args below meth c 4 7 150 D aC b0 σ0 (rxI "java/lang/IllegalStateException" v) τ 17 [] [] σ := by
  unfold J_X10_info_17 at hm
  refine zx_bipush (v := (-9)) C dX10_info_17 (by decide) ?_
  obtain ⟨rfl, rfl⟩ := ret_e hm
  exact zx_iret C rfl rfl rfl dX10_info_19
set_option maxRecDepth 100000 in
set_option maxHeartbeats 1000000 in
theorem j_X10_info_50 {p : Program} {l : Launch} {e : Env} {s : State} {m : MethodId} {args : Array Value} {below : List Frame} {meth : Method} {c : Code} {D : va_G} {aC : Nat → ClassId} {b0 fu : Nat} {σ0 τ : tM} {v : (Int32) ⊕ Unit}  (C : tCx p l s m args meth c yX10_info.cls cX10_info 4 (some .int) D aC b0 σ0) (htab : ∀ x ∈ c.exceptionTable.toList, False) (hin : meth.name = yX10_info.name)  {s0 : Int32} {σ : tM} (hm : J_X10_info_50 b0 fu  s0 σ = some (v, τ)) : tX p l e s m args below meth c 4 7 150 D aC b0 σ0 (rxI "java/lang/IllegalStateException" v) τ 50 [] [.int (s0)] σ := by
  unfold J_X10_info_50 at hm
  obtain ⟨rfl, rfl⟩ := ret_e hm
  exact zx_iret C rfl rfl rfl dX10_info_50
set_option maxRecDepth 100000 in
set_option maxHeartbeats 1000000 in
theorem c_X10_info {l : Launch} {D : va_G} {aC : Nat → ClassId} {b0 fu : Nat} {a0 : Nat} {p0 : Int32} {p1 : Int32} {σ τ : tM} {v : (Int32) ⊕ Unit} (hm : m_X10_info b0 fu a0 p0 p1 σ = some (v, τ)) : tMt l D aC b0 yX10_info (Cond.code yX10_info cX10_info 4 (some .int)) 7 150 [.ref (a0), .int (p0), .int (p1)] σ (rxI "java/lang/IllegalStateException" v) τ := by
  unfold m_X10_info at hm
  obtain ⟨hg, hm⟩ := grw_e hm
  refine tMt_of (n := 0) rfl (Nat.le_of_ble_eq_true rfl) hg ?_
  intro p e s m below meth c C htab hin
  refine zx_lv [0, 1, 2] [(0, .ref (a0)), (1, .int (p0)), (2, .int (p1))] rfl ?_
  refine zx_aload_n C dX10_info_0 0 rfl ?_
  obtain ⟨k1, i2, hm⟩ := ckO_e hm
  obtain ⟨a3, h4, hm⟩ := osm_e hm
  refine zx_get (j := 0) C tC_10 k1 i2 ⟨by decide, Or.inl W_2_213⟩ dX10_info_1 (.ref a3) (rf_s h4) ?_
  obtain ⟨k5, i6, hm⟩ := ckO_e hm
  rcases clx_e hm with ⟨v7, ρ8, h9, hm⟩ | ⟨ρ8, h9, hm⟩
  · refine zx_callV (σ := σ) C [] tC_0 k5 i6 Y_X0_demandPower W_5_130 W_3_113 W_3_114 (c_X0_demandPower h9) (by decide) (by decide) rfl (Nat.le_of_ble_eq_true rfl) dX10_info_4 rfl ?_
    refine zx_iload_n C dX10_info_7 1 rfl ?_
    refine zx_if_lt C 17 dX10_info_8 (by decide) (fun c10 => ?_) (fun c10 => ?_)
    · replace hm := ip_e hm c10
      exact zx_lv [] [] rfl (j_X10_info_17 C htab hin    hm)
    · replace hm := in_e hm c10
      refine zx_iload_n C dX10_info_11 1 rfl ?_
      refine zx_bipush (v := 6) C dX10_info_12 (by decide) ?_
      refine zx_icmp_le C 20 dX10_info_14 (by decide) (fun c11 => ?_) (fun c11 => ?_)
      · replace hm := ip_e hm c11
        refine zx_aload_n C dX10_info_20 0 rfl ?_
        obtain ⟨k12, i13, hm⟩ := ckO_e hm
        obtain ⟨a14, h15, hm⟩ := osm_e hm
        refine zx_get (j := 5) C tC_10 k12 i13 ⟨by decide, Or.inl W_2_218⟩ dX10_info_21 (.ref a14) (rf_s h15) ?_
        refine zx_aload_n C dX10_info_24 0 rfl ?_
        obtain ⟨a16, h17, hm⟩ := osm_e hm
        refine zx_get (j := 7) C tC_10 k12 i13 ⟨by decide, Or.inl W_2_220⟩ dX10_info_25 (.ref a16) (rf_s h17) ?_
        refine zx_iload_n C dX10_info_28 2 rfl ?_
        obtain ⟨k18, i19, hm⟩ := ckO_e hm
        obtain ⟨v20, ρ21, h22, hm⟩ := cll_e hm
        refine zx_callV (σ := ρ8) C [.ref (a16), .int (p1)] tC_9 k18 i19 Y_X9_walkWhole W_5_10 W_5_11 W_5_12 (c_X9_walkWhole h22) (by decide) (by decide) rfl (Nat.le_of_ble_eq_true rfl) dX10_info_29 rfl ?_
        refine zx_istore_n C [(3, .int (v20)), (0, .ref (a0)), (1, .int (p0)), (2, .int (p1))] dX10_info_32 rfl (by decide) rfl ?_
        refine zx_iload_n C dX10_info_33 0 rfl ?_
        refine zx_if_ge C 41 dX10_info_34 (by decide) (fun c23 => ?_) (fun c23 => ?_)
        · replace hm := ip_e hm c23
          refine zx_aload_n C dX10_info_41 1 rfl ?_
          obtain ⟨k24, i25, hm⟩ := ckO_e hm
          obtain ⟨a26, h27, hm⟩ := osm_e hm
          refine zx_get (j := 2) C tC_10 k24 i25 ⟨by decide, Or.inl W_2_215⟩ dX10_info_42 (.ref a26) (rf_s h27) ?_
          refine zx_iload_n C dX10_info_45 0 rfl ?_
          refine zx_iload_n C dX10_info_46 2 rfl ?_
          obtain ⟨k28, i29, hm⟩ := ckO_e hm
          obtain ⟨v30, ρ31, h32, hm⟩ := cll_e hm
          refine zx_callV (σ := ρ21) C [.int (v20), .int (p0)] tC_8 k28 i29 Y_X8_describe W_5_216 W_5_217 W_5_218 (c_X8_describe h32) (by decide) (by decide) rfl (Nat.le_of_ble_eq_true rfl) dX10_info_47 rfl ?_
          exact zx_lv [] [] rfl (j_X10_info_50 C htab hin    hm)
        · replace hm := in_e hm c23
          refine zx_iload_n C dX10_info_37 0 rfl ?_
          refine zx_goto C 50 dX10_info_38 (by decide) ?_
          exact zx_lv [] [] rfl (j_X10_info_50 C htab hin    hm)
      · replace hm := in_e hm c11
        exact zx_lv [] [] rfl (j_X10_info_17 C htab hin    hm)
  · cases hm
    exact zx_outV (σ := σ) C htab [] tC_0 k5 i6 Y_X0_demandPower W_5_130 W_3_113 W_3_114 (c_X0_demandPower h9) rfl (by decide) (by decide) rfl (Nat.le_of_ble_eq_true rfl) dX10_info_4 rfl
abbrev cX10_infoOf : ByteArray := prog_1_method_30_code
def yX10_infoOf : MethodName := ⟨"SyncTree", "infoOf", "(II)I"⟩
theorem Y_X10_infoOf : tY yX10_infoOf cX10_infoOf 4 (some .int) 2 := ⟨W_5_236, W_1_1, ⟨by decide +kernel, by decide +kernel⟩, by decide +kernel⟩
theorem dX10_infoOf_0 : decode cX10_infoOf 0 = .ok (.aload_n 0, 1) := by decide +kernel
theorem dX10_infoOf_1 : decode cX10_infoOf 1 = .ok (.getfield 12, 3) := by decide +kernel
theorem dX10_infoOf_4 : decode cX10_infoOf 4 = .ok (.invokevirtual 221, 3) := by decide +kernel
theorem dX10_infoOf_7 : decode cX10_infoOf 7 = .ok (.aload_n 0, 1) := by decide +kernel
theorem dX10_infoOf_8 : decode cX10_infoOf 8 = .ok (.iload_n 1, 1) := by decide +kernel
theorem dX10_infoOf_9 : decode cX10_infoOf 9 = .ok (.invokevirtual 224, 3) := by decide +kernel
theorem dX10_infoOf_12 : decode cX10_infoOf 12 = .ok (.istore_n 3, 1) := by decide +kernel
theorem dX10_infoOf_13 : decode cX10_infoOf 13 = .ok (.iload_n 3, 1) := by decide +kernel
theorem dX10_infoOf_14 : decode cX10_infoOf 14 = .ok (.ifCond .lt 13, 3) := by decide +kernel
theorem dX10_infoOf_17 : decode cX10_infoOf 17 = .ok (.iload_n 2, 1) := by decide +kernel
theorem dX10_infoOf_18 : decode cX10_infoOf 18 = .ok (.ifCond .lt 9, 3) := by decide +kernel
theorem dX10_infoOf_21 : decode cX10_infoOf 21 = .ok (.iload_n 2, 1) := by decide +kernel
theorem dX10_infoOf_22 : decode cX10_infoOf 22 = .ok (.bipush 6, 2) := by decide +kernel
theorem dX10_infoOf_24 : decode cX10_infoOf 24 = .ok (.if_icmp .le 6, 3) := by decide +kernel
theorem dX10_infoOf_27 : decode cX10_infoOf 27 = .ok (.bipush (-9), 2) := by decide +kernel
theorem dX10_infoOf_29 : decode cX10_infoOf 29 = .ok (.ireturn, 1) := by decide +kernel
theorem dX10_infoOf_30 : decode cX10_infoOf 30 = .ok (.aload_n 0, 1) := by decide +kernel
theorem dX10_infoOf_31 : decode cX10_infoOf 31 = .ok (.getfield 28, 3) := by decide +kernel
theorem dX10_infoOf_34 : decode cX10_infoOf 34 = .ok (.iload_n 3, 1) := by decide +kernel
theorem dX10_infoOf_35 : decode cX10_infoOf 35 = .ok (.iload_n 2, 1) := by decide +kernel
theorem dX10_infoOf_36 : decode cX10_infoOf 36 = .ok (.invokevirtual 272, 3) := by decide +kernel
theorem dX10_infoOf_39 : decode cX10_infoOf 39 = .ok (.ireturn, 1) := by decide +kernel
set_option maxRecDepth 100000 in
set_option maxHeartbeats 1000000 in
theorem j_X10_infoOf_27 {p : Program} {l : Launch} {e : Env} {s : State} {m : MethodId} {args : Array Value} {below : List Frame} {meth : Method} {c : Code} {D : va_G} {aC : Nat → ClassId} {b0 fu : Nat} {σ0 τ : tM} {v : (Int32) ⊕ Unit}  (C : tCx p l s m args meth c yX10_infoOf.cls cX10_infoOf 4 (some .int) D aC b0 σ0) (htab : ∀ x ∈ c.exceptionTable.toList, False) (hin : meth.name = yX10_infoOf.name)   {σ : tM} (hm : J_X10_infoOf_27 b0 fu   σ = some (v, τ)) : tX p l e s m args below meth c 4 7 115 D aC b0 σ0 (rxI "java/lang/IllegalStateException" v) τ 27 [] [] σ := by
  unfold J_X10_infoOf_27 at hm
  refine zx_bipush (v := (-9)) C dX10_infoOf_27 (by decide) ?_
  obtain ⟨rfl, rfl⟩ := ret_e hm
  exact zx_iret C rfl rfl rfl dX10_infoOf_29
set_option maxRecDepth 100000 in
set_option maxHeartbeats 1000000 in
theorem c_X10_infoOf {l : Launch} {D : va_G} {aC : Nat → ClassId} {b0 fu : Nat} {a0 : Nat} {p0 : Int32} {p1 : Int32} {σ τ : tM} {v : (Int32) ⊕ Unit} (hm : m_X10_infoOf b0 fu a0 p0 p1 σ = some (v, τ)) : tMt l D aC b0 yX10_infoOf (Cond.code yX10_infoOf cX10_infoOf 4 (some .int)) 7 115 [.ref (a0), .int (p0), .int (p1)] σ (rxI "java/lang/IllegalStateException" v) τ := by
  unfold m_X10_infoOf at hm
  obtain ⟨hg, hm⟩ := grw_e hm
  refine tMt_of (n := 0) rfl (Nat.le_of_ble_eq_true rfl) hg ?_
  intro p e s m below meth c C htab hin
  refine zx_lv [0, 1, 2] [(0, .ref (a0)), (1, .int (p0)), (2, .int (p1))] rfl ?_
  refine zx_aload_n C dX10_infoOf_0 0 rfl ?_
  obtain ⟨k1, i2, hm⟩ := ckO_e hm
  obtain ⟨a3, h4, hm⟩ := osm_e hm
  refine zx_get (j := 0) C tC_10 k1 i2 ⟨by decide, Or.inl W_2_213⟩ dX10_infoOf_1 (.ref a3) (rf_s h4) ?_
  obtain ⟨k5, i6, hm⟩ := ckO_e hm
  rcases clx_e hm with ⟨v7, ρ8, h9, hm⟩ | ⟨ρ8, h9, hm⟩
  · refine zx_callV (σ := σ) C [] tC_0 k5 i6 Y_X0_demandPower W_5_130 W_3_113 W_3_114 (c_X0_demandPower h9) (by decide) (by decide) rfl (Nat.le_of_ble_eq_true rfl) dX10_infoOf_4 rfl ?_
    refine zx_aload_n C dX10_infoOf_7 0 rfl ?_
    refine zx_iload_n C dX10_infoOf_8 1 rfl ?_
    obtain ⟨k10, i11, hm⟩ := ckO_e hm
    obtain ⟨v12, ρ13, h14, hm⟩ := cll_e hm
    refine zx_callV (σ := ρ8) C [.int (p0)] tC_10 k10 i11 Y_X10_fileOf W_5_138 W_5_140 Wp_41 (c_X10_fileOf h14) (by decide) (by decide) rfl (Nat.le_of_ble_eq_true rfl) dX10_infoOf_9 rfl ?_
    refine zx_istore_n C [(3, .int (v12)), (0, .ref (a0)), (1, .int (p0)), (2, .int (p1))] dX10_infoOf_12 rfl (by decide) rfl ?_
    refine zx_iload_n C dX10_infoOf_13 0 rfl ?_
    refine zx_if_lt C 27 dX10_infoOf_14 (by decide) (fun c15 => ?_) (fun c15 => ?_)
    · replace hm := ip_e hm c15
      exact zx_lv [] [] rfl (j_X10_infoOf_27 C htab hin    hm)
    · replace hm := in_e hm c15
      refine zx_iload_n C dX10_infoOf_17 3 rfl ?_
      refine zx_if_lt C 27 dX10_infoOf_18 (by decide) (fun c16 => ?_) (fun c16 => ?_)
      · replace hm := ip_e hm c16
        exact zx_lv [] [] rfl (j_X10_infoOf_27 C htab hin    hm)
      · replace hm := in_e hm c16
        refine zx_iload_n C dX10_infoOf_21 3 rfl ?_
        refine zx_bipush (v := 6) C dX10_infoOf_22 (by decide) ?_
        refine zx_icmp_le C 30 dX10_infoOf_24 (by decide) (fun c17 => ?_) (fun c17 => ?_)
        · replace hm := ip_e hm c17
          refine zx_aload_n C dX10_infoOf_30 1 rfl ?_
          obtain ⟨k18, i19, hm⟩ := ckO_e hm
          obtain ⟨a20, h21, hm⟩ := osm_e hm
          refine zx_get (j := 2) C tC_10 k18 i19 ⟨by decide, Or.inl W_2_215⟩ dX10_infoOf_31 (.ref a20) (rf_s h21) ?_
          refine zx_iload_n C dX10_infoOf_34 0 rfl ?_
          refine zx_iload_n C dX10_infoOf_35 3 rfl ?_
          obtain ⟨k22, i23, hm⟩ := ckO_e hm
          obtain ⟨v24, ρ25, h26, hm⟩ := cll_e hm
          refine zx_callV (σ := ρ13) C [.int (v12), .int (p1)] tC_8 k22 i23 Y_X8_describe W_5_216 W_5_217 W_5_218 (c_X8_describe h26) (by decide) (by decide) rfl (Nat.le_of_ble_eq_true rfl) dX10_infoOf_36 rfl ?_
          obtain ⟨rfl, rfl⟩ := ret_e hm
          exact zx_iret C rfl rfl rfl dX10_infoOf_39
        · replace hm := in_e hm c17
          exact zx_lv [] [] rfl (j_X10_infoOf_27 C htab hin    hm)
  · cases hm
    exact zx_outV (σ := σ) C htab [] tC_0 k5 i6 Y_X0_demandPower W_5_130 W_3_113 W_3_114 (c_X0_demandPower h9) rfl (by decide) (by decide) rfl (Nat.le_of_ble_eq_true rfl) dX10_infoOf_4 rfl
abbrev cX10_entry : ByteArray := prog_1_method_31_code
def yX10_entry : MethodName := ⟨"SyncTree", "entry", "(II)I"⟩
theorem Y_X10_entry : tY yX10_entry cX10_entry 5 (some .int) 2 := ⟨W_6_3, W_1_1, ⟨by decide +kernel, by decide +kernel⟩, by decide +kernel⟩
theorem dX10_entry_0 : decode cX10_entry 0 = .ok (.aload_n 0, 1) := by decide +kernel
theorem dX10_entry_1 : decode cX10_entry 1 = .ok (.getfield 12, 3) := by decide +kernel
theorem dX10_entry_4 : decode cX10_entry 4 = .ok (.invokevirtual 221, 3) := by decide +kernel
theorem dX10_entry_7 : decode cX10_entry 7 = .ok (.iload_n 2, 1) := by decide +kernel
theorem dX10_entry_8 : decode cX10_entry 8 = .ok (.iconst (-1), 1) := by decide +kernel
theorem dX10_entry_9 : decode cX10_entry 9 = .ok (.if_icmp .ge 6, 3) := by decide +kernel
theorem dX10_entry_12 : decode cX10_entry 12 = .ok (.bipush (-9), 2) := by decide +kernel
theorem dX10_entry_14 : decode cX10_entry 14 = .ok (.ireturn, 1) := by decide +kernel
theorem dX10_entry_15 : decode cX10_entry 15 = .ok (.aload_n 0, 1) := by decide +kernel
theorem dX10_entry_16 : decode cX10_entry 16 = .ok (.getfield 55, 3) := by decide +kernel
theorem dX10_entry_19 : decode cX10_entry 19 = .ok (.aload_n 0, 1) := by decide +kernel
theorem dX10_entry_20 : decode cX10_entry 20 = .ok (.getfield 69, 3) := by decide +kernel
theorem dX10_entry_23 : decode cX10_entry 23 = .ok (.iconst 1, 1) := by decide +kernel
theorem dX10_entry_24 : decode cX10_entry 24 = .ok (.invokevirtual 164, 3) := by decide +kernel
theorem dX10_entry_27 : decode cX10_entry 27 = .ok (.istore_n 3, 1) := by decide +kernel
theorem dX10_entry_28 : decode cX10_entry 28 = .ok (.iload_n 3, 1) := by decide +kernel
theorem dX10_entry_29 : decode cX10_entry 29 = .ok (.ifCond .ge 5, 3) := by decide +kernel
theorem dX10_entry_32 : decode cX10_entry 32 = .ok (.iload_n 3, 1) := by decide +kernel
theorem dX10_entry_33 : decode cX10_entry 33 = .ok (.ireturn, 1) := by decide +kernel
theorem dX10_entry_34 : decode cX10_entry 34 = .ok (.aload_n 0, 1) := by decide +kernel
theorem dX10_entry_35 : decode cX10_entry 35 = .ok (.getfield 28, 3) := by decide +kernel
theorem dX10_entry_38 : decode cX10_entry 38 = .ok (.iload_n 3, 1) := by decide +kernel
theorem dX10_entry_39 : decode cX10_entry 39 = .ok (.invokevirtual 168, 3) := by decide +kernel
theorem dX10_entry_42 : decode cX10_entry 42 = .ok (.iconst 2, 1) := by decide +kernel
theorem dX10_entry_43 : decode cX10_entry 43 = .ok (.if_icmp .eq 6, 3) := by decide +kernel
theorem dX10_entry_46 : decode cX10_entry 46 = .ok (.bipush (-3), 2) := by decide +kernel
theorem dX10_entry_48 : decode cX10_entry 48 = .ok (.ireturn, 1) := by decide +kernel
theorem dX10_entry_49 : decode cX10_entry 49 = .ok (.iload_n 1, 1) := by decide +kernel
theorem dX10_entry_50 : decode cX10_entry 50 = .ok (.ifCond .lt 15, 3) := by decide +kernel
theorem dX10_entry_53 : decode cX10_entry 53 = .ok (.iload_n 1, 1) := by decide +kernel
theorem dX10_entry_54 : decode cX10_entry 54 = .ok (.aload_n 0, 1) := by decide +kernel
theorem dX10_entry_55 : decode cX10_entry 55 = .ok (.getfield 28, 3) := by decide +kernel
theorem dX10_entry_58 : decode cX10_entry 58 = .ok (.iload_n 3, 1) := by decide +kernel
theorem dX10_entry_59 : decode cX10_entry 59 = .ok (.invokevirtual 275, 3) := by decide +kernel
theorem dX10_entry_62 : decode cX10_entry 62 = .ok (.if_icmp .lt 5, 3) := by decide +kernel
theorem dX10_entry_65 : decode cX10_entry 65 = .ok (.iconst (-1), 1) := by decide +kernel
theorem dX10_entry_66 : decode cX10_entry 66 = .ok (.ireturn, 1) := by decide +kernel
theorem dX10_entry_67 : decode cX10_entry 67 = .ok (.aload_n 0, 1) := by decide +kernel
theorem dX10_entry_68 : decode cX10_entry 68 = .ok (.getfield 28, 3) := by decide +kernel
theorem dX10_entry_71 : decode cX10_entry 71 = .ok (.iload_n 3, 1) := by decide +kernel
theorem dX10_entry_72 : decode cX10_entry 72 = .ok (.iload_n 1, 1) := by decide +kernel
theorem dX10_entry_73 : decode cX10_entry 73 = .ok (.invokevirtual 278, 3) := by decide +kernel
theorem dX10_entry_76 : decode cX10_entry 76 = .ok (.istore 4, 2) := by decide +kernel
theorem dX10_entry_78 : decode cX10_entry 78 = .ok (.iload_n 2, 1) := by decide +kernel
theorem dX10_entry_79 : decode cX10_entry 79 = .ok (.ifCond .ge 23, 3) := by decide +kernel
theorem dX10_entry_82 : decode cX10_entry 82 = .ok (.iload 4, 2) := by decide +kernel
theorem dX10_entry_84 : decode cX10_entry 84 = .ok (.ifCond .ne 8, 3) := by decide +kernel
theorem dX10_entry_87 : decode cX10_entry 87 = .ok (.bipush 64, 2) := by decide +kernel
theorem dX10_entry_89 : decode cX10_entry 89 = .ok (.goto 12, 3) := by decide +kernel
theorem dX10_entry_92 : decode cX10_entry 92 = .ok (.aload_n 0, 1) := by decide +kernel
theorem dX10_entry_93 : decode cX10_entry 93 = .ok (.getfield 28, 3) := by decide +kernel
theorem dX10_entry_96 : decode cX10_entry 96 = .ok (.iload_n 3, 1) := by decide +kernel
theorem dX10_entry_97 : decode cX10_entry 97 = .ok (.iload_n 1, 1) := by decide +kernel
theorem dX10_entry_98 : decode cX10_entry 98 = .ok (.invokevirtual 184, 3) := by decide +kernel
theorem dX10_entry_101 : decode cX10_entry 101 = .ok (.ireturn, 1) := by decide +kernel
theorem dX10_entry_102 : decode cX10_entry 102 = .ok (.iload_n 2, 1) := by decide +kernel
theorem dX10_entry_103 : decode cX10_entry 103 = .ok (.iload 4, 2) := by decide +kernel
theorem dX10_entry_105 : decode cX10_entry 105 = .ok (.if_icmp .ge 16, 3) := by decide +kernel
theorem dX10_entry_108 : decode cX10_entry 108 = .ok (.aload_n 0, 1) := by decide +kernel
theorem dX10_entry_109 : decode cX10_entry 109 = .ok (.getfield 28, 3) := by decide +kernel
theorem dX10_entry_112 : decode cX10_entry 112 = .ok (.iload_n 3, 1) := by decide +kernel
theorem dX10_entry_113 : decode cX10_entry 113 = .ok (.iload_n 1, 1) := by decide +kernel
theorem dX10_entry_114 : decode cX10_entry 114 = .ok (.iload_n 2, 1) := by decide +kernel
theorem dX10_entry_115 : decode cX10_entry 115 = .ok (.invokevirtual 281, 3) := by decide +kernel
theorem dX10_entry_118 : decode cX10_entry 118 = .ok (.goto 4, 3) := by decide +kernel
theorem dX10_entry_121 : decode cX10_entry 121 = .ok (.iconst (-1), 1) := by decide +kernel
theorem dX10_entry_122 : decode cX10_entry 122 = .ok (.ireturn, 1) := by decide +kernel
set_option maxRecDepth 100000 in
set_option maxHeartbeats 1000000 in
theorem j_X10_entry_65 {p : Program} {l : Launch} {e : Env} {s : State} {m : MethodId} {args : Array Value} {below : List Frame} {meth : Method} {c : Code} {D : va_G} {aC : Nat → ClassId} {b0 fu : Nat} {σ0 τ : tM} {v : (Int32) ⊕ Unit}  (C : tCx p l s m args meth c yX10_entry.cls cX10_entry 5 (some .int) D aC b0 σ0) (htab : ∀ x ∈ c.exceptionTable.toList, False) (hin : meth.name = yX10_entry.name)   {σ : tM} (hm : J_X10_entry_65 b0 fu   σ = some (v, τ)) : tX p l e s m args below meth c 5 7 150 D aC b0 σ0 (rxI "java/lang/IllegalStateException" v) τ 65 [] [] σ := by
  unfold J_X10_entry_65 at hm
  refine zx_iconst (v := (-1)) C dX10_entry_65 (by decide) ?_
  obtain ⟨rfl, rfl⟩ := ret_e hm
  exact zx_iret C rfl rfl rfl dX10_entry_66
set_option maxRecDepth 100000 in
set_option maxHeartbeats 1000000 in
theorem j_X10_entry_122 {p : Program} {l : Launch} {e : Env} {s : State} {m : MethodId} {args : Array Value} {below : List Frame} {meth : Method} {c : Code} {D : va_G} {aC : Nat → ClassId} {b0 fu : Nat} {σ0 τ : tM} {v : (Int32) ⊕ Unit}  (C : tCx p l s m args meth c yX10_entry.cls cX10_entry 5 (some .int) D aC b0 σ0) (htab : ∀ x ∈ c.exceptionTable.toList, False) (hin : meth.name = yX10_entry.name)  {s0 : Int32} {σ : tM} (hm : J_X10_entry_122 b0 fu  s0 σ = some (v, τ)) : tX p l e s m args below meth c 5 7 150 D aC b0 σ0 (rxI "java/lang/IllegalStateException" v) τ 122 [] [.int (s0)] σ := by
  unfold J_X10_entry_122 at hm
  obtain ⟨rfl, rfl⟩ := ret_e hm
  exact zx_iret C rfl rfl rfl dX10_entry_122
set_option maxRecDepth 100000 in
set_option maxHeartbeats 1000000 in
theorem j_X10_entry_101 {p : Program} {l : Launch} {e : Env} {s : State} {m : MethodId} {args : Array Value} {below : List Frame} {meth : Method} {c : Code} {D : va_G} {aC : Nat → ClassId} {b0 fu : Nat} {σ0 τ : tM} {v : (Int32) ⊕ Unit}  (C : tCx p l s m args meth c yX10_entry.cls cX10_entry 5 (some .int) D aC b0 σ0) (htab : ∀ x ∈ c.exceptionTable.toList, False) (hin : meth.name = yX10_entry.name)  {s0 : Int32} {σ : tM} (hm : J_X10_entry_101 b0 fu  s0 σ = some (v, τ)) : tX p l e s m args below meth c 5 7 150 D aC b0 σ0 (rxI "java/lang/IllegalStateException" v) τ 101 [] [.int (s0)] σ := by
  unfold J_X10_entry_101 at hm
  obtain ⟨rfl, rfl⟩ := ret_e hm
  exact zx_iret C rfl rfl rfl dX10_entry_101
set_option maxRecDepth 100000 in
set_option maxHeartbeats 1000000 in
theorem c_X10_entry {l : Launch} {D : va_G} {aC : Nat → ClassId} {b0 fu : Nat} {a0 : Nat} {p0 : Int32} {p1 : Int32} {σ τ : tM} {v : (Int32) ⊕ Unit} (hm : m_X10_entry b0 fu a0 p0 p1 σ = some (v, τ)) : tMt l D aC b0 yX10_entry (Cond.code yX10_entry cX10_entry 5 (some .int)) 7 150 [.ref (a0), .int (p0), .int (p1)] σ (rxI "java/lang/IllegalStateException" v) τ := by
  unfold m_X10_entry at hm
  obtain ⟨hg, hm⟩ := grw_e hm
  refine tMt_of (n := 0) rfl (Nat.le_of_ble_eq_true rfl) hg ?_
  intro p e s m below meth c C htab hin
  refine zx_lv [0, 1, 2] [(0, .ref (a0)), (1, .int (p0)), (2, .int (p1))] rfl ?_
  refine zx_aload_n C dX10_entry_0 0 rfl ?_
  obtain ⟨k1, i2, hm⟩ := ckO_e hm
  obtain ⟨a3, h4, hm⟩ := osm_e hm
  refine zx_get (j := 0) C tC_10 k1 i2 ⟨by decide, Or.inl W_2_213⟩ dX10_entry_1 (.ref a3) (rf_s h4) ?_
  obtain ⟨k5, i6, hm⟩ := ckO_e hm
  rcases clx_e hm with ⟨v7, ρ8, h9, hm⟩ | ⟨ρ8, h9, hm⟩
  · refine zx_callV (σ := σ) C [] tC_0 k5 i6 Y_X0_demandPower W_5_130 W_3_113 W_3_114 (c_X0_demandPower h9) (by decide) (by decide) rfl (Nat.le_of_ble_eq_true rfl) dX10_entry_4 rfl ?_
    refine zx_iload_n C dX10_entry_7 2 rfl ?_
    refine zx_iconst (v := (-1)) C dX10_entry_8 (by decide) ?_
    refine zx_icmp_ge C 15 dX10_entry_9 (by decide) (fun c10 => ?_) (fun c10 => ?_)
    · replace hm := ip_e hm c10
      refine zx_aload_n C dX10_entry_15 0 rfl ?_
      obtain ⟨k11, i12, hm⟩ := ckO_e hm
      obtain ⟨a13, h14, hm⟩ := osm_e hm
      refine zx_get (j := 5) C tC_10 k11 i12 ⟨by decide, Or.inl W_2_218⟩ dX10_entry_16 (.ref a13) (rf_s h14) ?_
      refine zx_aload_n C dX10_entry_19 0 rfl ?_
      obtain ⟨a15, h16, hm⟩ := osm_e hm
      refine zx_get (j := 7) C tC_10 k11 i12 ⟨by decide, Or.inl W_2_220⟩ dX10_entry_20 (.ref a15) (rf_s h16) ?_
      refine zx_iconst (v := 1) C dX10_entry_23 (by decide) ?_
      obtain ⟨k17, i18, hm⟩ := ckO_e hm
      obtain ⟨v19, ρ20, h21, hm⟩ := cll_e hm
      refine zx_callV (σ := ρ8) C [.ref (a15), .int (1)] tC_9 k17 i18 Y_X9_walkWhole W_5_10 W_5_11 W_5_12 (c_X9_walkWhole h21) (by decide) (by decide) rfl (Nat.le_of_ble_eq_true rfl) dX10_entry_24 rfl ?_
      refine zx_istore_n C [(3, .int (v19)), (0, .ref (a0)), (1, .int (p0)), (2, .int (p1))] dX10_entry_27 rfl (by decide) rfl ?_
      refine zx_iload_n C dX10_entry_28 0 rfl ?_
      refine zx_if_ge C 34 dX10_entry_29 (by decide) (fun c22 => ?_) (fun c22 => ?_)
      · replace hm := ip_e hm c22
        refine zx_aload_n C dX10_entry_34 1 rfl ?_
        obtain ⟨k23, i24, hm⟩ := ckO_e hm
        obtain ⟨a25, h26, hm⟩ := osm_e hm
        refine zx_get (j := 2) C tC_10 k23 i24 ⟨by decide, Or.inl W_2_215⟩ dX10_entry_35 (.ref a25) (rf_s h26) ?_
        refine zx_iload_n C dX10_entry_38 0 rfl ?_
        obtain ⟨k27, i28, hm⟩ := ckO_e hm
        obtain ⟨v29, ρ30, h31, hm⟩ := cll_e hm
        refine zx_callV (σ := ρ20) C [.int (v19)] tC_8 k27 i28 Y_X8_kind W_5_14 W_3_80 W_3_81 (c_X8_kind h31) (by decide) (by decide) rfl (Nat.le_of_ble_eq_true rfl) dX10_entry_39 rfl ?_
        refine zx_iconst (v := 2) C dX10_entry_42 (by decide) ?_
        refine zx_icmp_eq C 49 dX10_entry_43 (by decide) (fun c32 => ?_) (fun c32 => ?_)
        · replace hm := ip_e hm c32
          refine zx_iload_n C dX10_entry_49 2 rfl ?_
          refine zx_if_lt C 65 dX10_entry_50 (by decide) (fun c33 => ?_) (fun c33 => ?_)
          · replace hm := ip_e hm c33
            exact zx_lv [] [] rfl (j_X10_entry_65 C htab hin    hm)
          · replace hm := in_e hm c33
            refine zx_iload_n C dX10_entry_53 2 rfl ?_
            refine zx_aload_n C dX10_entry_54 1 rfl ?_
            obtain ⟨k34, i35, hm⟩ := ckO_e hm
            obtain ⟨a36, h37, hm⟩ := osm_e hm
            refine zx_get (j := 2) C tC_10 k34 i35 ⟨by decide, Or.inl W_2_215⟩ dX10_entry_55 (.ref a36) (rf_s h37) ?_
            refine zx_iload_n C dX10_entry_58 0 rfl ?_
            obtain ⟨k38, i39, hm⟩ := ckO_e hm
            obtain ⟨v40, ρ41, h42, hm⟩ := cll_e hm
            refine zx_callV (σ := ρ30) C [.int (v19)] tC_8 k38 i39 Y_X8_entries W_6_4 W_4_105 W_4_106 (c_X8_entries h42) (by decide) (by decide) rfl (Nat.le_of_ble_eq_true rfl) dX10_entry_59 rfl ?_
            refine zx_icmp_lt C 67 dX10_entry_62 (by decide) (fun c43 => ?_) (fun c43 => ?_)
            · replace hm := ip_e hm c43
              refine zx_aload_n C dX10_entry_67 1 rfl ?_
              obtain ⟨k44, i45, hm⟩ := ckO_e hm
              obtain ⟨a46, h47, hm⟩ := osm_e hm
              refine zx_get (j := 2) C tC_10 k44 i45 ⟨by decide, Or.inl W_2_215⟩ dX10_entry_68 (.ref a46) (rf_s h47) ?_
              refine zx_iload_n C dX10_entry_71 0 rfl ?_
              refine zx_iload_n C dX10_entry_72 2 rfl ?_
              obtain ⟨k48, i49, hm⟩ := ckO_e hm
              obtain ⟨v50, ρ51, h52, hm⟩ := cll_e hm
              refine zx_callV (σ := ρ41) C [.int (v19), .int (p0)] tC_8 k48 i49 Y_X8_nameLength W_6_5 W_4_167 W_4_168 (c_X8_nameLength h52) (by decide) (by decide) rfl (Nat.le_of_ble_eq_true rfl) dX10_entry_73 rfl ?_
              refine zx_istore C [(4, .int (v50)), (3, .int (v19)), (0, .ref (a0)), (1, .int (p0)), (2, .int (p1))] dX10_entry_76 (by decide) rfl ?_
              refine zx_iload_n C dX10_entry_78 4 rfl ?_
              refine zx_if_ge C 102 dX10_entry_79 (by decide) (fun c53 => ?_) (fun c53 => ?_)
              · replace hm := ip_e hm c53
                refine zx_iload_n C dX10_entry_102 4 rfl ?_
                refine zx_iload C dX10_entry_103 0 rfl ?_
                refine zx_icmp_ge C 121 dX10_entry_105 (by decide) (fun c54 => ?_) (fun c54 => ?_)
                · replace hm := ip_e hm c54
                  refine zx_iconst (v := (-1)) C dX10_entry_121 (by decide) ?_
                  exact zx_lv [] [] rfl (j_X10_entry_122 C htab hin    hm)
                · replace hm := in_e hm c54
                  refine zx_aload_n C dX10_entry_108 2 rfl ?_
                  obtain ⟨k55, i56, hm⟩ := ckO_e hm
                  obtain ⟨a57, h58, hm⟩ := osm_e hm
                  refine zx_get (j := 2) C tC_10 k55 i56 ⟨by decide, Or.inl W_2_215⟩ dX10_entry_109 (.ref a57) (rf_s h58) ?_
                  refine zx_iload_n C dX10_entry_112 1 rfl ?_
                  refine zx_iload_n C dX10_entry_113 3 rfl ?_
                  refine zx_iload_n C dX10_entry_114 4 rfl ?_
                  obtain ⟨k59, i60, hm⟩ := ckO_e hm
                  obtain ⟨v61, ρ62, h63, hm⟩ := cll_e hm
                  refine zx_callV (σ := ρ51) C [.int (v19), .int (p0), .int (p1)] tC_8 k59 i60 Y_X8_nameOctet W_6_6 W_6_7 W_6_8 (c_X8_nameOctet h63) (by decide) (by decide) rfl (Nat.le_of_ble_eq_true rfl) dX10_entry_115 rfl ?_
                  refine zx_goto C 122 dX10_entry_118 (by decide) ?_
                  exact zx_lv [] [] rfl (j_X10_entry_122 C htab hin    hm)
              · replace hm := in_e hm c53
                refine zx_iload C dX10_entry_82 0 rfl ?_
                refine zx_if_ne C 92 dX10_entry_84 (by decide) (fun c64 => ?_) (fun c64 => ?_)
                · replace hm := in_e hm c64
                  refine zx_aload_n C dX10_entry_92 2 rfl ?_
                  obtain ⟨k65, i66, hm⟩ := ckO_e hm
                  obtain ⟨a67, h68, hm⟩ := osm_e hm
                  refine zx_get (j := 2) C tC_10 k65 i66 ⟨by decide, Or.inl W_2_215⟩ dX10_entry_93 (.ref a67) (rf_s h68) ?_
                  refine zx_iload_n C dX10_entry_96 1 rfl ?_
                  refine zx_iload_n C dX10_entry_97 3 rfl ?_
                  obtain ⟨k69, i70, hm⟩ := ckO_e hm
                  obtain ⟨v71, ρ72, h73, hm⟩ := cll_e hm
                  refine zx_callV (σ := ρ51) C [.int (v19), .int (p0)] tC_8 k69 i70 Y_X8_nodeAt W_5_32 W_4_125 W_4_126 (c_X8_nodeAt h73) (by decide) (by decide) rfl (Nat.le_of_ble_eq_true rfl) dX10_entry_98 rfl ?_
                  exact zx_lv [] [] rfl (j_X10_entry_101 C htab hin    hm)
                · replace hm := ip_e hm c64
                  refine zx_bipush (v := 64) C dX10_entry_87 (by decide) ?_
                  refine zx_goto C 101 dX10_entry_89 (by decide) ?_
                  exact zx_lv [] [] rfl (j_X10_entry_101 C htab hin    hm)
            · replace hm := in_e hm c43
              exact zx_lv [] [] rfl (j_X10_entry_65 C htab hin    hm)
        · replace hm := in_e hm c32
          refine zx_bipush (v := (-3)) C dX10_entry_46 (by decide) ?_
          obtain ⟨rfl, rfl⟩ := ret_e hm
          exact zx_iret C rfl rfl rfl dX10_entry_48
      · replace hm := in_e hm c22
        refine zx_iload_n C dX10_entry_32 0 rfl ?_
        obtain ⟨rfl, rfl⟩ := ret_e hm
        exact zx_iret C rfl rfl rfl dX10_entry_33
    · replace hm := in_e hm c10
      refine zx_bipush (v := (-9)) C dX10_entry_12 (by decide) ?_
      obtain ⟨rfl, rfl⟩ := ret_e hm
      exact zx_iret C rfl rfl rfl dX10_entry_14
  · cases hm
    exact zx_outV (σ := σ) C htab [] tC_0 k5 i6 Y_X0_demandPower W_5_130 W_3_113 W_3_114 (c_X0_demandPower h9) rfl (by decide) (by decide) rfl (Nat.le_of_ble_eq_true rfl) dX10_entry_4 rfl
abbrev cX10_textAt : ByteArray := prog_1_method_32_code
def yX10_textAt : MethodName := ⟨"SyncTree", "textAt", "(I)I"⟩
theorem Y_X10_textAt : tY yX10_textAt cX10_textAt 3 (some .int) 1 := ⟨W_6_16, W_1_1, ⟨by decide +kernel, by decide +kernel⟩, by decide +kernel⟩
theorem dX10_textAt_0 : decode cX10_textAt 0 = .ok (.aload_n 0, 1) := by decide +kernel
theorem dX10_textAt_1 : decode cX10_textAt 1 = .ok (.getfield 12, 3) := by decide +kernel
theorem dX10_textAt_4 : decode cX10_textAt 4 = .ok (.invokevirtual 221, 3) := by decide +kernel
theorem dX10_textAt_7 : decode cX10_textAt 7 = .ok (.aload_n 0, 1) := by decide +kernel
theorem dX10_textAt_8 : decode cX10_textAt 8 = .ok (.getfield 55, 3) := by decide +kernel
theorem dX10_textAt_11 : decode cX10_textAt 11 = .ok (.aload_n 0, 1) := by decide +kernel
theorem dX10_textAt_12 : decode cX10_textAt 12 = .ok (.getfield 69, 3) := by decide +kernel
theorem dX10_textAt_15 : decode cX10_textAt 15 = .ok (.iconst 0, 1) := by decide +kernel
theorem dX10_textAt_16 : decode cX10_textAt 16 = .ok (.invokevirtual 164, 3) := by decide +kernel
theorem dX10_textAt_19 : decode cX10_textAt 19 = .ok (.istore_n 2, 1) := by decide +kernel
theorem dX10_textAt_20 : decode cX10_textAt 20 = .ok (.iload_n 2, 1) := by decide +kernel
theorem dX10_textAt_21 : decode cX10_textAt 21 = .ok (.ifCond .ge 5, 3) := by decide +kernel
theorem dX10_textAt_24 : decode cX10_textAt 24 = .ok (.iload_n 2, 1) := by decide +kernel
theorem dX10_textAt_25 : decode cX10_textAt 25 = .ok (.ireturn, 1) := by decide +kernel
theorem dX10_textAt_26 : decode cX10_textAt 26 = .ok (.aload_n 0, 1) := by decide +kernel
theorem dX10_textAt_27 : decode cX10_textAt 27 = .ok (.getfield 28, 3) := by decide +kernel
theorem dX10_textAt_30 : decode cX10_textAt 30 = .ok (.iload_n 2, 1) := by decide +kernel
theorem dX10_textAt_31 : decode cX10_textAt 31 = .ok (.invokevirtual 168, 3) := by decide +kernel
theorem dX10_textAt_34 : decode cX10_textAt 34 = .ok (.iconst 3, 1) := by decide +kernel
theorem dX10_textAt_35 : decode cX10_textAt 35 = .ok (.if_icmp .eq 6, 3) := by decide +kernel
theorem dX10_textAt_38 : decode cX10_textAt 38 = .ok (.bipush (-9), 2) := by decide +kernel
theorem dX10_textAt_40 : decode cX10_textAt 40 = .ok (.ireturn, 1) := by decide +kernel
theorem dX10_textAt_41 : decode cX10_textAt 41 = .ok (.iload_n 1, 1) := by decide +kernel
theorem dX10_textAt_42 : decode cX10_textAt 42 = .ok (.ifCond .lt 15, 3) := by decide +kernel
theorem dX10_textAt_45 : decode cX10_textAt 45 = .ok (.iload_n 1, 1) := by decide +kernel
theorem dX10_textAt_46 : decode cX10_textAt 46 = .ok (.aload_n 0, 1) := by decide +kernel
theorem dX10_textAt_47 : decode cX10_textAt 47 = .ok (.getfield 28, 3) := by decide +kernel
theorem dX10_textAt_50 : decode cX10_textAt 50 = .ok (.iload_n 2, 1) := by decide +kernel
theorem dX10_textAt_51 : decode cX10_textAt 51 = .ok (.invokevirtual 245, 3) := by decide +kernel
theorem dX10_textAt_54 : decode cX10_textAt 54 = .ok (.if_icmp .lt 7, 3) := by decide +kernel
theorem dX10_textAt_57 : decode cX10_textAt 57 = .ok (.iconst (-1), 1) := by decide +kernel
theorem dX10_textAt_58 : decode cX10_textAt 58 = .ok (.goto 12, 3) := by decide +kernel
theorem dX10_textAt_61 : decode cX10_textAt 61 = .ok (.aload_n 0, 1) := by decide +kernel
theorem dX10_textAt_62 : decode cX10_textAt 62 = .ok (.getfield 28, 3) := by decide +kernel
theorem dX10_textAt_65 : decode cX10_textAt 65 = .ok (.iload_n 2, 1) := by decide +kernel
theorem dX10_textAt_66 : decode cX10_textAt 66 = .ok (.iload_n 1, 1) := by decide +kernel
theorem dX10_textAt_67 : decode cX10_textAt 67 = .ok (.invokevirtual 284, 3) := by decide +kernel
theorem dX10_textAt_70 : decode cX10_textAt 70 = .ok (.ireturn, 1) := by decide +kernel
set_option maxRecDepth 100000 in
set_option maxHeartbeats 1000000 in
theorem j_X10_textAt_70 {p : Program} {l : Launch} {e : Env} {s : State} {m : MethodId} {args : Array Value} {below : List Frame} {meth : Method} {c : Code} {D : va_G} {aC : Nat → ClassId} {b0 fu : Nat} {σ0 τ : tM} {v : (Int32) ⊕ Unit}  (C : tCx p l s m args meth c yX10_textAt.cls cX10_textAt 3 (some .int) D aC b0 σ0) (htab : ∀ x ∈ c.exceptionTable.toList, False) (hin : meth.name = yX10_textAt.name)  {s0 : Int32} {σ : tM} (hm : J_X10_textAt_70 b0 fu  s0 σ = some (v, τ)) : tX p l e s m args below meth c 3 7 150 D aC b0 σ0 (rxI "java/lang/IllegalStateException" v) τ 70 [] [.int (s0)] σ := by
  unfold J_X10_textAt_70 at hm
  obtain ⟨rfl, rfl⟩ := ret_e hm
  exact zx_iret C rfl rfl rfl dX10_textAt_70
set_option maxRecDepth 100000 in
set_option maxHeartbeats 1000000 in
theorem j_X10_textAt_57 {p : Program} {l : Launch} {e : Env} {s : State} {m : MethodId} {args : Array Value} {below : List Frame} {meth : Method} {c : Code} {D : va_G} {aC : Nat → ClassId} {b0 fu : Nat} {σ0 τ : tM} {v : (Int32) ⊕ Unit}  (C : tCx p l s m args meth c yX10_textAt.cls cX10_textAt 3 (some .int) D aC b0 σ0) (htab : ∀ x ∈ c.exceptionTable.toList, False) (hin : meth.name = yX10_textAt.name)   {σ : tM} (hm : J_X10_textAt_57 b0 fu   σ = some (v, τ)) : tX p l e s m args below meth c 3 7 150 D aC b0 σ0 (rxI "java/lang/IllegalStateException" v) τ 57 [] [] σ := by
  unfold J_X10_textAt_57 at hm
  refine zx_iconst (v := (-1)) C dX10_textAt_57 (by decide) ?_
  refine zx_goto C 70 dX10_textAt_58 (by decide) ?_
  exact zx_lv [] [] rfl (j_X10_textAt_70 C htab hin    hm)
set_option maxRecDepth 100000 in
set_option maxHeartbeats 1000000 in
theorem c_X10_textAt {l : Launch} {D : va_G} {aC : Nat → ClassId} {b0 fu : Nat} {a0 : Nat} {p0 : Int32} {σ τ : tM} {v : (Int32) ⊕ Unit} (hm : m_X10_textAt b0 fu a0 p0 σ = some (v, τ)) : tMt l D aC b0 yX10_textAt (Cond.code yX10_textAt cX10_textAt 3 (some .int)) 7 150 [.ref (a0), .int (p0)] σ (rxI "java/lang/IllegalStateException" v) τ := by
  unfold m_X10_textAt at hm
  obtain ⟨hg, hm⟩ := grw_e hm
  refine tMt_of (n := 0) rfl (Nat.le_of_ble_eq_true rfl) hg ?_
  intro p e s m below meth c C htab hin
  refine zx_lv [0, 1] [(0, .ref (a0)), (1, .int (p0))] rfl ?_
  refine zx_aload_n C dX10_textAt_0 0 rfl ?_
  obtain ⟨k1, i2, hm⟩ := ckO_e hm
  obtain ⟨a3, h4, hm⟩ := osm_e hm
  refine zx_get (j := 0) C tC_10 k1 i2 ⟨by decide, Or.inl W_2_213⟩ dX10_textAt_1 (.ref a3) (rf_s h4) ?_
  obtain ⟨k5, i6, hm⟩ := ckO_e hm
  rcases clx_e hm with ⟨v7, ρ8, h9, hm⟩ | ⟨ρ8, h9, hm⟩
  · refine zx_callV (σ := σ) C [] tC_0 k5 i6 Y_X0_demandPower W_5_130 W_3_113 W_3_114 (c_X0_demandPower h9) (by decide) (by decide) rfl (Nat.le_of_ble_eq_true rfl) dX10_textAt_4 rfl ?_
    refine zx_aload_n C dX10_textAt_7 0 rfl ?_
    obtain ⟨k10, i11, hm⟩ := ckO_e hm
    obtain ⟨a12, h13, hm⟩ := osm_e hm
    refine zx_get (j := 5) C tC_10 k10 i11 ⟨by decide, Or.inl W_2_218⟩ dX10_textAt_8 (.ref a12) (rf_s h13) ?_
    refine zx_aload_n C dX10_textAt_11 0 rfl ?_
    obtain ⟨a14, h15, hm⟩ := osm_e hm
    refine zx_get (j := 7) C tC_10 k10 i11 ⟨by decide, Or.inl W_2_220⟩ dX10_textAt_12 (.ref a14) (rf_s h15) ?_
    refine zx_iconst (v := 0) C dX10_textAt_15 (by decide) ?_
    obtain ⟨k16, i17, hm⟩ := ckO_e hm
    obtain ⟨v18, ρ19, h20, hm⟩ := cll_e hm
    refine zx_callV (σ := ρ8) C [.ref (a14), .int (0)] tC_9 k16 i17 Y_X9_walkWhole W_5_10 W_5_11 W_5_12 (c_X9_walkWhole h20) (by decide) (by decide) rfl (Nat.le_of_ble_eq_true rfl) dX10_textAt_16 rfl ?_
    refine zx_istore_n C [(2, .int (v18)), (0, .ref (a0)), (1, .int (p0))] dX10_textAt_19 rfl (by decide) rfl ?_
    refine zx_iload_n C dX10_textAt_20 0 rfl ?_
    refine zx_if_ge C 26 dX10_textAt_21 (by decide) (fun c21 => ?_) (fun c21 => ?_)
    · replace hm := ip_e hm c21
      refine zx_aload_n C dX10_textAt_26 1 rfl ?_
      obtain ⟨k22, i23, hm⟩ := ckO_e hm
      obtain ⟨a24, h25, hm⟩ := osm_e hm
      refine zx_get (j := 2) C tC_10 k22 i23 ⟨by decide, Or.inl W_2_215⟩ dX10_textAt_27 (.ref a24) (rf_s h25) ?_
      refine zx_iload_n C dX10_textAt_30 0 rfl ?_
      obtain ⟨k26, i27, hm⟩ := ckO_e hm
      obtain ⟨v28, ρ29, h30, hm⟩ := cll_e hm
      refine zx_callV (σ := ρ19) C [.int (v18)] tC_8 k26 i27 Y_X8_kind W_5_14 W_3_80 W_3_81 (c_X8_kind h30) (by decide) (by decide) rfl (Nat.le_of_ble_eq_true rfl) dX10_textAt_31 rfl ?_
      refine zx_iconst (v := 3) C dX10_textAt_34 (by decide) ?_
      refine zx_icmp_eq C 41 dX10_textAt_35 (by decide) (fun c31 => ?_) (fun c31 => ?_)
      · replace hm := ip_e hm c31
        refine zx_iload_n C dX10_textAt_41 2 rfl ?_
        refine zx_if_lt C 57 dX10_textAt_42 (by decide) (fun c32 => ?_) (fun c32 => ?_)
        · replace hm := ip_e hm c32
          exact zx_lv [] [] rfl (j_X10_textAt_57 C htab hin    hm)
        · replace hm := in_e hm c32
          refine zx_iload_n C dX10_textAt_45 2 rfl ?_
          refine zx_aload_n C dX10_textAt_46 1 rfl ?_
          obtain ⟨k33, i34, hm⟩ := ckO_e hm
          obtain ⟨a35, h36, hm⟩ := osm_e hm
          refine zx_get (j := 2) C tC_10 k33 i34 ⟨by decide, Or.inl W_2_215⟩ dX10_textAt_47 (.ref a35) (rf_s h36) ?_
          refine zx_iload_n C dX10_textAt_50 0 rfl ?_
          obtain ⟨k37, i38, hm⟩ := ckO_e hm
          obtain ⟨v39, ρ40, h41, hm⟩ := cll_e hm
          refine zx_callV (σ := ρ29) C [.int (v18)] tC_8 k37 i38 Y_X8_size W_5_155 W_4_133 W_4_134 (c_X8_size h41) (by decide) (by decide) rfl (Nat.le_of_ble_eq_true rfl) dX10_textAt_51 rfl ?_
          refine zx_icmp_lt C 61 dX10_textAt_54 (by decide) (fun c42 => ?_) (fun c42 => ?_)
          · replace hm := ip_e hm c42
            refine zx_aload_n C dX10_textAt_61 1 rfl ?_
            obtain ⟨k43, i44, hm⟩ := ckO_e hm
            obtain ⟨a45, h46, hm⟩ := osm_e hm
            refine zx_get (j := 2) C tC_10 k43 i44 ⟨by decide, Or.inl W_2_215⟩ dX10_textAt_62 (.ref a45) (rf_s h46) ?_
            refine zx_iload_n C dX10_textAt_65 0 rfl ?_
            refine zx_iload_n C dX10_textAt_66 2 rfl ?_
            obtain ⟨k47, i48, hm⟩ := ckO_e hm
            obtain ⟨v49, ρ50, h51, hm⟩ := cll_e hm
            refine zx_callV (σ := ρ40) C [.int (v18), .int (p0)] tC_8 k47 i48 Y_X8_textOctet W_6_17 W_4_137 W_4_138 (c_X8_textOctet h51) (by decide) (by decide) rfl (Nat.le_of_ble_eq_true rfl) dX10_textAt_67 rfl ?_
            exact zx_lv [] [] rfl (j_X10_textAt_70 C htab hin    hm)
          · replace hm := in_e hm c42
            exact zx_lv [] [] rfl (j_X10_textAt_57 C htab hin    hm)
      · replace hm := in_e hm c31
        refine zx_bipush (v := (-9)) C dX10_textAt_38 (by decide) ?_
        obtain ⟨rfl, rfl⟩ := ret_e hm
        exact zx_iret C rfl rfl rfl dX10_textAt_40
    · replace hm := in_e hm c21
      refine zx_iload_n C dX10_textAt_24 0 rfl ?_
      obtain ⟨rfl, rfl⟩ := ret_e hm
      exact zx_iret C rfl rfl rfl dX10_textAt_25
  · cases hm
    exact zx_outV (σ := σ) C htab [] tC_0 k5 i6 Y_X0_demandPower W_5_130 W_3_113 W_3_114 (c_X0_demandPower h9) rfl (by decide) (by decide) rfl (Nat.le_of_ble_eq_true rfl) dX10_textAt_4 rfl
abbrev cX10_writeDirty : ByteArray := prog_1_method_37_code
def yX10_writeDirty : MethodName := ⟨"SyncTree", "writeDirty", "(II)I"⟩
theorem Y_X10_writeDirty : tY yX10_writeDirty cX10_writeDirty 5 (some .int) 2 := ⟨W_6_39, W_1_1, ⟨by decide +kernel, by decide +kernel⟩, by decide +kernel⟩
theorem dX10_writeDirty_0 : decode cX10_writeDirty 0 = .ok (.iconst 0, 1) := by decide +kernel
theorem dX10_writeDirty_1 : decode cX10_writeDirty 1 = .ok (.istore_n 3, 1) := by decide +kernel
theorem dX10_writeDirty_2 : decode cX10_writeDirty 2 = .ok (.bipush 34, 2) := by decide +kernel
theorem dX10_writeDirty_4 : decode cX10_writeDirty 4 = .ok (.istore 4, 2) := by decide +kernel
theorem dX10_writeDirty_6 : decode cX10_writeDirty 6 = .ok (.iload 4, 2) := by decide +kernel
theorem dX10_writeDirty_8 : decode cX10_writeDirty 8 = .ok (.aload_n 0, 1) := by decide +kernel
theorem dX10_writeDirty_9 : decode cX10_writeDirty 9 = .ok (.getfield 19, 3) := by decide +kernel
theorem dX10_writeDirty_12 : decode cX10_writeDirty 12 = .ok (.getfield 311, 3) := by decide +kernel
theorem dX10_writeDirty_15 : decode cX10_writeDirty 15 = .ok (.if_icmp .ge 110, 3) := by decide +kernel
theorem dX10_writeDirty_18 : decode cX10_writeDirty 18 = .ok (.iload_n 3, 1) := by decide +kernel
theorem dX10_writeDirty_19 : decode cX10_writeDirty 19 = .ok (.iload_n 2, 1) := by decide +kernel
theorem dX10_writeDirty_20 : decode cX10_writeDirty 20 = .ok (.if_icmp .ge 105, 3) := by decide +kernel
theorem dX10_writeDirty_23 : decode cX10_writeDirty 23 = .ok (.aload_n 0, 1) := by decide +kernel
theorem dX10_writeDirty_24 : decode cX10_writeDirty 24 = .ok (.getfield 19, 3) := by decide +kernel
theorem dX10_writeDirty_27 : decode cX10_writeDirty 27 = .ok (.getfield 314, 3) := by decide +kernel
theorem dX10_writeDirty_30 : decode cX10_writeDirty 30 = .ok (.ifCond .le 95, 3) := by decide +kernel
theorem dX10_writeDirty_33 : decode cX10_writeDirty 33 = .ok (.aload_n 0, 1) := by decide +kernel
theorem dX10_writeDirty_34 : decode cX10_writeDirty 34 = .ok (.getfield 19, 3) := by decide +kernel
theorem dX10_writeDirty_37 : decode cX10_writeDirty 37 = .ok (.iload 4, 2) := by decide +kernel
theorem dX10_writeDirty_39 : decode cX10_writeDirty 39 = .ok (.invokevirtual 317, 3) := by decide +kernel
theorem dX10_writeDirty_42 : decode cX10_writeDirty 42 = .ok (.ifCond .eq 77, 3) := by decide +kernel
theorem dX10_writeDirty_45 : decode cX10_writeDirty 45 = .ok (.iload_n 1, 1) := by decide +kernel
theorem dX10_writeDirty_46 : decode cX10_writeDirty 46 = .ok (.iconst (-1), 1) := by decide +kernel
theorem dX10_writeDirty_47 : decode cX10_writeDirty 47 = .ok (.if_icmp .eq 16, 3) := by decide +kernel
theorem dX10_writeDirty_50 : decode cX10_writeDirty 50 = .ok (.aload_n 0, 1) := by decide +kernel
theorem dX10_writeDirty_51 : decode cX10_writeDirty 51 = .ok (.getfield 19, 3) := by decide +kernel
theorem dX10_writeDirty_54 : decode cX10_writeDirty 54 = .ok (.iload 4, 2) := by decide +kernel
theorem dX10_writeDirty_56 : decode cX10_writeDirty 56 = .ok (.invokevirtual 320, 3) := by decide +kernel
theorem dX10_writeDirty_59 : decode cX10_writeDirty 59 = .ok (.iload_n 1, 1) := by decide +kernel
theorem dX10_writeDirty_60 : decode cX10_writeDirty 60 = .ok (.if_icmp .ne 59, 3) := by decide +kernel
theorem dX10_writeDirty_63 : decode cX10_writeDirty 63 = .ok (.aload_n 0, 1) := by decide +kernel
theorem dX10_writeDirty_64 : decode cX10_writeDirty 64 = .ok (.getfield 12, 3) := by decide +kernel
theorem dX10_writeDirty_67 : decode cX10_writeDirty 67 = .ok (.aload_n 0, 1) := by decide +kernel
theorem dX10_writeDirty_68 : decode cX10_writeDirty 68 = .ok (.getfield 19, 3) := by decide +kernel
theorem dX10_writeDirty_71 : decode cX10_writeDirty 71 = .ok (.iload 4, 2) := by decide +kernel
theorem dX10_writeDirty_73 : decode cX10_writeDirty 73 = .ok (.invokevirtual 295, 3) := by decide +kernel
theorem dX10_writeDirty_76 : decode cX10_writeDirty 76 = .ok (.aload_n 0, 1) := by decide +kernel
theorem dX10_writeDirty_77 : decode cX10_writeDirty 77 = .ok (.getfield 19, 3) := by decide +kernel
theorem dX10_writeDirty_80 : decode cX10_writeDirty 80 = .ok (.iload 4, 2) := by decide +kernel
theorem dX10_writeDirty_82 : decode cX10_writeDirty 82 = .ok (.invokevirtual 323, 3) := by decide +kernel
theorem dX10_writeDirty_85 : decode cX10_writeDirty 85 = .ok (.invokevirtual 326, 3) := by decide +kernel
theorem dX10_writeDirty_88 : decode cX10_writeDirty 88 = .ok (.aload_n 0, 1) := by decide +kernel
theorem dX10_writeDirty_89 : decode cX10_writeDirty 89 = .ok (.getfield 12, 3) := by decide +kernel
theorem dX10_writeDirty_92 : decode cX10_writeDirty 92 = .ok (.aload_n 0, 1) := by decide +kernel
theorem dX10_writeDirty_93 : decode cX10_writeDirty 93 = .ok (.getfield 19, 3) := by decide +kernel
theorem dX10_writeDirty_96 : decode cX10_writeDirty 96 = .ok (.getfield 329, 3) := by decide +kernel
theorem dX10_writeDirty_99 : decode cX10_writeDirty 99 = .ok (.iload 4, 2) := by decide +kernel
theorem dX10_writeDirty_101 : decode cX10_writeDirty 101 = .ok (.bipush 32, 2) := by decide +kernel
theorem dX10_writeDirty_103 : decode cX10_writeDirty 103 = .ok (.imul, 1) := by decide +kernel
theorem dX10_writeDirty_104 : decode cX10_writeDirty 104 = .ok (.invokevirtual 333, 3) := by decide +kernel
theorem dX10_writeDirty_107 : decode cX10_writeDirty 107 = .ok (.aload_n 0, 1) := by decide +kernel
theorem dX10_writeDirty_108 : decode cX10_writeDirty 108 = .ok (.getfield 19, 3) := by decide +kernel
theorem dX10_writeDirty_111 : decode cX10_writeDirty 111 = .ok (.iload 4, 2) := by decide +kernel
theorem dX10_writeDirty_113 : decode cX10_writeDirty 113 = .ok (.invokevirtual 337, 3) := by decide +kernel
theorem dX10_writeDirty_116 : decode cX10_writeDirty 116 = .ok (.iinc 3 1, 3) := by decide +kernel
theorem dX10_writeDirty_119 : decode cX10_writeDirty 119 = .ok (.iinc 4 1, 3) := by decide +kernel
theorem dX10_writeDirty_122 : decode cX10_writeDirty 122 = .ok (.goto (-116), 3) := by decide +kernel
theorem dX10_writeDirty_125 : decode cX10_writeDirty 125 = .ok (.iload_n 3, 1) := by decide +kernel
theorem dX10_writeDirty_126 : decode cX10_writeDirty 126 = .ok (.ireturn, 1) := by decide +kernel
set_option maxRecDepth 100000 in
set_option maxHeartbeats 1000000 in
theorem j_X10_writeDirty_125 {p : Program} {l : Launch} {e : Env} {s : State} {m : MethodId} {args : Array Value} {below : List Frame} {meth : Method} {c : Code} {D : va_G} {aC : Nat → ClassId} {b0 fu : Nat} {σ0 τ : tM} {v : (Int32) ⊕ Unit}  (C : tCx p l s m args meth c yX10_writeDirty.cls cX10_writeDirty 5 (some .int) D aC b0 σ0) (htab : ∀ x ∈ c.exceptionTable.toList, False) (hin : meth.name = yX10_writeDirty.name)  {x3 : Int32} {σ : tM} (hm : J_X10_writeDirty_125 b0 fu  x3 σ = some (v, τ)) : tX p l e s m args below meth c 5 8 133 D aC b0 σ0 (rxI "java/lang/IllegalStateException" v) τ 125 [(3, .int (x3))] [] σ := by
  unfold J_X10_writeDirty_125 at hm
  refine zx_iload_n C dX10_writeDirty_125 0 rfl ?_
  obtain ⟨rfl, rfl⟩ := ret_e hm
  exact zx_iret C rfl rfl rfl dX10_writeDirty_126
set_option maxRecDepth 100000 in
set_option maxHeartbeats 1000000 in
theorem j_X10_writeDirty_119 {p : Program} {l : Launch} {e : Env} {s : State} {m : MethodId} {args : Array Value} {below : List Frame} {meth : Method} {c : Code} {D : va_G} {aC : Nat → ClassId} {b0 fu : Nat} {σ0 τ : tM} {v : (Int32) ⊕ Unit} {rc6 : Nat → Int32 → Int32 → Int32 → Int32 → tM → Option (((Int32) ⊕ Unit) × tM)} (C : tCx p l s m args meth c yX10_writeDirty.cls cX10_writeDirty 5 (some .int) D aC b0 σ0) (htab : ∀ x ∈ c.exceptionTable.toList, False) (hin : meth.name = yX10_writeDirty.name) (hrc6 : ∀ (x0 : Nat) (x1 : Int32) (x2 : Int32) (x3 : Int32) (x4 : Int32) (ρ : tM), rc6 x0 x1 x2 x3 x4 ρ = some (v, τ) → tX p l e s m args below meth c 5 8 133 D aC b0 σ0 (rxI "java/lang/IllegalStateException" v) τ 6 [(0, .ref (x0)), (1, .int (x1)), (2, .int (x2)), (3, .int (x3)), (4, .int (x4))] [] ρ) {x0 : Nat} {x1 : Int32} {x2 : Int32} {x3 : Int32} {x4 : Int32} {σ : tM} (hm : J_X10_writeDirty_119 b0 fu rc6 x0 x1 x2 x3 x4 σ = some (v, τ)) : tX p l e s m args below meth c 5 8 133 D aC b0 σ0 (rxI "java/lang/IllegalStateException" v) τ 119 [(0, .ref (x0)), (1, .int (x1)), (2, .int (x2)), (3, .int (x3)), (4, .int (x4))] [] σ := by
  unfold J_X10_writeDirty_119 at hm
  obtain ⟨y22, hy22⟩ : ∃ z : Int32, z = (x4) + Int32.ofInt 1 := ⟨_, rfl⟩
  replace hm := ltb_e hm hy22
  refine zx_iinc C [(4, .int (y22)), (0, .ref (x0)), (1, .int (x1)), (2, .int (x2)), (3, .int (x3))] dX10_writeDirty_119 4 rfl hy22.symm (by decide) rfl ?_
  refine zx_goto C 6 dX10_writeDirty_122 (by decide) ?_
  exact zx_lv [1, 2, 3, 4, 0] [(0, .ref (x0)), (1, .int (x1)), (2, .int (x2)), (3, .int (x3)), (4, .int (y22))] rfl (hrc6 _ _ _ _ _ _ hm)
set_option maxRecDepth 100000 in
set_option maxHeartbeats 1000000 in
theorem j_X10_writeDirty_63 {p : Program} {l : Launch} {e : Env} {s : State} {m : MethodId} {args : Array Value} {below : List Frame} {meth : Method} {c : Code} {D : va_G} {aC : Nat → ClassId} {b0 fu : Nat} {σ0 τ : tM} {v : (Int32) ⊕ Unit} {rc6 : Nat → Int32 → Int32 → Int32 → Int32 → tM → Option (((Int32) ⊕ Unit) × tM)} (C : tCx p l s m args meth c yX10_writeDirty.cls cX10_writeDirty 5 (some .int) D aC b0 σ0) (htab : ∀ x ∈ c.exceptionTable.toList, False) (hin : meth.name = yX10_writeDirty.name) (hrc6 : ∀ (x0 : Nat) (x1 : Int32) (x2 : Int32) (x3 : Int32) (x4 : Int32) (ρ : tM), rc6 x0 x1 x2 x3 x4 ρ = some (v, τ) → tX p l e s m args below meth c 5 8 133 D aC b0 σ0 (rxI "java/lang/IllegalStateException" v) τ 6 [(0, .ref (x0)), (1, .int (x1)), (2, .int (x2)), (3, .int (x3)), (4, .int (x4))] [] ρ) {x0 : Nat} {x1 : Int32} {x2 : Int32} {x3 : Int32} {x4 : Int32} {σ : tM} (hm : J_X10_writeDirty_63 b0 fu rc6 x0 x1 x2 x3 x4 σ = some (v, τ)) : tX p l e s m args below meth c 5 8 133 D aC b0 σ0 (rxI "java/lang/IllegalStateException" v) τ 63 [(0, .ref (x0)), (1, .int (x1)), (2, .int (x2)), (3, .int (x3)), (4, .int (x4))] [] σ := by
  unfold J_X10_writeDirty_63 at hm
  refine zx_aload_n C dX10_writeDirty_63 0 rfl ?_
  obtain ⟨k24, i25, hm⟩ := ckO_e hm
  obtain ⟨a26, h27, hm⟩ := osm_e hm
  refine zx_get (j := 0) C tC_10 k24 i25 ⟨by decide, Or.inl W_2_213⟩ dX10_writeDirty_64 (.ref a26) (rf_s h27) ?_
  refine zx_aload_n C dX10_writeDirty_67 0 rfl ?_
  obtain ⟨a28, h29, hm⟩ := osm_e hm
  refine zx_get (j := 1) C tC_10 k24 i25 ⟨by decide, Or.inl W_2_214⟩ dX10_writeDirty_68 (.ref a28) (rf_s h29) ?_
  refine zx_iload C dX10_writeDirty_71 4 rfl ?_
  obtain ⟨k30, i31, hm⟩ := ckO_e hm
  obtain ⟨v32, ρ33, h34, hm⟩ := cll_e hm
  refine zx_callV (σ := σ) C [.int (x4)] tC_5 k30 i31 Y_X5_numberOf W_6_27 W_4_6 W_4_7 (c_X5_numberOf h34) (by decide) (by decide) rfl (Nat.le_of_ble_eq_true rfl) dX10_writeDirty_73 rfl ?_
  refine zx_aload_n C dX10_writeDirty_76 0 rfl ?_
  obtain ⟨k35, i36, hm⟩ := ckO_e hm
  obtain ⟨a37, h38, hm⟩ := osm_e hm
  refine zx_get (j := 1) C tC_10 k35 i36 ⟨by decide, Or.inl W_2_214⟩ dX10_writeDirty_77 (.ref a37) (rf_s h38) ?_
  refine zx_iload C dX10_writeDirty_80 4 rfl ?_
  obtain ⟨k39, i40, hm⟩ := ckO_e hm
  obtain ⟨v41, ρ42, h43, hm⟩ := cll_e hm
  refine zx_callV (σ := ρ33) C [.int (x4)] tC_5 k39 i40 Y_X5_birthOf W_6_48 W_6_49 W_6_50 (c_X5_birthOf h43) (by decide) (by decide) rfl (Nat.le_of_ble_eq_true rfl) dX10_writeDirty_82 rfl ?_
  obtain ⟨k44, i45, hm⟩ := ckO_e hm
  rcases clx_e hm with ⟨v46, ρ47, h48, hm⟩ | ⟨ρ47, h48, hm⟩
  · refine zx_callV (σ := ρ42) C [.int (v32), .int (v41)] tC_0 k44 i45 Y_X0_put W_6_52 W_3_229 W_3_230 (c_X0_put h48) (by decide) (by decide) rfl (Nat.le_of_ble_eq_true rfl) dX10_writeDirty_85 rfl ?_
    refine zx_aload_n C dX10_writeDirty_88 0 rfl ?_
    obtain ⟨k49, i50, hm⟩ := ckO_e hm
    obtain ⟨a51, h52, hm⟩ := osm_e hm
    refine zx_get (j := 0) C tC_10 k49 i50 ⟨by decide, Or.inl W_2_213⟩ dX10_writeDirty_89 (.ref a51) (rf_s h52) ?_
    refine zx_aload_n C dX10_writeDirty_92 0 rfl ?_
    obtain ⟨a53, h54, hm⟩ := osm_e hm
    refine zx_get (j := 1) C tC_10 k49 i50 ⟨by decide, Or.inl W_2_214⟩ dX10_writeDirty_93 (.ref a53) (rf_s h54) ?_
    obtain ⟨k55, i56, hm⟩ := ckO_e hm
    obtain ⟨a57, h58, hm⟩ := osm_e hm
    refine zx_get (j := 0) C tC_5 k55 i56 ⟨by decide, Or.inr ⟨_, W_1_96⟩⟩ dX10_writeDirty_96 (.ref a57) (rf_s h58) ?_
    refine zx_iload C dX10_writeDirty_99 4 rfl ?_
    refine zx_bipush (v := 32) C dX10_writeDirty_101 (by decide) ?_
    refine zx_imul C dX10_writeDirty_103 ?_
    obtain ⟨k59, i60, hm⟩ := ckO_e hm
    obtain ⟨v61, ρ62, h63, hm⟩ := cll_e hm
    refine zx_callV (σ := ρ47) C [.ref (a57), .int ((x4) * (32))] tC_0 k59 i60 Y_X0_giveBytes W_6_53 W_6_54 W_6_55 (c_X0_giveBytes h63) (by decide) (by decide) rfl (Nat.le_of_ble_eq_true rfl) dX10_writeDirty_104 rfl ?_
    refine zx_aload_n C dX10_writeDirty_107 0 rfl ?_
    obtain ⟨k64, i65, hm⟩ := ckO_e hm
    obtain ⟨a66, h67, hm⟩ := osm_e hm
    refine zx_get (j := 1) C tC_10 k64 i65 ⟨by decide, Or.inl W_2_214⟩ dX10_writeDirty_108 (.ref a66) (rf_s h67) ?_
    refine zx_iload C dX10_writeDirty_111 4 rfl ?_
    obtain ⟨k68, i69, hm⟩ := ckO_e hm
    obtain ⟨v70, ρ71, h72, hm⟩ := cll_e hm
    refine zx_callV (σ := ρ62) C [.int (x4)] tC_5 k68 i69 Y_X5_clean W_6_59 W_2_120 W_2_121 (c_X5_clean h72) (by decide) (by decide) rfl (Nat.le_of_ble_eq_true rfl) dX10_writeDirty_113 rfl ?_
    obtain ⟨y73, hy73⟩ : ∃ z : Int32, z = (x3) + Int32.ofInt 1 := ⟨_, rfl⟩
    replace hm := ltb_e hm hy73
    refine zx_iinc C [(3, .int (y73)), (0, .ref (x0)), (1, .int (x1)), (2, .int (x2)), (4, .int (x4))] dX10_writeDirty_116 3 rfl hy73.symm (by decide) rfl ?_
    exact zx_lv [1, 2, 3, 0, 4] [(0, .ref (x0)), (1, .int (x1)), (2, .int (x2)), (3, .int (y73)), (4, .int (x4))] rfl (j_X10_writeDirty_119 C htab hin hrc6   hm)
  · cases hm
    exact zx_outV (σ := ρ42) C htab [.int (v32), .int (v41)] tC_0 k44 i45 Y_X0_put W_6_52 W_3_229 W_3_230 (c_X0_put h48) rfl (by decide) (by decide) rfl (Nat.le_of_ble_eq_true rfl) dX10_writeDirty_85 rfl
set_option maxRecDepth 100000 in
set_option maxHeartbeats 1000000 in
theorem l_X10_writeDirty_6 {p : Program} {l : Launch} {e : Env} {s : State} {m : MethodId} {args : Array Value} {below : List Frame} {meth : Method} {c : Code} {D : va_G} {aC : Nat → ClassId} {b0 fu : Nat} {σ0 τ : tM} {v : (Int32) ⊕ Unit}  (C : tCx p l s m args meth c yX10_writeDirty.cls cX10_writeDirty 5 (some .int) D aC b0 σ0) (htab : ∀ x ∈ c.exceptionTable.toList, False) (hin : meth.name = yX10_writeDirty.name)  : ∀ (n : Nat) (x0 : Nat) (x1 : Int32) (x2 : Int32) (x3 : Int32) (x4 : Int32) (σ : tM), L_X10_writeDirty_6 b0 fu  n x0 x1 x2 x3 x4 σ = some (v, τ) → tX p l e s m args below meth c 5 8 133 D aC b0 σ0 (rxI "java/lang/IllegalStateException" v) τ 6 [(0, .ref (x0)), (1, .int (x1)), (2, .int (x2)), (3, .int (x3)), (4, .int (x4))] [] σ := by
  intro n
  induction n with
  | zero => intro x0 x1 x2 x3 x4 σ hm; unfold L_X10_writeDirty_6 at hm; cases hm
  | succ n ih =>
    intro x0 x1 x2 x3 x4 σ hm
    unfold L_X10_writeDirty_6 at hm
    obtain ⟨rc6, hrc⟩ : ∃ z, z = L_X10_writeDirty_6 b0 fu  n := ⟨_, rfl⟩
    replace hm := ltb_e hm hrc
    rw [← hrc] at ih
    have hrc6 := ih
    clear ih hrc
    refine zx_iload C dX10_writeDirty_6 4 rfl ?_
    refine zx_aload_n C dX10_writeDirty_8 0 rfl ?_
    obtain ⟨k1, i2, hm⟩ := ckO_e hm
    obtain ⟨a3, h4, hm⟩ := osm_e hm
    refine zx_get (j := 1) C tC_10 k1 i2 ⟨by decide, Or.inl W_2_214⟩ dX10_writeDirty_9 (.ref a3) (rf_s h4) ?_
    obtain ⟨k5, i6, hm⟩ := ckO_e hm
    refine zx_get (j := 7) C tC_5 k5 i6 ⟨by decide, Or.inr ⟨_, W_1_105⟩⟩ dX10_writeDirty_12 (.int (tI (σ) (a3) 7)) rfl ?_
    refine zx_icmp_ge C 125 dX10_writeDirty_15 (by decide) (fun c7 => ?_) (fun c7 => ?_)
    · replace hm := ip_e hm c7
      exact zx_lv [3] [(3, .int (x3))] rfl (j_X10_writeDirty_125 C htab hin    hm)
    · replace hm := in_e hm c7
      refine zx_iload_n C dX10_writeDirty_18 3 rfl ?_
      refine zx_iload_n C dX10_writeDirty_19 2 rfl ?_
      refine zx_icmp_ge C 125 dX10_writeDirty_20 (by decide) (fun c8 => ?_) (fun c8 => ?_)
      · replace hm := ip_e hm c8
        exact zx_lv [3] [(3, .int (x3))] rfl (j_X10_writeDirty_125 C htab hin    hm)
      · replace hm := in_e hm c8
        refine zx_aload_n C dX10_writeDirty_23 0 rfl ?_
        obtain ⟨a9, h10, hm⟩ := osm_e hm
        refine zx_get (j := 1) C tC_10 k1 i2 ⟨by decide, Or.inl W_2_214⟩ dX10_writeDirty_24 (.ref a9) (rf_s h10) ?_
        obtain ⟨k11, i12, hm⟩ := ckO_e hm
        refine zx_get (j := 13) C tC_5 k11 i12 ⟨by decide, Or.inr ⟨_, W_1_116⟩⟩ dX10_writeDirty_27 (.int (tI (σ) (a9) 13)) rfl ?_
        refine zx_if_le C 125 dX10_writeDirty_30 (by decide) (fun c13 => ?_) (fun c13 => ?_)
        · replace hm := ip_e hm c13
          exact zx_lv [3] [(3, .int (x3))] rfl (j_X10_writeDirty_125 C htab hin    hm)
        · replace hm := in_e hm c13
          refine zx_aload_n C dX10_writeDirty_33 0 rfl ?_
          obtain ⟨a14, h15, hm⟩ := osm_e hm
          refine zx_get (j := 1) C tC_10 k1 i2 ⟨by decide, Or.inl W_2_214⟩ dX10_writeDirty_34 (.ref a14) (rf_s h15) ?_
          refine zx_iload C dX10_writeDirty_37 4 rfl ?_
          obtain ⟨k16, i17, hm⟩ := ckO_e hm
          obtain ⟨v18, ρ19, h20, hm⟩ := cll_e hm
          refine zx_callV (σ := σ) C [.int (x4)] tC_5 k16 i17 Y_X5_isDirty W_6_40 W_6_41 W_6_42 (c_X5_isDirty h20) (by decide) (by decide) rfl (Nat.le_of_ble_eq_true rfl) dX10_writeDirty_39 rfl ?_
          refine zx_if_eq C 119 dX10_writeDirty_42 (by decide) (fun c21 => ?_) (fun c21 => ?_)
          · replace hm := ip_e hm c21
            exact zx_lv [0, 1, 2, 3, 4] [(0, .ref (x0)), (1, .int (x1)), (2, .int (x2)), (3, .int (x3)), (4, .int (x4))] rfl (j_X10_writeDirty_119 C htab hin hrc6   hm)
          · replace hm := in_e hm c21
            refine zx_iload_n C dX10_writeDirty_45 1 rfl ?_
            refine zx_iconst (v := (-1)) C dX10_writeDirty_46 (by decide) ?_
            refine zx_icmp_eq C 63 dX10_writeDirty_47 (by decide) (fun c23 => ?_) (fun c23 => ?_)
            · replace hm := ip_e hm c23
              exact zx_lv [0, 1, 2, 3, 4] [(0, .ref (x0)), (1, .int (x1)), (2, .int (x2)), (3, .int (x3)), (4, .int (x4))] rfl (j_X10_writeDirty_63 C htab hin hrc6   hm)
            · replace hm := in_e hm c23
              refine zx_aload_n C dX10_writeDirty_50 0 rfl ?_
              obtain ⟨k75, i76, hm⟩ := ckO_e hm
              obtain ⟨a77, h78, hm⟩ := osm_e hm
              refine zx_get (j := 1) C tC_10 k75 i76 ⟨by decide, Or.inl W_2_214⟩ dX10_writeDirty_51 (.ref a77) (rf_s h78) ?_
              refine zx_iload C dX10_writeDirty_54 4 rfl ?_
              obtain ⟨k79, i80, hm⟩ := ckO_e hm
              obtain ⟨v81, ρ82, h83, hm⟩ := cll_e hm
              refine zx_callV (σ := ρ19) C [.int (x4)] tC_5 k79 i80 Y_X5_ownerOf W_6_44 W_6_45 W_6_46 (c_X5_ownerOf h83) (by decide) (by decide) rfl (Nat.le_of_ble_eq_true rfl) dX10_writeDirty_56 rfl ?_
              refine zx_iload_n C dX10_writeDirty_59 1 rfl ?_
              refine zx_icmp_ne C 119 dX10_writeDirty_60 (by decide) (fun c84 => ?_) (fun c84 => ?_)
              · replace hm := in_e hm c84
                exact zx_lv [0, 1, 2, 3, 4] [(0, .ref (x0)), (1, .int (x1)), (2, .int (x2)), (3, .int (x3)), (4, .int (x4))] rfl (j_X10_writeDirty_119 C htab hin hrc6   hm)
              · replace hm := ip_e hm c84
                exact zx_lv [0, 1, 2, 3, 4] [(0, .ref (x0)), (1, .int (x1)), (2, .int (x2)), (3, .int (x3)), (4, .int (x4))] rfl (j_X10_writeDirty_63 C htab hin hrc6   hm)
set_option maxRecDepth 100000 in
set_option maxHeartbeats 1000000 in
theorem c_X10_writeDirty {l : Launch} {D : va_G} {aC : Nat → ClassId} {b0 fu : Nat} {a0 : Nat} {p0 : Int32} {p1 : Int32} {σ τ : tM} {v : (Int32) ⊕ Unit} (hm : m_X10_writeDirty b0 fu a0 p0 p1 σ = some (v, τ)) : tMt l D aC b0 yX10_writeDirty (Cond.code yX10_writeDirty cX10_writeDirty 5 (some .int)) 8 133 [.ref (a0), .int (p0), .int (p1)] σ (rxI "java/lang/IllegalStateException" v) τ := by
  unfold m_X10_writeDirty at hm
  obtain ⟨hg, hm⟩ := grw_e hm
  refine tMt_of (n := 0) rfl (Nat.le_of_ble_eq_true rfl) hg ?_
  intro p e s m below meth c C htab hin
  refine zx_lv [0, 1, 2] [(0, .ref (a0)), (1, .int (p0)), (2, .int (p1))] rfl ?_
  refine zx_iconst (v := 0) C dX10_writeDirty_0 (by decide) ?_
  refine zx_istore_n C [(3, .int (0)), (0, .ref (a0)), (1, .int (p0)), (2, .int (p1))] dX10_writeDirty_1 rfl (by decide) rfl ?_
  refine zx_bipush (v := 34) C dX10_writeDirty_2 (by decide) ?_
  refine zx_istore C [(4, .int (34)), (3, .int (0)), (0, .ref (a0)), (1, .int (p0)), (2, .int (p1))] dX10_writeDirty_4 (by decide) rfl ?_
  exact zx_lv [2, 3, 4, 1, 0] [(0, .ref (a0)), (1, .int (p0)), (2, .int (p1)), (3, .int (0)), (4, .int (34))] rfl (l_X10_writeDirty_6 C htab hin  _ _ _ _ _ _ _ hm)
